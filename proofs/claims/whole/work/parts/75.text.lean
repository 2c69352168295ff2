/-! ===== the buffer: its codes, and how both sides read it ===== -/
def cE (s : Nat) : Bool := decide (s = 5) || decide (s = 7) || decide (10 ≤ s)
def scl (c : Nat) : Bool := decide (65 ≤ c) && decide (c ≤ 80)
def ltl (c : Nat) : Bool := decide (97 ≤ c) && decide (c ≤ 122)
/-- the step behind a code that ends no item -/
def tk (s c : Nat) : Option Nat := if s = 0 then (if scl c = true then some 1 else none)
  else if s = 1 then (if c = 94 then some 11 else if c = 60 then some 3 else if c = 46 then some 2 else if c = 45 then some 2 else if c = 63 then some 2 else none)
  else if s = 2 then (if ltl c = true then some 11 else none)
  else if s = 3 then (if c = 60 then some 4 else if scl c = true then some 5 else none)
  else if s = 4 then (if scl c = true then some 5 else none)
  else if s = 5 then (if c = 46 then some 6 else if c = 47 then some 9 else none)
  else if s = 6 then (if ltl c = true then some 7 else none)
  else if s = 7 then (if c = 61 then some 8 else none)
  else if s = 8 then (if ltl c = true then some 11 else none)
  else if s = 11 then none
  else (if ltl c = true then some 10 else none)
def nx (s c : Nat) : Option Nat := if c = 44 ∧ cE s = true then some 0 else tk s c
def sgm (s : Nat) : Nat := [1, 2, 3, 5, 6, 7, 8, 9, 3, 10, 11, 4].getD s 0
def sgo (o : Option Nat) : Nat := match o with
  | none => 0
  | some s => sgm s
set_option maxRecDepth 100000 in
theorem after_tab : ∀ s, s < 12 → ∀ c, c < 127 → X2_after (nI (sgm s)) (nI c) = some (nI (sgo (nx s c))) := by decide +kernel
set_option maxRecDepth 100000 in
theorem after_0 : ∀ c, c < 127 → X2_after (nI 0) (nI c) = some (nI 0) := by decide +kernel
def ltO (o : Option Nat) : Bool := match o with
  | none => true
  | some s => decide (s < 12)
set_option maxRecDepth 100000 in
theorem nx_ok : ∀ s, s < 12 → ∀ c, c < 127 → ltO (nx s c) = true := by decide +kernel
theorem nx_lt {s c s' : Nat} (hs : s < 12) (hc : c < 127) (h : nx s c = some s') : s' < 12 := by
  have := nx_ok s hs c hc
  rw [h] at this
  exact of_decide_eq_true this
theorem sgm_pos : ∀ s, s < 12 → sgm s ≠ 0 ∧ sgm s < 12 := by decide
/-- the first code that can't be taken -/
def fwG (f : Nat → Nat) : Nat → Nat → Nat → Nat
  | 0, k, _ => k
  | m + 1, k, s => match nx s (f k) with
    | none => k
    | some s' => fwG f m (k + 1) s'
def fsG (f : Nat → Nat) : Nat → Nat → Nat → Option Nat
  | 0, _, s => some s
  | m + 1, k, s => match nx s (f k) with
    | none => none
    | some s' => fsG f m (k + 1) s'
theorem fwG_none {f : Nat → Nat} {m k s : Nat} (h : nx s (f k) = none) : fwG f (m + 1) k s = k := by
  show (match nx s (f k) with
    | none => k
    | some s' => fwG f m (k + 1) s') = k
  rw [h]
theorem fwG_some {f : Nat → Nat} {m k s s' : Nat} (h : nx s (f k) = some s') : fwG f (m + 1) k s = fwG f m (k + 1) s' := by
  show (match nx s (f k) with
    | none => k
    | some s' => fwG f m (k + 1) s') = fwG f m (k + 1) s'
  rw [h]
theorem fsG_none {f : Nat → Nat} {m k s : Nat} (h : nx s (f k) = none) : fsG f (m + 1) k s = none := by
  show (match nx s (f k) with
    | none => none
    | some s' => fsG f m (k + 1) s') = none
  rw [h]
theorem fsG_some {f : Nat → Nat} {m k s s' : Nat} (h : nx s (f k) = some s') : fsG f (m + 1) k s = fsG f m (k + 1) s' := by
  show (match nx s (f k) with
    | none => none
    | some s' => fsG f m (k + 1) s') = fsG f m (k + 1) s'
  rw [h]
theorem fwG_le (f : Nat → Nat) : ∀ m k s, fwG f m k s ≤ k + m
  | 0, k, _ => Nat.le_refl _
  | m + 1, k, s => by
    unfold fwG
    cases h : nx s (f k) with
    | none => show k ≤ _; omega
    | some s' => have := fwG_le f m (k + 1) s'; show fwG f m (k + 1) s' ≤ _; omega
theorem fwG_fsG (f : Nat → Nat) : ∀ m k s, fwG f m k s = k + m ↔ (fsG f m k s).isSome = true
  | 0, k, _ => ⟨fun _ => rfl, fun _ => rfl⟩
  | m + 1, k, s => by
    unfold fwG fsG
    cases h : nx s (f k) with
    | none => exact ⟨fun (z : k = k + (m + 1)) => by omega, fun z => by cases z⟩
    | some s' =>
      have := fwG_fsG f m (k + 1) s'
      show fwG f m (k + 1) s' = k + (m + 1) ↔ _
      rw [show k + (m + 1) = k + 1 + m by omega]
      exact this
def TXv (N : Nat) (f : Nat → Nat) : Prop := N ≤ 50 ∧ ∀ k, k < N → 33 ≤ f k ∧ f k ≤ 126
def TXc (μ : Mm) (N : Nat) (f : Nat → Nat) : Prop := μ.1 1 1 = nI N ∧ ∀ k, k < N → μ.1 2 k = nI (f k)
def TXm (μ : Mm) (N : Nat) (f : Nat → Nat) : Prop := μ.1 45 5 = nI N ∧ ∀ k, k < N → μ.1 49 k = nI (f k)
def cmpl (f : Nat → Nat) (N : Nat) : Bool := match fsG f N 0 0 with
  | none => false
  | some s => cE s
section TX
variable {μ : Mm} {N : Nat} {f : Nat → Nat}
theorem firstWrong_eq (hv : TXv N f) (hT : TXc μ N f) : X2_firstWrong μ = some (nI (fwG f N 0 0)) := by
  have hN := hv.1
  unfold X2_firstWrong
  refine iq2 _ (fun m v1 v2 => ∃ k s, k + m = N ∧ v1 = nI (sgm s) ∧ v2 = nI k ∧ s < 12 ∧ fwG f N 0 0 = fwG f m k s) ?_ big N _ _ (by unfold big; omega) ⟨0, 0, by omega, rfl, rfl, by decide, rfl⟩
  rintro kk m v1 v2 ⟨k, s, hm, rfl, rfl, hs, he⟩ ih
  unfold X2_firstWrong_l4
  rw [hT.1, ifLe (by omega) (by omega)]
  cases m with
  | zero =>
    rw [if_pos (by omega), he, show fwG f 0 k s = k from rfl, show N = k by omega]
  | succ m =>
    have hc := (hv.2 k (by omega)).2
    rw [if_neg (by omega), ck_nI (by omega) (by decide), nI_clamp (by omega), hT.2 k (by omega), after_tab s hs (f k) (by omega), bi_eq, nI_1]
    cases hx : nx s (f k) with
    | none =>
      rw [fwG_none hx] at he
      rw [if_pos (show nI (sgo none) = 0 from rfl), he]
    | some s' =>
      rw [fwG_some hx] at he
      obtain ⟨g1, g2⟩ := sgm_pos s' (nx_lt hs (by omega) hx)
      rw [show sgo (some s') = sgm s' from rfl, if_neg (show ¬ nI (sgm s') = (0 : Int32) from fun z => g1 ((nI_eq (b := 0) (by omega) (by decide)).mp z))]
      exact ih m _ _ (by omega) ⟨k + 1, s', by omega, rfl, rfl, nx_lt hs (by omega) hx, he⟩
theorem fin_tab : ∀ s, s < 12 → (if nI (sgm s) = 4 then (1 : Int32) else (if nI (sgm s) = 7 then (1 : Int32) else (if nI (sgm s) = 9 then (1 : Int32) else (if nI (sgm s) = 11 then (1 : Int32) else 0)))) = nI (if cE s = true then 1 else 0) := by decide +kernel
theorem isComplete_eq (hv : TXv N f) (hT : TXc μ N f) : X2_isComplete μ = some (nI (if cmpl f N = true then 1 else 0)) := by
  have hN := hv.1
  unfold X2_isComplete
  refine iq2 _ (fun m v1 v2 => ∃ k o, k + m = N ∧ v1 = nI (sgo o) ∧ v2 = nI k ∧ (∀ s, o = some s → s < 12) ∧ fsG f N 0 0 = o.bind (fsG f m k)) ?_ big N _ _ (by unfold big; omega) ⟨0, some 0, by omega, rfl, rfl, fun s h => by injection h with e; omega, rfl⟩
  rintro kk m v1 v2 ⟨k, o, hm, rfl, rfl, hs, he⟩ ih
  unfold X2_isComplete_l4
  rw [hT.1, ifLe (by omega) (by omega)]
  cases m with
  | zero =>
    rw [if_pos (by omega)]
    unfold cmpl
    rw [he]
    cases o with
    | none => rfl
    | some s => exact congrArg some (fin_tab s (hs s rfl))
  | succ m =>
    have hc := (hv.2 k (by omega)).2
    rw [if_neg (by omega), ck_nI (by omega) (by decide), nI_clamp (by omega), hT.2 k (by omega), nI_1]
    cases o with
    | none =>
      rw [show sgo none = 0 from rfl, after_0 (f k) (by omega), bi_eq]
      exact ih m _ _ (by omega) ⟨k + 1, none, by omega, rfl, rfl, (fun s h => by cases h), he⟩
    | some s =>
      rw [show sgo (some s) = sgm s from rfl, after_tab s (hs s rfl) (f k) (by omega), bi_eq]
      refine ih m _ _ (by omega) ⟨k + 1, nx s (f k), by omega, rfl, rfl, fun s' h => nx_lt (hs s rfl) (by omega) h, ?_⟩
      rw [he]
      show fsG f (m + 1) k s = _
      cases hx : nx s (f k) with
      | none => rw [fsG_none hx]; rfl
      | some s' => rw [fsG_some hx]; rfl
/-! append, clearBuffer -/
def okc (x : Int32) : Prop := ¬ x < 33 ∧ ¬ 126 < x
theorem okc_of {x : Int32} (h : okc x) : 33 ≤ x.toNatClampNeg ∧ x.toNatClampNeg ≤ 126 ∧ x = nI x.toNatClampNeg := by
  have h0 : ¬ x < 0 := fun z => h.1 (Int32.lt_trans z (by decide))
  obtain ⟨c1, c2⟩ := nonneg_of h0
  obtain ⟨a, b⟩ := h
  generalize x.toNatClampNeg = j at c1 c2
  subst c2
  rw [show (33 : Int32) = nI 33 from rfl, nI_ltI c1 (by decide)] at a
  rw [show (126 : Int32) = nI 126 from rfl, nI_ltI (by decide) c1] at b
  exact ⟨by omega, by omega, rfl⟩
noncomputable def sApp (N : Nat) (x : Int32) : String ⊕ Int32 := @ite _ (okc x) (Classical.propDecidable _) (if N < 50 then .inr (nI (N + 1)) else .inl xS) (.inl xA)
noncomputable def apN (N : Nat) (x : Int32) : Nat := @ite _ (okc x ∧ N < 50) (Classical.propDecidable _) (N + 1) N
noncomputable def apF (N : Nat) (f : Nat → Nat) (x : Int32) : Nat → Nat := @ite _ (okc x ∧ N < 50) (Classical.propDecidable _) (pt f N x.toNatClampNeg) f
theorem TXv_ap (hv : TXv N f) (x : Int32) : TXv (apN N x) (apF N f x) := by
  unfold apN apF
  by_cases q : okc x ∧ N < 50
  · rw [if_pos q, if_pos q]
    obtain ⟨a, b, c⟩ := okc_of q.1
    refine ⟨by omega, fun k hk => ?_⟩
    by_cases e : k = N
    · rw [e, pt_at]; exact ⟨a, b⟩
    · rw [pt_ne _ _ e]; exact hv.2 k (by omega)
  · rw [if_neg q, if_neg q]; exact hv
theorem append_eq (hv : TXv N f) (hT : TXc μ N f) (x : Int32) : ∃ ν, X3_append x μ = some (sApp N x, ν) ∧ TXc ν (apN N x) (apF N f x) ∧ fr (fun p => p = 1 ∨ p = 2) μ ν := by
  have hN := hv.1
  unfold X3_append X3_append_j12 sApp apN apF
  by_cases q1 : x < 33
  · rw [if_pos q1, if_neg (fun z => z.1 q1), if_neg (fun z => z.1.1 q1), if_neg (fun z => z.1.1 q1)]
    exact ⟨μ, rfl, hT, fr_refl⟩
  · rw [if_neg q1]
    by_cases q2 : 126 < x
    · rw [if_neg (Int32.not_le.mpr q2), if_neg (fun z => z.2 q2), if_neg (fun z => z.1.2 q2), if_neg (fun z => z.1.2 q2)]
      exact ⟨μ, rfl, hT, fr_refl⟩
    · rw [if_pos (Int32.not_lt.mp q2), hT.1, show (50 : Int32) = nI 50 from rfl, ifLt (by omega) (by decide), if_pos (show okc x from ⟨q1, q2⟩)]
      by_cases q3 : N < 50
      · obtain ⟨a, b, c⟩ := okc_of ⟨q1, q2⟩
        have hq : okc x ∧ N < 50 := ⟨⟨q1, q2⟩, q3⟩
        unfold X2_put
        rw [if_pos q3, if_pos q3, if_pos hq, if_pos hq, hT.1, show (50 : Int32) = nI 50 from rfl, ifLe (by decide) (by omega), if_neg (by omega), ck_nI q3 (by decide), bd_eq, nI_clamp (by omega), setI_n _ _ _ (show (1 : Nat) ≠ 2 by decide), hT.1, nI_1, bd_eq, bn_eq, setI_same]
        refine ⟨_, rfl, ⟨setI_same _ _ _ _, fun k hk => ?_⟩, rfl, fun p hp => ?_⟩
        · rw [setI_n _ _ _ (by decide), setI_at]
          by_cases e : k = N
          · rw [if_pos e, e, pt_at]; exact c
          · rw [if_neg e, pt_ne _ _ e]; exact hT.2 k (by omega)
        · rw [setI_n _ _ _ (fun z => hp (Or.inl z)), setI_n _ _ _ (fun z => hp (Or.inr z))]
      · rw [if_neg q3, if_neg q3, if_neg (show ¬ (okc x ∧ N < 50) from fun z => q3 z.2), if_neg (show ¬ (okc x ∧ N < 50) from fun z => q3 z.2)]
        exact ⟨μ, rfl, hT, fr_refl⟩
def cAS (E : String) : Nat := if E = xA then 1 else 2
theorem within_raw (x a b : Int32) : X4_within x a b = some (if x < a then 0 else if b < x then 0 else 1) := rfl
/-- the model's frame for the buffer -/
def frB (μ ν : Mm) : Prop := ν.2 = μ.2 ∧ ∀ p, p < 45 → ν.1 p = μ.1 p
theorem appendM_eq {T : TT} (hI : MI μ T) (hv : TXv N f) (hT : TXm μ N f) (x : Int32) : ∃ w ν, X4_append x μ = some (w, ν) ∧ MI ν T ∧ TXm ν (apN N x) (apF N f x) ∧ frB μ ν ∧ match sApp N x with
  | .inl E => ν.1 45 0 = nI (cAS E)
  | .inr v => ν.1 45 0 = 0 ∧ w = v := by
  have hN := hv.1
  have tx0 : ∀ s0, TXm (setI μ 45 0 s0) N f := fun s0 => ⟨by rw [setI_ne _ _ _ _ (by decide)]; exact hT.1, fun k hk => by rw [setI_n _ _ _ (by decide)]; exact hT.2 k hk⟩
  have fb0 : ∀ s0, frB μ (setI μ 45 0 s0) := fun s0 => ⟨rfl, fun p hp => setI_n _ _ _ (by omega)⟩
  unfold X4_append X4_append_j30 sApp apN apF
  rw [within_raw, bi_eq]
  by_cases q1 : x < 33
  · rw [if_pos q1, if_pos rfl, bd_eq, setI_same, if_neg (by decide), if_neg (show ¬ okc x from fun z => z.1 q1), if_neg (show ¬ (okc x ∧ N < 50) from fun z => z.1.1 q1), if_neg (show ¬ (okc x ∧ N < 50) from fun z => z.1.1 q1)]
    exact ⟨0, _, rfl, MI_wrong hI _, tx0 _, fb0 _, setI_same _ _ _ _⟩
  · rw [if_neg q1]
    by_cases q2 : 126 < x
    · rw [if_pos q2, if_pos rfl, bd_eq, setI_same, if_neg (by decide), if_neg (show ¬ okc x from fun z => z.2 q2), if_neg (show ¬ (okc x ∧ N < 50) from fun z => z.1.2 q2), if_neg (show ¬ (okc x ∧ N < 50) from fun z => z.1.2 q2)]
      exact ⟨0, _, rfl, MI_wrong hI _, tx0 _, fb0 _, setI_same _ _ _ _⟩
    · rw [if_neg q2, if_neg (by decide), hT.1, show (50 : Int32) = nI 50 from rfl, ifEq (by omega) (by decide), if_pos (show okc x from ⟨q1, q2⟩), bd_eq, setI_same]
      by_cases q3 : N < 50
      · obtain ⟨a, b, c⟩ := okc_of ⟨q1, q2⟩
        have hq : okc x ∧ N < 50 := ⟨⟨q1, q2⟩, q3⟩
        rw [if_neg (show ¬ N = 50 by omega), if_pos (show (0 : Int32) ≤ 0 by decide), if_pos q3, if_pos hq, if_pos hq, setI_ne _ _ _ _ (show (5 : Nat) ≠ 0 by decide), hT.1, ck_nI q3 (by decide), bd_eq, nI_clamp (by omega), setI_n _ _ _ (show (45 : Nat) ≠ 49 by decide), setI_ne _ _ _ _ (show (5 : Nat) ≠ 0 by decide), hT.1, nI_1, bd_eq, setI_same]
        refine ⟨_, _, rfl, MI_put (MI_put (MI_wrong hI _) (by omega)) (by omega), ⟨setI_same _ _ _ _, fun k hk => ?_⟩, ⟨rfl, fun p hp => ?_⟩, ?_, rfl⟩
        · rw [setI_n _ _ _ (by decide), setI_at]
          by_cases e : k = N
          · rw [if_pos e, e, pt_at]; exact c
          · rw [if_neg e, pt_ne _ _ e, setI_n _ _ _ (by decide)]; exact hT.2 k (by omega)
        · rw [setI_n _ _ _ (by omega), setI_n _ _ _ (by omega), setI_n _ _ _ (by omega)]
        · rw [setI_ne _ _ _ _ (by decide), setI_n _ _ _ (by decide), setI_same]
      · rw [if_pos (show N = 50 by omega), if_neg (show ¬ (2 : Int32) ≤ 0 by decide), if_neg q3, if_neg (show ¬ (okc x ∧ N < 50) from fun z => q3 z.2), if_neg (show ¬ (okc x ∧ N < 50) from fun z => q3 z.2)]
        exact ⟨0, _, rfl, MI_wrong hI _, tx0 _, fb0 _, setI_same _ _ _ _⟩
end TX
