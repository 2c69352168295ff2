/-! ===== the invariant of the law's loop; a call of both sides ===== -/
def Inv (μ : Mm) : Prop := ∃ T N f, CI μ T ∧ MI μ T ∧ TXv N f ∧ TXc μ N f ∧ TXm μ N f
section IN
variable {μ ν : Mm} {T : TT} {N : Nat} {f : Nat → Nat}
theorem MI_C (h : MI μ T) (k : frC μ ν) : MI ν T := MI_same h (k.2 46 (by unfold isC; omega)) (k.2 48 (by unfold isC; omega)) (by rw [k.2 45 (by unfold isC; omega)])
theorem TXm_C (h : TXm μ N f) (k : frC μ ν) : TXm ν N f := ⟨by rw [k.2 45 (by unfold isC; omega)]; exact h.1, fun j hj => by rw [k.2 49 (by unfold isC; omega)]; exact h.2 j hj⟩
theorem MI_L (h : MI μ T) (k : frL μ ν) : MI ν T := MI_same h (k.2 46 (by omega)) (k.2 48 (by omega)) (by rw [k.2 45 (by omega)])
theorem TXm_L (h : TXm μ N f) (k : frL μ ν) : TXm ν N f := ⟨by rw [k.2 45 (by omega)]; exact h.1, fun j hj => by rw [k.2 49 (by omega)]; exact h.2 j hj⟩
theorem MI_O (h : MI μ T) (x : Int64) : MI (setOut μ x) T := MI_same h rfl rfl rfl
theorem CI_O (h : CI μ T) (x : Int64) : CI (setOut μ x) T := CI_same h rfl (fun _ _ _ => rfl)
theorem TXm_O (h : TXm μ N f) (x : Int64) : TXm (setOut μ x) N f := h
theorem TXc_O (h : TXc μ N f) (x : Int64) : TXc (setOut μ x) N f := h
theorem now20 (h : CI μ T) {p : Nat} (hp : p ≤ mNow μ + 20) : p < 45 := by
  have := h.1.1
  rcases this with z | z <;> omega
theorem CI_N (h : CI μ T) (k : frN μ ν) : CI ν T := CI_same h (by rw [k.1]) (fun p _ h2 => k.2.1 p (Or.inl (now20 h h2)))
theorem TXc_N (h : TXc μ N f) (k : frN μ ν) : TXc ν N f := ⟨by rw [k.2.1 1 (by omega)]; exact h.1, fun j hj => by rw [k.2.1 2 (by omega)]; exact h.2 j hj⟩
theorem TXm_N (h : TXm μ N f) (k : frN μ ν) : TXm ν N f := ⟨by rw [k.2.2]; exact h.1, fun j hj => by rw [k.2.1 49 (by omega)]; exact h.2 j hj⟩
theorem CI_B (h : CI μ T) (k : frB μ ν) : CI ν T := CI_same h (by rw [k.1]) (fun p _ h2 => k.2 p (now20 h h2))
theorem TXc_B (h : TXc μ N f) (k : frB μ ν) : TXc ν N f := ⟨by rw [k.2 1 (by omega)]; exact h.1, fun j hj => by rw [k.2 2 (by omega)]; exact h.2 j hj⟩
theorem CI_D (h : CI μ T) (k : frD μ ν) : CI ν T := CI_same h k.1 (fun p _ h2 => k.2.2.1 p (Or.inl (now20 h h2)))
theorem TXc_D (h : TXc μ N f) (k : frD μ ν) : TXc ν N f := ⟨by rw [k.2.2.1 1 (by omega)]; exact h.1, fun j hj => by rw [k.2.2.1 2 (by omega)]; exact h.2 j hj⟩
theorem CI_12 (h : CI μ T) (k : fr (fun p => p = 1 ∨ p = 2) μ ν) : CI ν T := CI_same h (by rw [k.1]) (fun p h1 _ => k.2 p (by have := h.1.1; rcases this with z | z <;> omega))
theorem fr12_L (k : fr (fun p => p = 1 ∨ p = 2) μ ν) : frL μ ν := ⟨by rw [k.1], fun p hp => k.2 p (by omega)⟩
theorem mOut_O (x : Int64) : mOut (setOut μ x) = x := rfl
/-- the law's comparison -/
theorem cmp_yes {k w : Int32} (h0 : ν.1 45 0 = k) (h1 : k = 0 → mOut ν = w.toInt64) : ((X4_thrown ν).bind fun q => (if q = k then (if k = 0 then (if (lg_cmp (mOut ν) w.toInt64) = 0 then some ν else none) else some ν) else none)) = some ν := by
  unfold X4_thrown
  rw [bi_eq, h0, if_pos rfl]
  by_cases q : k = 0
  · rw [if_pos q, if_pos ((lg_cmp_eq _ _).mpr (h1 q))]
  · rw [if_neg q]
theorem op_step (hM : MI μ T) (hv : TXv N f) (hTc : TXc μ N f) (hTm : TXm μ N f) {z : Rz} {c : String → Nat} {X3 : Option ((String ⊕ Int32) × Mm)} {ch : String → Mm → Option (Int32 × Mm)} {X4 : Mm → Option (Int32 × Mm)} (h3 : ∃ r, X3 = some r ∧ WR μ z r) (hch : ∀ E, z.1 = .inl E → (∀ m, ch E m = some (nI (c E), m)) ∧ ¬ (nI (c E) : Int32) = 0) (h4 : ∀ μ', MI μ' T → ∃ r, X4 μ' = some r ∧ MA μ' c z r) :
    ∃ μ', (bn (bn X3 fun y μ1 => thr y (fun E => ch E μ1) fun v => some (0, setOut μ1 v.toInt64)) fun k μ12 => bn (X4 μ12) fun w μ17 => (X4_thrown μ17).bind fun q => (if q = k then (if k = 0 then (if (lg_cmp (mOut μ17) w.toInt64) = 0 then some μ17 else none) else some μ17) else none)) = some μ' ∧ Inv μ' := by
  obtain ⟨r, e3, ν1, er, c1, f1⟩ := h3
  obtain ⟨z1, T'⟩ := z
  have er' : r = (z1, ν1) := er
  rw [e3, er', bn_eq]
  cases z1 with
  | inl E =>
    obtain ⟨g1, g2⟩ := hch E rfl
    obtain ⟨r4, e4, ν, w, rfl, i1, f4, hz⟩ := h4 ν1 (MI_C hM f1)
    have hz' : ν.1 45 0 = nI (c E) := hz
    rw [thr_l, g1, bn_eq, e4, bn_eq, cmp_yes hz' (fun q => absurd q g2)]
    exact ⟨ν, rfl, T', N, f, CI_N c1 f4, i1, hv, TXc_N (TXc_C hTc f1) f4, TXm_N (TXm_C hTm f1) f4⟩
  | inr v =>
    obtain ⟨r4, e4, ν, w, rfl, i1, f4, hz⟩ := h4 (setOut ν1 v.toInt64) (MI_O (MI_C hM f1) _)
    obtain ⟨z1, z2⟩ : ν.1 45 0 = 0 ∧ w = v := hz
    subst z2
    rw [thr_r, bn_eq, e4, bn_eq, cmp_yes z1 (fun _ => by unfold mOut; rw [f4.1]; rfl)]
    exact ⟨ν, rfl, T', N, f, CI_N (CI_O c1 _) f4, i1, hv, TXc_N (TXc_O (TXc_C hTc f1) _) f4, TXm_N (TXm_O (TXm_C hTm f1) _) f4⟩
theorem op_step2 (hC : CI μ T) (hM : MI μ T) (hv : TXv N f) (hTc : TXc μ N f) (hTm : TXm μ N f) {z : String ⊕ Int32} {c : String → Nat} {X3 : Option (String ⊕ Int32)} {ch : String → Mm → Option (Int32 × Mm)} {X4 : Mm → Option (Int32 × Mm)} (h3 : X3 = some z) (hch : ∀ E, z = .inl E → (∀ m, ch E m = some (nI (c E), m)) ∧ ¬ (nI (c E) : Int32) = 0) (h4 : ∀ μ', MI μ' T → ∃ r, X4 μ' = some r ∧ MA μ' c (z, T) r) :
    ∃ μ', (bn (X3.bind fun y => thr y (fun E => ch E μ) fun v => some (0, setOut μ v.toInt64)) fun k μ12 => bn (X4 μ12) fun w μ17 => (X4_thrown μ17).bind fun q => (if q = k then (if k = 0 then (if (lg_cmp (mOut μ17) w.toInt64) = 0 then some μ17 else none) else some μ17) else none)) = some μ' ∧ Inv μ' := by
  subst h3
  exact op_step hM hv hTc hTm (z := (z, T)) (c := c) (X3 := some (z, μ)) (ch := ch) (X4 := X4) ⟨_, rfl, μ, rfl, hC, frC_refl⟩ hch h4
theorem MR_MA {X : Option (Int32 × Mm)} {k n w : Nat} {T' : TT} {c : String → Nat} (h : ∃ r, X = some r ∧ MR μ w (if k = 0 then nI n else 0) (refu T k n T').2 r) (hw0 : k = 0 → w = 0) (hw : k ≠ 0 → w = c (xN k)) : ∃ r, X = some r ∧ MA μ c (refu T k n T') r := by
  obtain ⟨r, e, ν, rfl, i1, i2, i3⟩ := h
  refine ⟨_, e, ν, _, rfl, i1, i3, ?_⟩
  unfold refu
  by_cases q : k = 0
  · rw [if_pos q, if_pos q]
    rw [hw0 q] at i2
    exact ⟨i2, rfl⟩
  · rw [if_neg q]
    rw [hw q] at i2
    exact i2
end IN
/-! the refusals, as the law's tries number them -/
theorem xIA : ¬ xI = xA := by decide
theorem xIS : ¬ xI = xS := by decide
theorem xAI : ¬ xA = xI := by decide
theorem xAS : ¬ xA = xS := by decide
theorem xSI : ¬ xS = xI := by decide
theorem xSA : ¬ xS = xA := by decide
theorem cIAS_I : cIAS xI = 1 := if_pos rfl
theorem cIAS_A : cIAS xA = 2 := by unfold cIAS; rw [if_neg xAI, if_pos rfl]
theorem cIAS_S : cIAS xS = 3 := by unfold cIAS; rw [if_neg xSI, if_neg xSA]
theorem ch_IAS {E : String} (h : E = xI ∨ E = xA ∨ E = xS) : (∀ m : Mm, (if E = xI then some ((1 : Int32), m) else (if E = xA then some (2, m) else (if E = xS then some (3, m) else none))) = some (nI (cIAS E), m)) ∧ ¬ (nI (cIAS E) : Int32) = 0 := by
  rcases h with rfl | rfl | rfl
  · rw [cIAS_I]; exact ⟨fun m => by rw [if_pos rfl]; rfl, one0⟩
  · rw [cIAS_A]; exact ⟨fun m => by rw [if_neg xAI, if_pos rfl]; rfl, by decide⟩
  · rw [cIAS_S]; exact ⟨fun m => by rw [if_neg xSI, if_neg xSA, if_pos rfl]; rfl, by decide⟩
theorem ch_IA {E : String} (h : E = xI ∨ E = xA) : (∀ m : Mm, (if E = xI then some ((1 : Int32), m) else (if E = xA then some (2, m) else none)) = some (nI (cIAS E), m)) ∧ ¬ (nI (cIAS E) : Int32) = 0 := by
  rcases h with rfl | rfl
  · rw [cIAS_I]; exact ⟨fun m => by rw [if_pos rfl]; rfl, one0⟩
  · rw [cIAS_A]; exact ⟨fun m => by rw [if_neg xAI, if_pos rfl]; rfl, by decide⟩
theorem ch_I {E : String} (h : E = xI) : (∀ m : Mm, (if E = xI then some ((1 : Int32), m) else none) = some (nI (cIAS E), m)) ∧ ¬ (nI (cIAS E) : Int32) = 0 := by
  subst h
  rw [cIAS_I]; exact ⟨fun m => by rw [if_pos rfl]; rfl, one0⟩
theorem cIS_I : cIS xI = 1 := if_pos rfl
theorem cIS_S : cIS xS = 2 := by unfold cIS; rw [if_neg xSI]
theorem ch_IS {E : String} (h : E = xI ∨ E = xS) : (∀ m : Mm, (if E = xI then some ((1 : Int32), m) else (if E = xS then some (2, m) else none)) = some (nI (cIS E), m)) ∧ ¬ (nI (cIS E) : Int32) = 0 := by
  rcases h with rfl | rfl
  · rw [cIS_I]; exact ⟨fun m => by rw [if_pos rfl]; rfl, one0⟩
  · rw [cIS_S]; exact ⟨fun m => by rw [if_neg xSI, if_pos rfl]; rfl, by decide⟩
theorem cAI_A : cAI xA = 1 := if_pos rfl
theorem cAI_I : cAI xI = 2 := by unfold cAI; rw [if_neg xIA]
theorem ch_AI {E : String} (h : E = xA ∨ E = xI) : (∀ m : Mm, (if E = xA then some ((1 : Int32), m) else (if E = xI then some (2, m) else none)) = some (nI (cAI E), m)) ∧ ¬ (nI (cAI E) : Int32) = 0 := by
  rcases h with rfl | rfl
  · rw [cAI_A]; exact ⟨fun m => by rw [if_pos rfl]; rfl, one0⟩
  · rw [cAI_I]; exact ⟨fun m => by rw [if_neg xIA, if_pos rfl]; rfl, by decide⟩
theorem ch_A {E : String} (h : E = xA) : (∀ m : Mm, (if E = xA then some ((1 : Int32), m) else none) = some (nI (cAI E), m)) ∧ ¬ (nI (cAI E) : Int32) = 0 := by
  subst h
  rw [cAI_A]; exact ⟨fun m => by rw [if_pos rfl]; rfl, one0⟩
theorem cAS_A : cAS xA = 1 := if_pos rfl
theorem cAS_S : cAS xS = 2 := by unfold cAS; rw [if_neg xSA]
theorem ch_AS {E : String} (h : E = xA ∨ E = xS) : (∀ m : Mm, (if E = xA then some ((1 : Int32), m) else (if E = xS then some (2, m) else none)) = some (nI (cAS E), m)) ∧ ¬ (nI (cAS E) : Int32) = 0 := by
  rcases h with rfl | rfl
  · rw [cAS_A]; exact ⟨fun m => by rw [if_pos rfl]; rfl, one0⟩
  · rw [cAS_S]; exact ⟨fun m => by rw [if_neg xSA, if_pos rfl]; rfl, by decide⟩
theorem xN_1 : xN 1 = xI := rfl
theorem xN_2 : xN 2 = xA := rfl
theorem xN_3 : xN 3 = xS := rfl
theorem xN_c {k : Nat} (h : k ≤ 3) (h0 : k ≠ 0) : k = cIAS (xN k) := by
  have : k = 1 ∨ k = 2 ∨ k = 3 := by omega
  rcases this with rfl | rfl | rfl
  · rw [xN_1, cIAS_I]
  · rw [xN_2, cIAS_A]
  · rw [xN_3, cIAS_S]
theorem rfS_ne2 (T : TT) (x : Int32) : rfS T x ≠ 2 := by unfold rfS; repeat' split <;> try omega
theorem wS_c {T : TT} {x : Int32} (h0 : rfS T x ≠ 0) : wS (rfS T x) = cIS (xN (rfS T x)) := by
  have h1 := rfS_le T x
  have h2 := rfS_ne2 T x
  have : rfS T x = 1 ∨ rfS T x = 3 := by omega
  rcases this with z | z
  · rw [z, xN_1, cIS_I]; rfl
  · rw [z, xN_3, cIS_S]; rfl
theorem E_refu {T : TT} {k n : Nat} {T' : TT} {E : String} (hk : k ≤ 3) (h : (refu T k n T').1 = .inl E) : E = xI ∨ E = xA ∨ E = xS := by
  unfold refu at h
  by_cases q : k = 0
  · rw [if_pos q] at h; cases h
  · rw [if_neg q] at h
    have : k = 1 ∨ k = 2 ∨ k = 3 := by omega
    have h' : xN k = E := by injection h
    rcases this with z | z | z
    · rw [z, xN_1] at h'; exact Or.inl h'.symm
    · rw [z, xN_2] at h'; exact Or.inr (Or.inl h'.symm)
    · rw [z, xN_3] at h'; exact Or.inr (Or.inr h'.symm)
theorem E_addS {T : TT} {x : Int32} {E : String} (h : (sAddS T x).1 = .inl E) : E = xI ∨ E = xS := by
  have h2 := rfS_ne2 T x
  have h1 := rfS_le T x
  unfold sAddS refu at h
  by_cases q : rfS T x = 0
  · rw [if_pos q] at h; cases h
  · rw [if_neg q] at h
    have h' : xN (rfS T x) = E := by injection h
    have : rfS T x = 1 ∨ rfS T x = 3 := by omega
    rcases this with z | z
    · rw [z, xN_1] at h'; exact Or.inl h'.symm
    · rw [z, xN_3] at h'; exact Or.inr h'.symm
section EE
variable {T : TT} {E : String}
theorem E_rem {x y : Int32} (h : (sRem T x y).1 = .inl E) : E = xA ∨ E = xI := by
  unfold sRem at h
  repeat' split at h
  all_goals first | (injection h with h; exact Or.inl h.symm) | (injection h with h; exact Or.inr h.symm) | cases h
theorem E_res {x y z : Int32} (h : sRes T x y z = .inl E) : E = xI ∨ E = xA := by
  unfold sRes at h
  by_cases q1 : inb x (tS T) = true
  · rw [if_pos q1] at h
    by_cases q2 : inb y 26 = true
    · rw [if_pos q2] at h
      by_cases q3 : inb z 5 = true
      · rw [if_pos q3] at h; cases h
      · rw [if_neg q3] at h; injection h with h; exact Or.inr h.symm
    · rw [if_neg q2] at h; injection h with h; exact Or.inr h.symm
  · rw [if_neg q1] at h; injection h with h; exact Or.inl h.symm
theorem E_can {x y l i : Int32} (h : sCan T x y l i = .inl E) : E = xI ∨ E = xA := by
  unfold sCan at h
  by_cases q1 : inb x (tS T) = true
  · rw [if_pos q1] at h
    by_cases q2 : inb y 26 = true
    · rw [if_pos q2] at h; cases h
    · rw [if_neg q2] at h; injection h with h; exact Or.inr h.symm
  · rw [if_neg q1] at h; injection h with h; exact Or.inl h.symm
theorem E_off {x y : Int32} (h : sOff T x y = .inl E) : E = xI ∨ E = xA := by
  unfold sOff at h
  by_cases q1 : inb x (tS T) = true
  · rw [if_pos q1] at h
    by_cases q2 : inb y 26 = true
    · rw [if_pos q2] at h; cases h
    · rw [if_neg q2] at h; injection h with h; exact Or.inr h.symm
  · rw [if_neg q1] at h; injection h with h; exact Or.inl h.symm
theorem E_vis {x y : Int32} (h : sVis T x y = .inl E) : E = xI := by
  unfold sVis at h
  by_cases q1 : inb x (tS T) = true
  · rw [if_pos q1] at h; cases h
  · rw [if_neg q1] at h; injection h with h; exact h.symm
theorem E_par {x : Int32} (h : sPar T x = .inl E) : E = xI := by
  unfold sPar at h
  by_cases q1 : inb x (tS T) = true
  · rw [if_pos q1] at h; cases h
  · rw [if_neg q1] at h; injection h with h; exact h.symm
theorem E_ren {x y : Int32} (h : (sRen T x y).1 = .inl E) : E = xI ∨ E = xA := by
  unfold sRen at h
  by_cases q1 : inb x (tD T) = true
  · rw [if_pos q1] at h
    by_cases q2 : inb y 26 = true
    · rw [if_pos q2] at h; cases h
    · rw [if_neg q2] at h; injection h with h; exact Or.inr h.symm
  · rw [if_neg q1] at h; injection h with h; exact Or.inl h.symm
theorem E_ifR {x y z : Int32} (h : sIfR T x y z = .inl E) : E = xI ∨ E = xA := by
  unfold sIfR at h
  by_cases q1 : inb x (tD T) = true
  · rw [if_pos q1] at h
    by_cases q2 : inb y 26 = true
    · rw [if_pos q2] at h
      by_cases q3 : inb z 3 = true
      · rw [if_pos q3] at h
        repeat' split at h
        all_goals cases h
      · rw [if_neg q3] at h; injection h with h; exact Or.inr h.symm
    · rw [if_neg q2] at h; injection h with h; exact Or.inr h.symm
  · rw [if_neg q1] at h; injection h with h; exact Or.inl h.symm
theorem E_free {x : Int32} (h : sFree T x = .inl E) : E = xI := by
  unfold sFree at h
  by_cases q1 : inb x (tD T) = true
  · rw [if_pos q1] at h; cases h
  · rw [if_neg q1] at h; injection h with h; exact h.symm
theorem E_cnt {x : Int32} (h : sCnt T x = .inl E) : E = xA := by
  unfold sCnt at h
  by_cases q1 : inb x 11 = true
  · rw [if_pos q1] at h; cases h
  · rw [if_neg q1] at h; injection h with h; exact h.symm
theorem E_dcl {x y : Int32} (h : sDcl T x y = .inl E) : E = xI ∨ E = xA := by
  unfold sDcl at h
  by_cases q1 : inb x (tD T) = true
  · rw [if_pos q1] at h
    by_cases q2 : inb y 6 = true
    · rw [if_pos q2] at h; cases h
    · rw [if_neg q2] at h; injection h with h; exact Or.inr h.symm
  · rw [if_neg q1] at h; injection h with h; exact Or.inl h.symm
theorem E_imd {x y : Int32} (h : sImd T x y = .inl E) : E = xI ∨ E = xA := by
  unfold sImd at h
  by_cases q1 : inb x (tI T) = true
  · rw [if_pos q1] at h
    by_cases q2 : inb y 8 = true
    · rw [if_pos q2] at h; cases h
    · rw [if_neg q2] at h; injection h with h; exact Or.inr h.symm
  · rw [if_neg q1] at h; injection h with h; exact Or.inl h.symm
theorem E_usd {x y : Int32} (h : sUsd T x y = .inl E) : E = xI ∨ E = xA := by
  unfold sUsd at h
  by_cases q1 : inb x (tU T) = true
  · rw [if_pos q1] at h
    by_cases q2 : inb y 4 = true
    · rw [if_pos q2] at h; cases h
    · rw [if_neg q2] at h; injection h with h; exact Or.inr h.symm
  · rw [if_neg q1] at h; injection h with h; exact Or.inl h.symm
theorem E_app {N : Nat} {x : Int32} (h : sApp N x = .inl E) : E = xA ∨ E = xS := by
  unfold sApp at h
  by_cases q1 : okc x
  · rw [if_pos q1] at h
    by_cases q2 : N < 50
    · rw [if_pos q2] at h; cases h
    · rw [if_neg q2] at h; injection h with h; exact Or.inr h.symm
  · rw [if_neg q1] at h; injection h with h; exact Or.inl h.symm
end EE
