/-! ===== what the component changes: removing, renaming ===== -/
def xN (k : Nat) : String := if k = 1 then xI else if k = 2 then xA else xS
theorem needIndex_eq (x : Int32) {n : Nat} (hn : n < 2 ^ 31) : X3_needIndex x (nI n) = some (if inb x n = true then .inr () else .inl xI) := by
  unfold X3_needIndex X3_needIndex_j9
  by_cases h0 : x < 0
  · rw [if_pos h0, inb_neg h0]; rfl
  · rw [if_neg h0]
    by_cases h1 : nI n ≤ x
    · rw [if_neg (Int32.not_lt.mpr h1), inb_ge hn h1]; rfl
    · rw [if_pos (Int32.not_le.mp h1), inb_in hn h0 h1]; rfl
theorem needBelow_eq (x : Int32) {n : Nat} (hn : n < 2 ^ 31) : X3_needBelow x (nI n) = some (if inb x n = true then .inr () else .inl xA) := by
  unfold X3_needBelow X3_needBelow_j9
  by_cases h0 : x < 0
  · rw [if_pos h0, inb_neg h0]; rfl
  · rw [if_neg h0]
    by_cases h1 : nI n ≤ x
    · rw [if_neg (Int32.not_lt.mpr h1), inb_ge hn h1]; rfl
    · rw [if_pos (Int32.not_le.mp h1), inb_in hn h0 h1]; rfl
theorem throw_eq {k : Nat} (hk : k ≤ 3) : X3_throwIfRefused (nI k) = some (if k = 0 then .inr () else .inl (xN k)) := by
  have : k = 0 ∨ k = 1 ∨ k = 2 ∨ k = 3 := by omega
  unfold X3_throwIfRefused
  rcases this with rfl | rfl | rfl | rfl
  · rw [if_neg (by decide), if_neg (by decide), if_neg (by decide)]; rfl
  · rw [if_pos (by decide)]; rfl
  · rw [if_neg (by decide), if_pos (by decide)]; rfl
  · rw [if_neg (by decide), if_neg (by decide), if_pos (by decide)]; rfl
/-- what a change gives, and the facts after it -/
def WR (μ : Mm) (s : (String ⊕ Int32) × TT) (r : (String ⊕ Int32) × Mm) : Prop := ∃ ν, r = (s.1, ν) ∧ CI ν s.2 ∧ frC μ ν
def WI (μ : Mm) (s : Nat × TT) (r : Int32 × Mm) : Prop := ∃ ν, r = (nI s.1, ν) ∧ CI ν s.2 ∧ frC μ ν
theorem exchange_eq {μ : Mm} {T T' : TT} (h : CI μ T) (ho : FO μ (mOth μ) T') (hl : ∀ i, i < 20 → μ.1 (mOth μ + 13) i = -1) : ∃ ν, X3_exchange μ = some ν ∧ CI ν T' ∧ frC μ ν := by
  refine ⟨setOth (setNow μ (mOth μ)) (mNow μ), rfl, ⟨⟨h.1.2.1, h.1.1, fun e => h.1.2.2 e.symm⟩, ho, fun i hi => Or.inl (hl i (Nat.lt_of_lt_of_le hi ho.1.1.2.2.1.1))⟩, rfl, fun p _ => rfl⟩
theorem removeImport_eq {μ : Mm} {T : TT} (h : CI μ T) {i : Nat} (hi : i < tI T) : ∃ r, X3_removeImport (nI i) μ = some r ∧ WI μ (loss T i, delI T i) r := by
  obtain ⟨r, e1, ν, rfl, h2, h3⟩ := lossWithout_eq h hi
  obtain ⟨ν2, e2, c2, f2⟩ := dropImport_eq h2.1.1 h2.2.1.1.1 h2.2.1.1.2.1 hi
  obtain ⟨ν3, e3, c3, f3⟩ := now_settle h2 f2 (VT_delI h2.2.1.1.1 hi) c2
  unfold X3_removeImport
  rw [e1, bn_eq, e2, bi_eq, e3, bi_eq]
  exact ⟨_, rfl, ν3, rfl, c3, frC_tr h3 f3⟩
def drp (d m : Nat) : Nat := (m % 2 ^ d) ||| (m / 2 ^ (d + 1) * 2 ^ d)
theorem drp_bit (d m j : Nat) : (drp d m).testBit j = if j < d then m.testBit j else m.testBit (j + 1) := by
  unfold drp
  rw [Nat.testBit_or, Nat.testBit_mod_two_pow, Nat.testBit_mul_two_pow]
  by_cases q : j < d
  · rw [decide_eq_true q, if_pos q, decide_eq_false (by omega), Bool.true_and, Bool.false_and, Bool.or_false]
  · rw [decide_eq_false q, if_neg q, decide_eq_true (by omega), Bool.true_and, Bool.false_and, Bool.false_or, Nat.testBit_div_two_pow]
    congr 1
    omega
theorem drp_eq {d m : Nat} (hd : d < 30) (hm : m < 2 ^ 30) : (nI m &&& nI (2 ^ d - 1)) ||| ((nI m >>> (1 &&& 31)) &&& (nI (2 ^ d - 1) ^^^ (-1))) = nI (drp d m) := by
  rw [fa_and, show (1 : Int32) &&& 31 = nI 1 &&& 31 from rfl, shr0 (lt31 hm) (by decide), and_not, or_nI]
  congr 1
  refine Nat.eq_of_testBit_eq (fun j => ?_)
  rw [drp_bit, Nat.testBit_or, Nat.testBit_and, Nat.testBit_two_pow_sub_one]
  by_cases hj : j < 32
  · rw [nd_bit hj, Nat.testBit_two_pow_sub_one, Nat.testBit_div_two_pow]
    by_cases q : j < d
    · rw [decide_eq_true q, if_pos q, Bool.and_true, Bool.not_true, Bool.and_false, Bool.or_false]
    · rw [decide_eq_false q, if_neg q, Bool.and_false, Bool.not_false, Bool.and_true, Bool.false_or]
  · have e1 : (nd (m / 2 ^ 1) (2 ^ d - 1)).testBit j = false := Nat.testBit_lt_two_pow (Nat.lt_of_le_of_lt nd_le (Nat.lt_of_le_of_lt (Nat.div_le_self _ _) (Nat.lt_of_lt_of_le hm (Nat.pow_le_pow_right (by decide) (by omega)))))
    have e2 : m.testBit (j + 1) = false := Nat.testBit_lt_two_pow (Nat.lt_of_lt_of_le hm (Nat.pow_le_pow_right (by decide) (by omega)))
    rw [e1, if_neg (by omega), e2, decide_eq_false (by omega), Bool.and_false, Bool.or_false]
theorem drp_lt {d m : Nat} (hm : m < 2 ^ 30) : drp d m < 2 ^ 30 := by
  refine Nat.lt_pow_two_of_testBit _ (fun j hj => ?_)
  rw [drp_bit]
  have h : ∀ k, 30 ≤ k → m.testBit k = false := fun k hk => Nat.testBit_lt_two_pow (Nat.lt_of_lt_of_le hm (Nat.pow_le_pow_right (by decide) hk))
  by_cases q : j < d
  · rw [if_pos q]; exact h j hj
  · rw [if_neg q]; exact h (j + 1) (by omega)
/-- the uses that lose by a declaration's going -/
noncomputable def chD (T : TT) (d u : Nat) : Nat := @ite _ ((outU T (offOf T) u).testBit d = true) (instDecidableEqBool _ _) 1 (@ite _ (drp d (outU T (offOf T) u) = outU (delD T d) (offOf (delD T d)) u) (Nat.decEq _ _) 0 1)
theorem removeDeclaration_eq {μ : Mm} {T : TT} (h : CI μ T) {d : Nat} (hd : d < tD T) : ∃ r, X3_removeDeclaration (nI d) μ = some r ∧ WI μ (fb_sm (chD T d) (tU T), delD T d) r := by
  have hF := h.2.1.1
  have hV := hF.1
  have hD := hV.2.1.1
  have hU := hV.2.2.2.1
  obtain ⟨ν1, e1, c1, f1⟩ := copyFrom_eq (a0 := mOth μ) (a1 := mNow μ) (by have := apart h.1.1 h.1.2.1 h.1.2.2; omega) hV hF.2.1
  obtain ⟨ν2, e2, c2, f2⟩ := dropDeclaration_eq h.1.2.1 hV c1 hd
  obtain ⟨ν3, e3, c3, c7, c4, c5, c6⟩ := oth_settle h (fr_tr f1 f2) (VT_delD hV hd) c2
  have hn : mNow ν3 = mNow μ := now_eq c6
  have ho : mOth ν3 = mOth μ := oth_eq c6
  have c4F : FS ν3 (mNow μ) T (offOf T) := by have := c4.2.1.1; rw [hn] at this; exact this
  unfold X3_removeDeclaration
  rw [e1, bi_eq, oth_eq f1.1, e2, bi_eq, e3, bi_eq, one_pow (by omega), show (1 : Int32) = nI 1 from rfl, nI_sb (Nat.two_pow_pos d), bd_eq]
  refine it3m _ (fun m u2 u3 u4 ξ => ∃ u, u + m = tU T ∧ u2 = nI (fb_sm (chD T d) u) ∧ u3 = nI (2 ^ d - 1) ∧ u4 = nI u ∧ ξ = ν3) ?_ big (tU T) _ _ _ ν3 (by unfold big; omega) ⟨0, by omega, rfl, rfl, rfl, rfl⟩
  rintro kk m u2 u3 u4 ξ ⟨u, hm, rfl, rfl, rfl, rfl⟩ ih
  unfold X3_removeDeclaration_l37
  rw [hn, ho, c4F.2.1.1.2.2.2, ifLe (by omega) (by omega)]
  by_cases q3 : tU T ≤ u
  · have e : u = tU T := by omega
    subst e
    obtain ⟨ν, x1, x2, x3⟩ := exchange_eq c4 (by rw [ho]; exact c3) (by rw [ho]; exact c7)
    rw [if_pos q3, x1, bi_eq]
    exact ⟨_, rfl, ν, rfl, x2, frC_tr c5 x3⟩
  · have hu : u < tU T := by omega
    have hlt := outU_lt hV hF.2.2.2 hu
    rw [if_neg q3, outcome_eq c4F hu, bi_eq, drp_eq (by omega) hlt, bd_eq, bitZ (lt31 hlt) (by omega), bd_eq]
    have step : kk (nI (fb_sm (chD T d) u + chD T d u)) (nI (2 ^ d - 1)) (nI (u + 1)) ξ = kk (nI (fb_sm (chD T d) (u + 1))) (nI (2 ^ d - 1)) (nI (u + 1)) ξ := rfl
    cases hb : (outU T (offOf T) u).testBit d with
    | true =>
      have ec : chD T d u = 1 := by unfold chD; rw [if_pos hb]
      rw [if_neg (show ¬ true = false by decide), if_neg (show ¬ (1 : Int32) = 0 by decide)]
      unfold X3_removeDeclaration_j111
      rw [bd_eq, nI_1, nI_1, show fb_sm (chD T d) u + 1 = fb_sm (chD T d) (u + 1) by rw [fb_sm_succ, ec]]
      exact ih (m - 1) _ _ _ _ (by omega) ⟨u + 1, by omega, rfl, rfl, rfl, rfl⟩
    | false =>
      have ec : chD T d u = @ite _ (drp d (outU T (offOf T) u) = outU (delD T d) (offOf (delD T d)) u) (Nat.decEq _ _) 0 1 := by unfold chD; rw [if_neg (by rw [hb]; decide)]
      rw [if_pos rfl, if_pos rfl, outcome_eq c3.1 (T := delD T d) hu, bi_eq, ifEq (lt31 (drp_lt hlt)) (lt31 (outU_lt (VT_delD hV hd) c3.1.2.2.2 (T := delD T d) hu)), ite01, nI_add, bd_eq, nI_1, ← ec, step]
      exact ih (m - 1) _ _ _ _ (by omega) ⟨u + 1, by omega, rfl, rfl, rfl, rfl⟩
/-! renaming -/
/-- the lowest number below n with p -/
def low (p : Nat → Bool) : Nat → Nat → Option Nat
  | 0, _ => none
  | k + 1, i => if p i = true then some i else low p k (i + 1)
def fstC (T T' : TT) (X X' : OX) (d : Nat) (b : Bool) : Option Nat := low (fun u => (decide (outU T X u = 2 ^ d) == b) && !decide (outU T X u = outU T' X' u)) (tU T) 0
theorem low_lt {p : Nat → Bool} {x : Nat} : ∀ {k i : Nat}, low p k i = some x → x < i + k
  | 0, _, h => by cases h
  | k + 1, i, h => by
    unfold low at h
    by_cases q : p i = true
    · rw [if_pos q] at h; injection h with e; omega
    · rw [if_neg q] at h; have := low_lt h; omega
theorem firstChanged_eq {μ : Mm} {T T' : TT} {X X' : OX} (h1 : FS μ (mNow μ) T X) (h2 : FS μ (mOth μ) T' X') (hU : tU T' = tU T) {d : Nat} (hd : d < 30) (b : Bool) : X3_firstChanged (nI d) (nI b.toNat) μ = some (enc (fstC T T' X X' d b)) := by
  have hu30 := h1.1.2.2.2.1
  unfold X3_firstChanged fstC
  refine iq1 _ (fun m u3 => ∃ u, u + m = tU T ∧ u3 = nI u ∧ low (fun u => (decide (outU T X u = 2 ^ d) == b) && !decide (outU T X u = outU T' X' u)) (tU T) 0 = low (fun u => (decide (outU T X u = 2 ^ d) == b) && !decide (outU T X u = outU T' X' u)) m u) ?_ big (tU T) _ (by unfold big; omega) ⟨0, by omega, rfl, rfl⟩
  rintro kk m u3 ⟨u, hm, rfl, he⟩ ih
  unfold X3_firstChanged_l2
  rw [h1.2.1.1.2.2.2, ifLe (by omega) (by omega)]
  cases m with
  | zero =>
    rw [if_pos (by omega), he]
    rfl
  | succ m =>
    have hu : u < tU T := by omega
    have hl1 := outU_lt h1.1 h1.2.2.2 hu
    have hl2 := outU_lt h2.1 h2.2.2.2 (u := u) (by omega)
    have el : low (fun u => (decide (outU T X u = 2 ^ d) == b) && !decide (outU T X u = outU T' X' u)) (m + 1) u = if ((decide (outU T X u = 2 ^ d) == b) && !decide (outU T X u = outU T' X' u)) = true then some u else low (fun u => (decide (outU T X u = 2 ^ d) == b) && !decide (outU T X u = outU T' X' u)) m (u + 1) := rfl
    rw [if_neg (by omega), outcome_eq h1 hu, bi_eq, one_pow hd, ifEq (lt31 hl1) (lt31 (pow_lt hd)), ite10, bd_eq, nI_1, ifEq (by split <;> omega) (by cases b <;> decide)]
    have hbb : ((if outU T X u = 2 ^ d then 1 else 0) = b.toNat) = ((decide (outU T X u = 2 ^ d) == b) = true) := by
      by_cases q : outU T X u = 2 ^ d
      · rw [if_pos q, decide_eq_true q]; cases b <;> decide
      · rw [if_neg q, decide_eq_false q]; cases b <;> decide
    by_cases q : (decide (outU T X u = 2 ^ d) == b) = true
    · rw [if_pos (by rw [hbb]; exact q), outcome_eq h2 (by omega), bi_eq, ifEq (lt31 hl1) (lt31 hl2)]
      by_cases q2 : outU T X u = outU T' X' u
      · rw [if_pos q2]
        refine ih m _ (by omega) ⟨u + 1, by omega, rfl, ?_⟩
        rw [he, el, if_neg (by rw [decide_eq_true q2, Bool.not_true, Bool.and_false]; decide)]
      · rw [if_neg q2, he, el, if_pos (by rw [q, decide_eq_false q2]; rfl)]
        rfl
    · rw [if_neg (by rw [hbb]; exact q)]
      refine ih m _ (by omega) ⟨u + 1, by omega, rfl, ?_⟩
      rw [he, el, if_neg (fun z => q (by rw [Bool.and_eq_true] at z; exact z.1))]
noncomputable def renO (T : TT) (d n : Nat) : TT := ren T (offOf T) d n
noncomputable def fstR (T : TT) (d n : Nat) (b : Bool) : Option Nat := fstC T (renO T d n) (offOf T) (offOf (renO T d n)) d b
/-- why a renaming is refused -/
noncomputable def rsn (T : TT) (d n : Nat) : Nat := if (dOf T (dSc T d) n).isSome = true then 1 else if (fstR T d n true).isSome = true then 2 else if (fstR T d n false).isSome = true then 3 else 0
theorem encM {α : Type} {s t : α} {o : Option Nat} (ho : ∀ x, o = some x → x < 2 ^ 31) : (if enc o = -1 then s else t) = if o.isSome = true then t else s := by
  cases o with
  | none => rw [if_pos (show enc none = -1 from rfl), if_neg (show ¬ (none : Option Nat).isSome = true by decide)]
  | some x => rw [show enc (some x) = nI x from rfl, if_neg (nI_ne_m1 (ho x rfl)), if_pos (show (some x).isSome = true from rfl)]
theorem fst_lt {T : TT} (hV : VT T) (d n : Nat) (b : Bool) : ∀ x, fstR T d n b = some x → x < 2 ^ 31 := fun x hx => by
  have := low_lt hx
  have := hV.2.2.2.1
  omega
theorem reasonAgainst_eq {μ : Mm} {T : TT} (h : CI μ T) {d n : Nat} (hd : d < tD T) (hn : n < 26) : ∃ r, X3_reasonAgainst (nI d) (nI n) μ = some r ∧ (∃ ν, r = (nI (rsn T d n), ν) ∧ CI ν T ∧ frC μ ν ∧ ν.2 = μ.2 ∧ (rsn T d n ≠ 1 → dOf T (dSc T d) n = none ∧ FO ν (mOth ν) (renO T d n) ∧ ∀ i, i < 20 → ν.1 (mOth ν + 13) i = -1)) := by
  have hF := h.2.1.1
  have hV := hF.1
  have hD := hV.2.1.1
  have h16 := hV.1.2.1
  obtain ⟨v1, v2, v3⟩ := hV.2.1.2.1 d hd
  unfold X3_reasonAgainst
  rw [ck_nI (by omega) (by decide), bd_eq, nI_clamp (by omega), (hF.2.1.2.2.1 d hd).1, cell_nI, ck_nI (by omega) (by decide), nI_clamp (by omega), (hF.2.2.1 _ n (by omega) hn).2.1, lit_n 0, ifEq (lt31 (hF.lt hn 0)) (by decide)]
  have hown : layM T (offOf T) (dSc T d) n 0 = om (dOf T (dSc T d) n) := rfl
  rw [hown]
  cases hq : dOf T (dSc T d) n with
  | some e =>
    have ers : rsn T d n = 1 := by unfold rsn; rw [if_pos (by rw [hq]; rfl)]
    rw [if_neg (show ¬ om (some e) = 0 from Nat.ne_of_gt (Nat.two_pow_pos e)), ers]
    exact ⟨_, rfl, μ, rfl, h, frC_refl, rfl, fun z => absurd rfl z⟩
  | none =>
    have ers : rsn T d n = if (fstR T d n true).isSome = true then 2 else if (fstR T d n false).isSome = true then 3 else 0 := by unfold rsn; rw [if_neg (by rw [hq]; decide)]
    obtain ⟨ν1, e1, c1, f1⟩ := copyFrom_eq (a0 := mOth μ) (a1 := mNow μ) (by have := apart h.1.1 h.1.2.1 h.1.2.2; omega) hV hF.2.1
    have hF1 : FS ν1 (mNow μ) T (offOf T) := by
      have := apart h.1.1 h.1.2.1 h.1.2.2
      exact FS_same hF (fun p h1 h2 => f1.2 p (by unfold isRw; omega)) (fun p h1 h2 => f1.2 p (by unfold isRw; omega))
    obtain ⟨ν2, e2, c2, f2⟩ := giveName_eq h.1.2.1 (by have := apart h.1.1 h.1.2.1 h.1.2.2; omega) hF1 c1 hd hn
    obtain ⟨ν3, e3, c3, c7, c4, c5, c6⟩ := oth_settle h (fr_tr f1 f2) (VT_ren hV hd hn hq) c2
    have hnn : mNow ν3 = mNow μ := now_eq c6
    have ho : mOth ν3 = mOth μ := oth_eq c6
    have fc := fun b => firstChanged_eq (d := d) (T' := renO T d n) (X' := offOf (renO T d n)) c4.2.1.1 (by rw [ho]; exact c3.1) rfl (by omega) b
    have fc1 : X3_firstChanged (nI d) 1 ν3 = some (enc (fstR T d n true)) := fc true
    have fc0 : X3_firstChanged (nI d) 0 ν3 = some (enc (fstR T d n false)) := fc false
    rw [if_pos (show om none = 0 from rfl), e1, bi_eq, oth_eq f1.1, now_eq f1.1, e2, bi_eq, e3, bi_eq, fc1, bi_eq, encM (fst_lt hV d n true)]
    have fin : ∀ k, k = rsn T d n → ∃ r, some (nI k, ν3) = some r ∧ (∃ ν, r = (nI (rsn T d n), ν) ∧ CI ν T ∧ frC μ ν ∧ ν.2 = μ.2 ∧ (rsn T d n ≠ 1 → (none : Option Nat) = none ∧ FO ν (mOth ν) (renO T d n) ∧ ∀ i, i < 20 → ν.1 (mOth ν + 13) i = -1)) := by
      rintro k rfl
      exact ⟨_, rfl, ν3, rfl, c4, c5, c6, fun _ => ⟨rfl, by rw [ho]; exact c3, by rw [ho]; exact c7⟩⟩
    by_cases q1 : (fstR T d n true).isSome = true
    · rw [if_pos q1]
      exact fin 2 (by rw [ers, if_pos q1])
    · rw [if_neg q1, show (nI 0 : Int32) = 0 from rfl, fc0, bi_eq, encM (fst_lt hV d n false)]
      by_cases q2 : (fstR T d n false).isSome = true
      · rw [if_pos q2]
        exact fin 3 (by rw [ers, if_neg q1, if_pos q2])
      · rw [if_neg q2]
        exact fin 0 (by rw [ers, if_neg q1, if_neg q2])
noncomputable def utr (T : TT) (d : Nat) : Nat := fb_sm (fun u => if uNm T u = dNm T d ∧ outU T (offOf T) u = 2 ^ d then 1 else 0) (tU T)
theorem usesToRename_eq {μ : Mm} {T : TT} (h : CI μ T) {d : Nat} (hd : d < tD T) : X3_usesToRename (nI d) μ = some (nI (utr T d)) := by
  have hF := h.2.1.1
  have hU := hF.1.2.2.2.1
  refine cnt_loop _ (by omega) (fun k acc => ?_) (fun k acc i hi => ?_)
  · unfold X3_usesToRename_l4
    rw [hF.2.1.1.2.2.2, ifLe (by omega) (by omega), if_pos (Nat.le_refl _)]
  · unfold X3_usesToRename_l4
    rw [hF.2.1.1.2.2.2, ifLe (by omega) (by omega), if_neg (by omega), followsRenaming_eq hF hi hd, bi_eq]
    by_cases q : uNm T i = dNm T d ∧ outU T (offOf T) i = 2 ^ d
    · rw [if_pos q, if_neg one0, bd_eq, nI_1, nI_1]
    · rw [if_neg q, if_pos zero0, bd_eq, nI_1, show nI acc + 0 = nI (acc + 0) from nI_add acc 0]
