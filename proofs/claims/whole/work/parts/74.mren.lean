/-! ===== the model's rename, ifRenamed, freeName ===== -/
noncomputable def agV (T : TT) (d n : Nat) : Int32 := if rsn T d n = 2 then enc (fstR T d n true) else if rsn T d n = 3 then enc (fstR T d n false) else -1
noncomputable def prR (T : TT) (d n : Nat) (b : Bool) (u : Nat) : Bool := (decide (outU T (offOf T) u = 2 ^ d) == b) && !decide (outU T (offOf T) u = outU (renO T d n) (offOf (renO T d n)) u)
theorem fstR_low (T : TT) (d n : Nat) (b : Bool) : fstR T d n b = low (prR T d n b) (tU T) 0 := rfl
theorem low_s (p : Nat → Bool) (k i : Nat) : low p (k + 1) i = if p i = true then some i else low p k (i + 1) := rfl
theorem dOf_self {T : TT} {d : Nat} (hd : d < tD T) : (dOf T (dSc T d) (dNm T d)).isSome = true := by
  cases h : dOf T (dSc T d) (dNm T d) with
  | none => exact absurd ⟨rfl, rfl⟩ (dIn_none.mp h d hd)
  | some e => rfl
theorem nI_m1_neg {c : Nat} (hc : c < 2 ^ 31) : (nI c - 1 < 0) ↔ c = 0 := by
  cases c with
  | zero => exact ⟨fun _ => rfl, fun _ => by decide⟩
  | succ c =>
    rw [show (1 : Int32) = nI 1 from rfl, nI_sb (by omega), Nat.add_sub_cancel]
    exact ⟨fun z => absurd z (nI_pos (by omega)), fun z => by omega⟩
theorem frS_Z {μ ν : Mm} (h : frS μ ν) : frZ μ ν := frW_Z (frS_W h)
theorem frZ_put {μ ν : Mm} (h : frZ μ ν) {a k : Nat} {v : Int32} (ha : 45 ≤ a ∧ a ≠ 49 ∧ ¬ (a = 45 ∧ k = 5) ∧ ¬ (a = 45 ∧ k = 0)) : frZ μ (setI ν a k v) := ⟨frN_put h.1 (by omega), by rw [sg, if_neg (by omega)]; exact h.2⟩
theorem frZ_copy {μ ν ξ : Mm} (h : frZ μ ν) {a : Nat} (ha : a = 46 ∨ a = 47) (b2 : ∀ p, p ≠ a → p ≠ 45 → ξ.1 p = ν.1 p) (d2 : ∀ j, j ≠ 4 → ξ.1 45 j = ν.1 45 j) (g2 : ξ.2 = ν.2) : frZ μ ξ :=
  frZ_tr h ⟨⟨g2, fun p hp => b2 p (by omega) (by omega), d2 5 (by decide)⟩, d2 0 (by decide)⟩
section MRn
variable {μ : Mm} {T : TT}
/-- the uses from the last down to the first: the lowest captured and the lowest capturing -/
theorem renames_loop {μ0 ν3 : Mm} {d n : Nat} (hV : VT T) (hd : d < tD T) (hX : IsOff T (offOf T)) (h0 : MF μ0 T) (lk : Int32) (h3 : MI ν3 (renO T d n)) (hf : frZ μ ν3) (h47 : ∀ j, j < 290 → ν3.1 47 j = μ0.1 46 j) (hw : wasO ν3 (tU T) (fun u => nI (outU T (offOf T) u))) {w : Int32} (h24 : ν3.1 45 24 = w)
    (hers : rsn T d n = if (fstR T d n true).isSome = true then 2 else if (fstR T d n false).isSome = true then 3 else 0) :
    ∃ r, itr (X4_renames_l137 (nI d) (nI n) lk) (fun _ _ _ _ => none) big (-1) (-1) (nI (tU T) - 1) ν3 = some r ∧ (∃ ν, r = (nI (rsn T d n), ν) ∧ MI ν (if lk = 0 ∧ rsn T d n = 0 then renO T d n else T) ∧ frZ μ ν ∧ ν.1 45 23 = agV T d n ∧ ν.1 45 24 = w) := by
  have hU := hV.2.2.2.1
  have hD := hV.2.1.1
  have hlow : ∀ b c, c ≤ tU T → ∀ x, low (prR T d n b) (tU T - c) c = some x → x < 2 ^ 31 := fun b c hc x hx => by have := low_lt hx; omega
  refine it3m _ (fun m v4 v5 v6 ξ => ∃ c, m = c ∧ c ≤ tU T ∧ v6 = nI c - 1 ∧ v4 = enc (low (prR T d n true) (tU T - c) c) ∧ v5 = enc (low (prR T d n false) (tU T - c) c) ∧ MI ξ (renO T d n) ∧ frS ν3 ξ) ?_ big (tU T) _ _ _ ν3 (by unfold big; omega) ⟨tU T, rfl, Nat.le_refl _, rfl, by rw [Nat.sub_self]; rfl, by rw [Nat.sub_self]; rfl, h3, frS_refl⟩
  rintro k137 m v4 v5 v6 ξ ⟨c, rfl, hc, rfl, rfl, rfl, hI, hg⟩ ih
  unfold X4_renames_l137
  cases m with
  | zero =>
    have l1 := hlow true 0 (Nat.zero_le _)
    have l2 := hlow false 0 (Nat.zero_le _)
    rw [if_pos ((nI_m1_neg (by decide)).mpr rfl)]
    rw [Nat.sub_zero] at l1 l2 ⊢
    rw [← fstR_low, ← fstR_low]
    rw [← fstR_low] at l1 l2
    have ers : (if enc (fstR T d n true) = -1 then (if enc (fstR T d n false) = -1 then (0 : Int32) else 3) else 2) = nI (rsn T d n) := by
      rw [encM l1, encM l2, hers]
      by_cases q1 : (fstR T d n true).isSome = true
      · rw [if_pos q1, if_pos q1]; rfl
      · rw [if_neg q1, if_neg q1]
        by_cases q2 : (fstR T d n false).isSome = true
        · rw [if_pos q2, if_pos q2]; rfl
        · rw [if_neg q2, if_neg q2]; rfl
    have eag : (if enc (fstR T d n true) = -1 then enc (fstR T d n false) else enc (fstR T d n true)) = agV T d n := by
      rw [encM l1]
      unfold agV
      rw [hers]
      by_cases q1 : (fstR T d n true).isSome = true
      · rw [if_pos q1, if_pos q1, if_pos rfl]
      · rw [if_neg q1, if_neg q1]
        by_cases q2 : (fstR T d n false).isSome = true
        · rw [if_pos q2, if_neg (by decide), if_pos rfl]
        · rw [if_neg q2, if_neg (by decide), if_neg (by decide)]
          cases hq : fstR T d n false with
          | none => rfl
          | some x => rw [hq] at q2; exact absurd rfl q2
    have hle := rsn_le T d n
    have le0 : (nI (rsn T d n) : Int32) ≤ 0 ↔ rsn T d n ≤ 0 := nI_leI (b := 0) (by omega) (by decide)
    have hg' : frZ μ (setI ξ 45 23 (agV T d n)) := frZ_put (frZ_tr hf (frS_Z hg)) (by omega)
    have g24 : (setI ξ 45 23 (agV T d n)).1 45 24 = w := by rw [setI_ne _ _ _ _ (by decide), hg.2.2 24 (by decide) (by decide)]; exact h24
    have back : ¬ (lk = 0 ∧ rsn T d n = 0) → ∃ r, X4_renames_j274 (nI d) (nI n) lk (nI (rsn T d n)) (setI ξ 45 23 (agV T d n)) = some r ∧ (∃ ν, r = (nI (rsn T d n), ν) ∧ MI ν (if lk = 0 ∧ rsn T d n = 0 then renO T d n else T) ∧ frZ μ ν ∧ ν.1 45 23 = agV T d n ∧ ν.1 45 24 = w) := fun hno => by
      obtain ⟨ν5, e5, a5, b5, c5, d5, g5⟩ := copy_eq (a1 := 47) (a2 := 46) (by decide) (by decide) (by decide) (by decide) (setI ξ 45 23 (agV T d n))
      unfold X4_renames_j274
      rw [e5, bi_eq, if_neg hno]
      refine ⟨_, rfl, ν5, rfl, ⟨hV, MF_ext hV h0 (fun j hj => ?_), Or.inl c5⟩, frZ_copy hg' (Or.inl rfl) b5 d5 g5, ?_, ?_⟩
      · rw [a5 j hj, setI_n _ _ _ (by decide), hg.2.1 47 (by omega)]; exact h47 j hj
      · rw [d5 23 (by decide), setI_same]
      · rw [d5 24 (by decide)]; exact g24
    rw [ers, eag, bd_eq, bd_eq]
    by_cases q : lk = 0
    · rw [if_pos q]
      by_cases q2 : rsn T d n = 0
      · rw [if_pos (le0.mpr (by omega)), if_pos ⟨q, q2⟩]
        exact ⟨_, rfl, _, rfl, MI_put hI (by omega), hg', setI_same _ _ _ _, g24⟩
      · rw [if_neg (fun z => q2 (by have := le0.mp z; omega))]
        exact back (fun z => q2 z.2)
    · rw [if_neg q]
      exact back (fun z => q z.1)
  | succ c =>
    have hu : c < tU T := by omega
    have hT' : tU (renO T d n) = tU T := rfl
    have ev : nI (c + 1) - 1 = nI c := by rw [show (1 : Int32) = nI 1 from rfl, nI_sb (by omega), Nat.add_sub_cancel]
    have ek : tU T - c = tU T - (c + 1) + 1 := by omega
    have hl1 := outU_lt hV hX.1 hu
    have hl2 := outU_lt hI.1 (MI_off hI).1 (u := c) (by rw [hT']; exact hu)
    obtain ⟨r, e, ξ', rfl, l, f⟩ := outcomeOf_eq hI (u := c) (by rw [hT']; exact hu)
    have hwu : ξ'.1 53 c = nI (outU T (offOf T) c) := by rw [f.2.1 53 (by omega), hg.2.1 53 (by omega)]; exact hw c hu
    have hsub : nI c + (-1) = nI c - 1 := (Int32.sub_eq_add_neg (nI c) 1).symm
    rw [ev, if_neg (nI_pos (by omega)), e, bn_eq, ck_nI (by omega) (by decide), nI_clamp (by omega), hwu, ifEq (lt31 hl2) (lt31 hl1), bd_eq]
    by_cases q : outU (renO T d n) (offOf (renO T d n)) c = outU T (offOf T) c
    · have hpr : ∀ b, prR T d n b c = false := fun b => by unfold prR; rw [decide_eq_true q.symm, Bool.not_true, Bool.and_false]
      rw [if_pos q, if_pos rfl]
      unfold X4_renames_j188 X4_renames_j190 X4_renames_j215
      rw [if_pos rfl, hsub]
      refine ih c _ _ _ _ (by omega) ⟨c, rfl, by omega, rfl, ?_, ?_, ML_MI l, frS_tr hg f⟩
      · rw [ek, low_s, hpr, if_neg (by decide)]
      · rw [ek, low_s, hpr, if_neg (by decide)]
    · have hne : decide (outU T (offOf T) c = outU (renO T d n) (offOf (renO T d n)) c) = false := decide_eq_false (fun z => q z.symm)
      have hpr : ∀ b, prR T d n b c = (decide (outU T (offOf T) c = 2 ^ d) == b) := fun b => by unfold prR; rw [hne, Bool.not_false, Bool.and_true]
      rw [if_neg q, if_neg (show ¬ (1 : Int32) = 0 by decide), ck_nI (by omega) (by decide), one_pow (by omega), ifEq (lt31 hl1) (lt31 (pow_lt (by omega))), bd_eq, if_neg (show ¬ (1 : Int32) = 0 by decide), ck_nI (by omega) (by decide), ifEq (lt31 hl1) (lt31 (pow_lt (by omega))), bd_eq, hsub]
      refine ih c _ _ _ _ (by omega) ⟨c, rfl, by omega, rfl, ?_, ?_, ML_MI l, frS_tr hg f⟩
      · rw [ek, low_s, hpr]
        by_cases q2 : outU T (offOf T) c = 2 ^ d
        · rw [if_pos q2, decide_eq_true q2, if_pos (by decide)]; rfl
        · rw [if_neg q2, decide_eq_false q2, if_neg (by decide)]
      · rw [ek, low_s, hpr]
        by_cases q2 : outU T (offOf T) c = 2 ^ d
        · rw [if_pos q2, decide_eq_true q2, if_neg (by decide)]
        · rw [if_neg q2, decide_eq_false q2, if_pos (by decide)]; rfl
theorem renames_eq (h : MI μ T) {d n : Nat} (hd : d < tD T) (hn : n < 26) (lk : Int32) : ∃ r, X4_renames (nI d) (nI n) lk μ = some r ∧ (∃ ν, r = (nI (rsn T d n), ν) ∧ MI ν (if lk = 0 ∧ rsn T d n = 0 then renO T d n else T) ∧ frZ μ ν ∧ ν.1 45 23 = agV T d n ∧ ν.1 45 24 = nI (utr T d)) := by
  have hV := h.1
  have hU := hV.2.2.2.1
  have hD := hV.2.1.1
  have h16 := hV.1.2.1
  obtain ⟨v1, v2, v3⟩ := hV.2.1.2.1 d hd
  obtain ⟨ν1, e1, i1, f1, w1, z1⟩ := layOutcomes_eq h
  unfold X4_renames
  rw [e1, bi_eq, bd_eq, bd_eq]
  refine it1m _ (fun m v4 ν => ∃ u, u + m = tU T ∧ v4 = nI u ∧ MI ν T ∧ frZ μ ν ∧ wasO ν (tU T) (fun u => nI (outU T (offOf T) u)) ∧ ν.1 45 23 = -1 ∧ ν.1 45 24 = nI (fb_sm (fun u => if uNm T u = dNm T d ∧ outU T (offOf T) u = 2 ^ d then 1 else 0) u)) ?_ big (tU T) _ _ (by unfold big; omega) ⟨0, by omega, rfl, MI_put (MI_put i1 (by omega)) (by omega), frZ_put (frZ_put (frW_Z f1) (by omega)) (by omega), fun u hu => by rw [setI_n _ _ _ (by decide), setI_n _ _ _ (by decide)]; exact w1 u hu, by rw [setI_ne _ _ _ _ (by decide), setI_same], by rw [setI_same]; rfl⟩
  rintro k17 m v4 ν ⟨u, hm, rfl, hI, hf, hw, h23, h24⟩ ih
  unfold X4_renames_l17
  rw [show ck (3 : Int32) 290 = ck (nI 3) 290 from rfl, ck_nI (by decide) (by decide), show (3 : Int32).toNatClampNeg = 3 from rfl, hI.2.1.1.2.2.2, ifLe (by omega) (by omega)]
  by_cases q : tU T ≤ u
  · have eu : u = tU T := by omega
    subst eu
    have clash : (dOf T (dSc T d) n).isSome = true → ∃ r, some ((1 : Int32), ν) = some r ∧ (∃ ν, r = (nI (rsn T d n), ν) ∧ MI ν (if lk = 0 ∧ rsn T d n = 0 then renO T d n else T) ∧ frZ μ ν ∧ ν.1 45 23 = agV T d n ∧ ν.1 45 24 = nI (utr T d)) := fun hq => by
      have ers : rsn T d n = 1 := by unfold rsn; rw [if_pos hq]
      unfold agV
      rw [ers, if_neg (show ¬ (lk = 0 ∧ (1 : Nat) = 0) from fun z => absurd z.2 (by decide)), if_neg (show ¬ (1 : Nat) = 2 by decide), if_neg (show ¬ (1 : Nat) = 3 by decide)]
      exact ⟨_, rfl, ν, rfl, hI, hf, h23, h24⟩
    rw [if_pos q, of1 hI.2.1 hV hd, bi_eq, ifEq (by omega) (by omega)]
    by_cases q2 : n = dNm T d
    · rw [if_pos q2]
      exact clash (by rw [q2]; exact dOf_self hd)
    · rw [if_neg q2, of0 hI.2.1 hV hd, bi_eq, declaredIn_eq hI.2.1 hV (by omega) (by omega), bi_eq]
      cases hq : dOf T (dSc T d) n with
      | some e =>
        have := (dOf_some hq).1
        rw [show enc (some e) = nI e from rfl, if_neg (nI_ne_m1 (by omega))]
        exact clash (by rw [hq]; rfl)
      | none =>
        have hers : rsn T d n = if (fstR T d n true).isSome = true then 2 else if (fstR T d n false).isSome = true then 3 else 0 := by unfold rsn; rw [if_neg (by rw [hq]; decide)]
        obtain ⟨ν2, e2, a2, b2, c2, d2, g2⟩ := copy_eq (a1 := 46) (a2 := 47) (by decide) (by decide) (by decide) (by decide) ν
        have M2 : MI ν2 T := ⟨hV, MF_same hI.2.1 (b2 46 (by decide) (by decide)), Or.inl c2⟩
        obtain ⟨ν3, e3, i3, f3, f47, f53⟩ := changeNamesM_eq M2 hd hn hq (fun u hu => by rw [b2 53 (by decide) (by decide)]; exact hw u hu)
        rw [if_pos (show enc none = -1 from rfl), e2, bi_eq, e3, bi_eq, ck_nI (by decide) (by decide), i3.2.1.1.2.2.2, bd_eq, show tU (renO T d n) = tU T from rfl]
        refine renames_loop hV hd (MI_off h) hI.2.1 lk i3 (frZ_tr (frZ_copy hf (Or.inr rfl) b2 d2 g2) (frW_Z f3)) (fun j hj => ?_) (fun u hu => ?_) ?_ hers
        · rw [f47]; exact a2 j hj
        · rw [f53, b2 53 (by decide) (by decide)]; exact hw u hu
        · rw [f3.2.2 24 (by decide) (by decide), d2 24 (by decide)]; exact h24
  · have hu : u < tU T := by omega
    have hun := (hV.2.2.2.2 u hu).2
    have hl1 := outU_lt hV (MI_off h).1 hu
    have es : fb_sm (fun u => if uNm T u = dNm T d ∧ outU T (offOf T) u = 2 ^ d then 1 else 0) (u + 1) = fb_sm (fun u => if uNm T u = dNm T d ∧ outU T (offOf T) u = 2 ^ d then 1 else 0) u + (if uNm T u = dNm T d ∧ outU T (offOf T) u = 2 ^ d then 1 else 0) := rfl
    have fin : ∀ w, w = nI (fb_sm (fun u => if uNm T u = dNm T d ∧ outU T (offOf T) u = 2 ^ d then 1 else 0) (u + 1)) → ∃ r, k17 (nI (u + 1)) (setI ν 45 24 w) = some r ∧ (∃ ν, r = (nI (rsn T d n), ν) ∧ MI ν (if lk = 0 ∧ rsn T d n = 0 then renO T d n else T) ∧ frZ μ ν ∧ ν.1 45 23 = agV T d n ∧ ν.1 45 24 = nI (utr T d)) := by
      rintro w rfl
      exact ih (m - 1) _ _ (by omega) ⟨u + 1, by omega, rfl, MI_put hI (by omega), frZ_put hf (by omega), fun v hv => by rw [setI_n _ _ _ (by decide)]; exact hw v hv, by rw [setI_ne _ _ _ _ (by decide)]; exact h23, setI_same _ _ _ _⟩
    rw [if_neg q, useName_eq hI.2.1 hV hu, bi_eq, of1 hI.2.1 hV hd, bi_eq, ifEq (by omega) (by omega), h24, nI_1]
    by_cases q2 : uNm T u = dNm T d
    · rw [if_pos q2, ck_nI (by omega) (by decide), nI_clamp (by omega), hw u hu, one_pow (by omega), ifEq (lt31 hl1) (lt31 (pow_lt (by omega))), bd_eq]
      refine fin _ ?_
      rw [es]
      by_cases q3 : outU T (offOf T) u = 2 ^ d
      · rw [if_pos q3, if_pos ⟨q2, q3⟩, nI_1]
      · rw [if_neg q3, if_neg (fun z => q3 z.2)]
        exact Int32.add_zero _
    · rw [if_neg q2]
      unfold X4_renames_j65 X4_renames_j66
      rw [bd_eq, nI_1]
      refine fin _ ?_
      rw [es, if_neg (fun z => q2 z.1)]
      exact Int32.add_zero _
theorem renameM_eq (h : MI μ T) (x y : Int32) : ∃ r, X4_rename x y μ = some r ∧ MA μ cIAS (sRen T x y) r := by
  have hD := h.1.2.1.1
  unfold X4_rename X4_rename_j25 sRen
  rw [isDeclaration_eq h.1 h.2.1, bi_eq]
  by_cases q : inb x (tD T) = true
  · obtain ⟨a1, a2⟩ := inb_cl q (by omega)
    rw [if_pos q, if_pos q, if_neg one0, isNameM_eq, bi_eq]
    by_cases qy : inb y 26 = true
    · obtain ⟨b1', b2⟩ := inb_cl qy (by omega)
      rw [if_pos qy, if_pos qy]
      refine gd_yes h (by decide) (fun μ' h' => ?_)
      obtain ⟨r, e, ν, rfl, i1, f1, -, -⟩ := renames_eq h' a1 b1' 0
      rw [← a2, ← b2] at e
      rw [bn_id]
      refine ⟨_, e, ν, rfl, ?_, f1⟩
      by_cases q0 : rsn T x.toNatClampNeg y.toNatClampNeg = 0
      · rw [if_pos q0]; rw [if_pos ⟨rfl, q0⟩] at i1; exact i1
      · rw [if_neg q0]; rw [if_neg (fun z => q0 z.2)] at i1; exact i1
    · rw [if_neg qy, if_neg qy]
      exact gd_no h (k := 2) (by decide) (by decide) n2le _
  · rw [if_neg q, if_neg q, if_pos zero0]
    exact gd_no h (k := 1) (by decide) (by decide) n1le _
theorem ifRenamedM_eq (h : MI μ T) (x y z : Int32) : ∃ r, X4_ifRenamed x y z μ = some r ∧ MA μ cIAS (sIfR T x y z, T) r := by
  have hD := h.1.2.1.1
  unfold X4_ifRenamed X4_ifRenamed_j33 X4_ifRenamed_j34 sIfR
  rw [isDeclaration_eq h.1 h.2.1, bi_eq]
  by_cases q : inb x (tD T) = true
  · obtain ⟨a1, a2⟩ := inb_cl q (by omega)
    rw [if_pos q, if_pos q, if_neg one0, isNameM_eq, bi_eq]
    by_cases qy : inb y 26 = true
    · obtain ⟨b1', b2⟩ := inb_cl qy (by omega)
      rw [if_pos qy, if_pos qy, if_neg one0, show X4_within z 0 2 = _ from within0 z (n := 3) (by decide), bi_eq]
      by_cases qz : inb z 3 = true
      · rw [if_pos qz, if_pos qz]
        have eq : (if z = 2 then Sum.inr (nI (utr T x.toNatClampNeg)) else if z = 0 then .inr (nI (rsn T x.toNatClampNeg y.toNatClampNeg)) else if rsn T x.toNatClampNeg y.toNatClampNeg = 2 then .inr (enc (fstR T x.toNatClampNeg y.toNatClampNeg true)) else if rsn T x.toNatClampNeg y.toNatClampNeg = 3 then .inr (enc (fstR T x.toNatClampNeg y.toNatClampNeg false)) else .inr (-1) : String ⊕ Int32) = .inr (if z = 0 then nI (rsn T x.toNatClampNeg y.toNatClampNeg) else if z = 1 then agV T x.toNatClampNeg y.toNatClampNeg else nI (utr T x.toNatClampNeg)) := by
          unfold agV
          obtain ⟨j, hj, rfl⟩ := inb_of qz (by decide)
          have hcase : j = 0 ∨ j = 1 ∨ j = 2 := by omega
          rcases hcase with rfl | rfl | rfl
          · rw [if_neg (by decide), if_pos (by decide), if_pos (by decide)]
          · rw [if_neg (show ¬ nI 1 = (2 : Int32) by decide), if_neg (show ¬ nI 1 = (0 : Int32) by decide), if_neg (show ¬ nI 1 = (0 : Int32) by decide), if_pos (show nI 1 = (1 : Int32) from rfl)]
            by_cases r2 : rsn T x.toNatClampNeg y.toNatClampNeg = 2
            · rw [if_pos r2, if_pos r2]
            · rw [if_neg r2, if_neg r2]
              by_cases r3 : rsn T x.toNatClampNeg y.toNatClampNeg = 3
              · rw [if_pos r3, if_pos r3]
              · rw [if_neg r3, if_neg r3]
          · rw [if_pos (by decide), if_neg (by decide), if_neg (by decide)]
        rw [eq]
        refine gd_yes h (by decide) (fun μ' h' => ?_)
        obtain ⟨r, e, ν, rfl, i1, f1, g23, g24⟩ := renames_eq h' a1 b1' 1
        rw [← a2, ← b2] at e
        rw [if_neg (fun w => absurd w.1 (by decide))] at i1
        rw [e, bn_eq, g23, g24]
        by_cases z0 : z = 0
        · rw [if_pos z0, if_pos z0]
          exact ⟨_, rfl, ν, rfl, i1, f1⟩
        · rw [if_neg z0, if_neg z0]
          by_cases z1 : z = 1
          · rw [if_pos z1, if_pos z1]
            exact ⟨_, rfl, ν, rfl, i1, f1⟩
          · rw [if_neg z1, if_neg z1]
            exact ⟨_, rfl, ν, rfl, i1, f1⟩
      · rw [if_neg qz, if_neg qz]
        exact gd_no h (k := 2) (by decide) (by decide) n2le _
    · rw [if_neg qy, if_neg qy, if_pos zero0]
      exact gd_no h (k := 2) (by decide) (by decide) n2le _
  · rw [if_neg q, if_neg q, if_pos zero0]
    exact gd_no h (k := 1) (by decide) (by decide) n1le _
theorem freeNameM_eq (h : MI μ T) (x : Int32) : ∃ r, X4_freeName x μ = some r ∧ MA μ cIAS (sFree T x, T) r := by
  have hD := h.1.2.1.1
  unfold X4_freeName sFree
  rw [isDeclaration_eq h.1 h.2.1, bi_eq]
  by_cases q : inb x (tD T) = true
  · obtain ⟨a1, a2⟩ := inb_cl q (by omega)
    rw [if_pos q, if_pos q]
    refine gd_yes h (by decide) (fun μ' h' => ?_)
    refine it1m _ (fun m v2 ν => ∃ n, n + m = 26 ∧ v2 = nI n ∧ MI ν T ∧ frZ μ' ν ∧ low (fun n => rsn T x.toNatClampNeg n == 0) 26 0 = low (fun n => rsn T x.toNatClampNeg n == 0) m n) ?_ big 26 _ μ' (by decide) ⟨0, rfl, rfl, h', frZ_refl, rfl⟩
    rintro k28 m v2 ν ⟨n, hm, rfl, hI, hf, he⟩ ih
    unfold X4_freeName_l28 X4_freeName_j50
    rw [show (26 : Int32) = nI 26 from rfl, ifLe (by decide) (by omega), ifLe (by decide) (by omega)]
    cases m with
    | zero =>
      rw [if_pos (by omega), if_pos (by omega), he]
      exact ⟨_, rfl, ν, rfl, hI, hf⟩
    | succ m =>
      obtain ⟨r, e, ξ, rfl, i1, f1, -, -⟩ := renames_eq hI a1 (n := n) (by omega) 1
      rw [← a2] at e
      rw [if_neg (fun w => absurd w.1 (by decide))] at i1
      have hle := rsn_le T x.toNatClampNeg n
      have le0 : (nI (rsn T x.toNatClampNeg n) : Int32) ≤ 0 ↔ rsn T x.toNatClampNeg n ≤ 0 := nI_leI (b := 0) (by omega) (by decide)
      rw [if_neg (by omega), e, bn_eq, nI_1]
      by_cases q2 : rsn T x.toNatClampNeg n = 0
      · rw [if_pos (le0.mpr (by omega)), if_neg (show ¬ 26 ≤ n by omega), he, low_s, if_pos (by rw [q2]; rfl)]
        exact ⟨_, rfl, ξ, rfl, i1, frZ_tr hf f1⟩
      · rw [if_neg (fun w => q2 (by have := le0.mp w; omega))]
        refine ih m _ _ (by omega) ⟨n + 1, by omega, rfl, i1, frZ_tr hf f1, ?_⟩
        rw [he, low_s, if_neg (by rw [beq_iff_eq]; exact q2)]
  · rw [if_neg q, if_neg q]
    exact gd_no h (k := 1) (by decide) (by decide) n1le _
end MRn
