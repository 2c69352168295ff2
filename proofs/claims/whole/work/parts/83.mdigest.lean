/-! ===== the model's digest; the share ===== -/
def frD (μ ν : Mm) : Prop := ν.2.1 = μ.2.1 ∧ mOut ν = mOut μ ∧ (∀ p, p < 45 ∨ p = 49 → ν.1 p = μ.1 p) ∧ ν.1 45 5 = μ.1 45 5
theorem frD_refl {μ : Mm} : frD μ μ := ⟨rfl, rfl, fun _ _ => rfl, rfl⟩
theorem frD_tr {μ ν ξ : Mm} (h : frD μ ν) (k : frD ν ξ) : frD μ ξ := ⟨k.1.trans h.1, k.2.1.trans h.2.1, fun p hp => (k.2.2.1 p hp).trans (h.2.2.1 p hp), k.2.2.2.trans h.2.2.2⟩
theorem frN_D {μ ν : Mm} (h : frN μ ν) : frD μ ν := ⟨by rw [h.1], by unfold mOut; rw [h.1], h.2.1, h.2.2⟩
theorem frD_H {μ ν : Mm} (h : frD μ ν) (x : Int64) : frD μ (setH ν x) := ⟨h.1, h.2.1, h.2.2.1, h.2.2.2⟩
theorem MI_H {μ : Mm} {T : TT} (h : MI μ T) (x : Int64) : MI (setH μ x) T := MI_same h rfl rfl rfl
theorem mH_W {μ ν : Mm} (h : frW μ ν) : mH ν = mH μ := by unfold mH; rw [h.1]
theorem TXm_D {μ ν : Mm} {N : Nat} {f : Nat → Nat} (h : TXm μ N f) (k : frD μ ν) : TXm ν N f := ⟨by rw [k.2.2.2]; exact h.1, fun j hj => by rw [k.2.2.1 49 (by omega)]; exact h.2 j hj⟩
/-- a state of the mixing: the facts, the frame, the hash -/
def MD (μ : Mm) (T : TT) (h : Int64) (ν : Mm) : Prop := MI ν T ∧ frD μ ν ∧ mH ν = h
theorem mix_eq {μ ν ξ : Mm} {T : TT} {h : Int64} (hd : MD μ T h ν) (hs : SwW ν T ξ) (v : Int32) : ∃ ζ, X4_mix v.toInt64 ξ = some ζ ∧ MD μ T (hx h v) ζ := by
  refine ⟨setH ξ (31 * mH ξ + v.toInt64), rfl, MI_H hs.1 _, frD_H (frD_tr hd.2.1 (frN_D (frW_N hs.2))) _, ?_⟩
  show 31 * mH ξ + v.toInt64 = 31 * h + v.toInt64
  rw [mH_W hs.2, hd.2.2]
theorem mix_0 {μ ν : Mm} {T : TT} {h : Int64} (hd : MD μ T h ν) (v : Int32) : ∃ ζ, X4_mix v.toInt64 ν = some ζ ∧ MD μ T (hx h v) ζ := mix_eq hd ⟨hd.1, frW_refl⟩ v
section DGm
variable {μ : Mm} {T : TT} {N : Nat} {f : Nat → Nat}
theorem mparts78 {ν : Mm} {h : Int64} (hd : MD μ T h ν) : ∃ r, itr (X4_mixParts_l78) (fun _ _ => none) big 0 ν = some r ∧ MD μ T (hf (gU T) (4 * tU T) 0 h) r := by
  have hU := hd.1.1.2.2.2.1
  refine it1m _ (fun m v1 ξ => ∃ k h', k + m = 4 * tU T ∧ v1 = nI k ∧ MD μ T h' ξ ∧ hf (gU T) m k h' = hf (gU T) (4 * tU T) 0 h) ?_ big (4 * tU T) _ ν (by unfold big; omega) ⟨0, h, by omega, rfl, hd, rfl⟩
  rintro kk m v1 ξ ⟨k, h', hm, rfl, hd, he⟩ ih
  unfold X4_mixParts_l78
  rw [show ck (3 : Int32) 290 = ck (nI 3) 290 from rfl, ck_nI (by decide) (by decide), show (3 : Int32).toNatClampNeg = 3 from rfl, hd.1.2.1.1.2.2.2, show (4 : Int32) = nI 4 from rfl, pk_mul, ifLe (by omega) (by omega)]
  cases m with
  | zero =>
    rw [if_pos (by omega)]
    rw [hf_0] at he
    rw [← he]
    exact ⟨_, rfl, hd⟩
  | succ m =>
    obtain ⟨r, e, ζ, rfl, l⟩ := useNow_eq hd.1 (u := k / 4) (by omega) (y := nI (k % 4)) (by rw [inb_nI (by omega)]; exact decide_eq_true (by omega))
    obtain ⟨ζ', e2, d2⟩ := mix_eq hd l (usdV T (k / 4) (nI (k % 4)))
    rw [if_neg (by omega), pk_rem (by omega) (by decide) (by decide), pk_div (by omega) (by decide) (by decide), e, bn_eq, e2, bi_eq, nI_1]
    rw [hf_s] at he
    exact ih m _ _ (by omega) ⟨k + 1, _, by omega, rfl, d2, he⟩
theorem mparts40 {ν : Mm} {h : Int64} (hd : MD μ T h ν) : ∃ r, itr (X4_mixParts_l40) (fun _ _ => none) big 0 ν = some r ∧ MD μ T (hf (gU T) (4 * tU T) 0 (hf (gM T) (8 * tI T) 0 h)) r := by
  have hI := hd.1.1.2.2.1.1
  refine it1m _ (fun m v1 ξ => ∃ k h', k + m = 8 * tI T ∧ v1 = nI k ∧ MD μ T h' ξ ∧ hf (gM T) m k h' = hf (gM T) (8 * tI T) 0 h) ?_ big (8 * tI T) _ ν (by unfold big; omega) ⟨0, h, by omega, rfl, hd, rfl⟩
  rintro kk m v1 ξ ⟨k, h', hm, rfl, hd, he⟩ ih
  unfold X4_mixParts_l40
  rw [show ck (2 : Int32) 290 = ck (nI 2) 290 from rfl, ck_nI (by decide) (by decide), show (2 : Int32).toNatClampNeg = 2 from rfl, hd.1.2.1.1.2.2.1, show (8 : Int32) = nI 8 from rfl, pk_mul, ifLe (by omega) (by omega)]
  cases m with
  | zero =>
    rw [if_pos (by omega)]
    rw [hf_0] at he
    rw [← he]
    exact mparts78 hd
  | succ m =>
    obtain ⟨r, e, ζ, rfl, l⟩ := importNow_eq hd.1 (i := k / 8) (by omega) (y := nI (k % 8)) (by rw [inb_nI (by omega)]; exact decide_eq_true (by omega))
    obtain ⟨ζ', e2, d2⟩ := mix_eq hd l (imdV T (k / 8) (nI (k % 8)))
    rw [if_neg (by omega), pk_rem (by omega) (by decide) (by decide), pk_div (by omega) (by decide) (by decide), e, bn_eq, e2, bi_eq, nI_1]
    rw [hf_s] at he
    exact ih m _ _ (by omega) ⟨k + 1, _, by omega, rfl, d2, he⟩
theorem mixParts_eq {ν : Mm} {h : Int64} (hd : MD μ T h ν) : ∃ r, X4_mixParts ν = some r ∧ MD μ T (hf (gU T) (4 * tU T) 0 (hf (gM T) (8 * tI T) 0 (hf (gD T) (6 * tD T) 0 h))) r := by
  have hD := hd.1.1.2.1.1
  unfold X4_mixParts
  refine it1m _ (fun m v1 ξ => ∃ k h', k + m = 6 * tD T ∧ v1 = nI k ∧ MD μ T h' ξ ∧ hf (gD T) m k h' = hf (gD T) (6 * tD T) 0 h) ?_ big (6 * tD T) _ ν (by unfold big; omega) ⟨0, h, by omega, rfl, hd, rfl⟩
  rintro kk m v1 ξ ⟨k, h', hm, rfl, hd, he⟩ ih
  unfold X4_mixParts_l2
  rw [show ck (1 : Int32) 290 = ck (nI 1) 290 from rfl, ck_nI (by decide) (by decide), show (1 : Int32).toNatClampNeg = 1 from rfl, hd.1.2.1.1.2.1, show (6 : Int32) = nI 6 from rfl, pk_mul, ifLe (by omega) (by omega)]
  cases m with
  | zero =>
    rw [if_pos (by omega)]
    rw [hf_0] at he
    rw [← he]
    exact mparts40 hd
  | succ m =>
    obtain ⟨r, e, ζ, rfl, l⟩ := declarationNow_eq hd.1 (d := k / 6) (by omega) (y := nI (k % 6)) (by rw [inb_nI (by omega)]; exact decide_eq_true (by omega))
    obtain ⟨ζ', e2, d2⟩ := mix_eq hd l (dclV T (k / 6) (nI (k % 6)))
    rw [if_neg (by omega), pk_rem (by omega) (by decide) (by decide), pk_div (by omega) (by decide) (by decide), e, bn_eq, e2, bi_eq, nI_1]
    rw [hf_s] at he
    exact ih m _ _ (by omega) ⟨k + 1, _, by omega, rfl, d2, he⟩
def QM (μ : Mm) (T : TT) (x : Int64) (r : Int64 × Mm) : Prop := ∃ ν, r = (x, ν) ∧ MI ν T ∧ frD μ ν
theorem mdig104 (hv : TXv N f) (hT : TXm μ N f) {ν : Mm} {h : Int64} (hd : MD μ T (hx h (nI N)) ν) : ∃ r, itr (X4_digest_l104) (fun _ _ => none) big 0 ν = some r ∧ QM μ T (K5 N f h) r := by
  have hN := hv.1
  refine it1m _ (fun m v1 ξ => ∃ k h', k + m = N ∧ v1 = nI k ∧ MD μ T h' ξ ∧ hf (fun j => nI (f j)) m k h' = K5 N f h) ?_ big N _ ν (by unfold big; omega) ⟨0, _, by omega, rfl, hd, rfl⟩
  rintro kk m v1 ξ ⟨k, h', hm, rfl, hd, he⟩ ih
  have hTξ := TXm_D hT hd.2.1
  unfold X4_digest_l104
  rw [hTξ.1, ifLe (by omega) (by omega)]
  cases m with
  | zero =>
    rw [if_pos (by omega)]
    rw [hf_0] at he
    exact ⟨_, rfl, ξ, by rw [hd.2.2, he], hd.1, hd.2.1⟩
  | succ m =>
    obtain ⟨ζ', e2, d2⟩ := mix_0 hd (nI (f k))
    rw [if_neg (by omega), ck_nI (by omega) (by decide), nI_clamp (by omega), hTξ.2 k (by omega), e2, bi_eq, nI_1]
    rw [hf_s] at he
    exact ih m _ _ (by omega) ⟨k + 1, _, by omega, rfl, d2, he⟩
theorem mdig38 (hv : TXv N f) (hT : TXm μ N f) {ν : Mm} {h : Int64} (hd : MD μ T h ν) : ∃ r, itr (X4_digest_l38) (fun _ _ => none) big 0 ν = some r ∧ QM μ T (K1 T N f h) r := by
  have h16 := hd.1.1.1.2.1
  refine it1m _ (fun m v1 ξ => ∃ d h', d + m = tS T ∧ v1 = nI d ∧ MD μ T h' ξ ∧ K2 T N f (hf (gS T) (3 * m) (3 * d) h') = K1 T N f h) ?_ big (tS T) _ ν (by unfold big; omega) ⟨0, h, by omega, rfl, hd, rfl⟩
  rintro kk m v1 ξ ⟨d, h', hm, rfl, hd, he⟩ ih
  unfold X4_digest_l38
  rw [show ck (0 : Int32) 290 = ck (nI 0) 290 from rfl, ck_nI (by decide) (by decide), show (0 : Int32).toNatClampNeg = 0 from rfl, hd.1.2.1.1.1, ifLe (by omega) (by omega)]
  cases m with
  | zero =>
    obtain ⟨ζ, e, d1⟩ := mixParts_eq hd
    obtain ⟨ζ', e2, d2⟩ := mix_0 d1 (nI N)
    rw [if_pos (by omega), e, bi_eq, (TXm_D hT d1.2.1).1, e2, bi_eq]
    rw [Nat.mul_zero, hf_0] at he
    rw [← he]
    exact mdig104 hv hT d2
  | succ m =>
    obtain ⟨ζ1, e1, d1⟩ := mix_0 hd (enc (tPar T d))
    obtain ⟨r2, e2, ζ2, rfl, l2⟩ := seen_eq d1.1 (s := d) (by omega) 0
    obtain ⟨ζ3, e3, d3⟩ := mix_eq d1 (SS_Sw l2) (nI (visM T d 0))
    obtain ⟨r4, e4, ζ4, rfl, l4⟩ := seen_eq d3.1 (s := d) (by omega) 1
    obtain ⟨ζ5, e5, d5⟩ := mix_eq d3 (SS_Sw l4) (nI (visM T d 1))
    rw [if_neg (by omega), show (4 : Int32) + nI d = nI (4 + d) from nI_add 4 d, ck_nI (by omega) (by decide), nI_clamp (by omega), hd.1.2.1.2.1 d (by omega), e1, bi_eq, e2, bn_eq, e3, bi_eq, e4, bn_eq, e5, bi_eq, nI_1]
    rw [show 3 * (m + 1) = 3 * m + 1 + 1 + 1 by omega, hf_s, hf_s, hf_s, gS_0, gS_1, gS_2] at he
    exact ih m _ _ (by omega) ⟨d + 1, _, by omega, rfl, d5, by rw [← he, show 3 * (d + 1) = 3 * d + 1 + 1 + 1 by omega]⟩
theorem digestM_eq (hv : TXv N f) (hT : TXm μ N f) (hM : MI μ T) : ∃ r, X4_digest μ = some r ∧ QM μ T (DG T N f) r := by
  unfold X4_digest
  rw [bd_eq, bd_eq]
  have h0 : MD μ T 1997 (setH (setI μ 45 0 0) 1997) := ⟨MI_H (MI_wrong hM 0) _, frD_H (frN_D (frN_put frN_refl (by omega))) _, rfl⟩
  refine it1m _ (fun m v1 ξ => ∃ d h', d + m = 11 ∧ v1 = nI d ∧ MD μ T h' ξ ∧ K1 T N f (hf (gC T) m d h') = DG T N f) ?_ big 11 _ _ (by decide) ⟨0, 1997, by omega, rfl, h0, rfl⟩
  rintro kk m v1 ξ ⟨d, h', hm, rfl, hd, he⟩ ih
  unfold X4_digest_l14
  rw [show (11 : Int32) = nI 11 from rfl, ifLe (by decide) (by omega)]
  cases m with
  | zero =>
    rw [if_pos (by omega)]
    rw [hf_0] at he
    rw [← he]
    exact mdig38 hv hT hd
  | succ m =>
    obtain ⟨r, e, ζ, rfl, l⟩ := counted_eq hd.1 (x := nI d) (by rw [inb_nI (by omega)]; exact decide_eq_true (by omega))
    obtain ⟨ζ', e2, d2⟩ := mix_eq hd l (cntV T (nI d))
    rw [if_neg (by omega), e, bn_eq, e2, bi_eq, nI_1]
    rw [hf_s] at he
    exact ih m _ _ (by omega) ⟨d + 1, _, by omega, rfl, d2, he⟩
end DGm
/-! the share of the resolved uses -/
def shv (c u : Nat) : UInt64 := FP.ddiv (FP.i2d (nI c)) (FP.i2d (nI u))
def nnb (x : UInt64) : Bool := decide (x &&& 0x7fffffffffffffff ≤ 0x7ff0000000000000)
set_option maxRecDepth 100000 in
theorem mul_tab : ∀ c, c < 31 → FP.dmul FP.dconst1 (FP.i2d (nI c)) = FP.i2d (nI c) ∧ nnb (FP.i2d (nI c)) = true := by decide +kernel
set_option maxRecDepth 100000 in
theorem shv_tab : ∀ u, u < 31 → ∀ c, c < 31 → u = 0 ∨ (nnb (shv c u) = true ∧ Op.cmpValue (FP.dcmp (shv c u) (shv c u)) .l = 0) := by decide +kernel
theorem one_tab : Op.cmpValue (FP.dcmp FP.dconst1 FP.dconst1) .l = 0 := by decide +kernel
theorem nn_eq {β : Type} {x : UInt64} {k : Option β} (h : nnb x = true) : nn x k = k := if_pos (of_decide_eq_true h)
theorem stC_le (T : TT) (k : Nat) : stC T k ≤ tU T := by
  have h := fb_sm_le (f := fun u => if stU T (offOf T) u = k then 1 else 0) (g := fun _ => 1) (n := tU T) (fun j _ => by show (if _ then _ else _) ≤ 1; split <;> omega)
  rw [fb_sm_const] at h
  unfold stC
  omega
noncomputable def shD (T : TT) : UInt64 := if tU T = 0 then FP.dconst1 else shv (stC T 0) (tU T)
theorem share_eq {μ : Mm} {T : TT} (h : CI μ T) : X3_resolvedShare μ = some (shD T) := by
  have hU := h.2.1.1.1.2.2.2.1
  have hs := stC_le T 0
  unfold X3_resolvedShare X3_resolvedShare_j32 shD
  rw [h.2.1.1.2.1.1.2.2.2]
  by_cases q : tU T = 0
  · rw [if_pos (show (nI (tU T) : Int32) = 0 by rw [q]; rfl), if_pos q]
  · have e := usesInState_eq h.2.1.1 (x := 0) (by decide)
    have e' : X0_usesInState (mNow μ) 0 μ = some (nI (stC T 0)) := e
    rcases shv_tab (tU T) (by omega) (stC T 0) (by omega) with z | ⟨z1, z2⟩
    · exact absurd z q
    · rw [if_neg (show ¬ (nI (tU T) : Int32) = 0 from fun z => q ((nI_eq (b := 0) (by omega) (by decide)).mp z)), if_neg q, e', bi_eq]
      exact nn_eq z1
theorem shareM_eq {μ : Mm} {T : TT} (h : MI μ T) : ∃ ν, X4_resolvedShare μ = some (shD T, ν) ∧ MI ν T ∧ frN μ ν := by
  have hU := h.1.2.2.2.1
  have hs := stC_le T 0
  have h0 := MI_wrong h 0
  unfold X4_resolvedShare X4_resolvedShare_j35 shD
  rw [bd_eq, show ck (3 : Int32) 290 = ck (nI 3) 290 from rfl, ck_nI (by decide) (by decide), show (3 : Int32).toNatClampNeg = 3 from rfl, h0.2.1.1.2.2.2]
  by_cases q : tU T = 0
  · rw [if_pos (show (nI (tU T) : Int32) = 0 by rw [q]; rfl), if_pos q]
    exact ⟨_, rfl, h0, frN_put frN_refl (by omega)⟩
  · obtain ⟨r, e, ν, er, l⟩ := usesWith_eq h0 (a := 1) (b := 1) (by decide) (by decide)
    rw [stC_0] at er
    subst er
    obtain ⟨m1, m2⟩ := mul_tab (stC T 0) (by omega)
    rcases shv_tab (tU T) (by omega) (stC T 0) (by omega) with z | ⟨z1, z2⟩
    · exact absurd z q
    · rw [if_neg (show ¬ (nI (tU T) : Int32) = 0 from fun z => q ((nI_eq (b := 0) (by omega) (by decide)).mp z)), if_neg q, show X4_usesWith 1 1 (setI μ 45 0 0) = _ from e, bn_eq, m1, nn_eq m2, ck_nI (by decide) (by decide), l.1.2.1.1.2.2.2]
      refine ⟨ν, ?_, l.1, frN_tr (frN_put frN_refl (by omega)) (frW_N (frS_W l.2))⟩
      exact nn_eq z1
