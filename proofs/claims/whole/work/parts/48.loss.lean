/-! ===== the component as a whole: now, other; losses ===== -/
def CI (μ : Mm) (T : TT) : Prop := (isF (mNow μ) ∧ isF (mOth μ) ∧ mNow μ ≠ mOth μ) ∧ FO μ (mNow μ) T ∧ ∀ i, i < tI T → μ.1 (mNow μ + 13) i = -1 ∨ μ.1 (mNow μ + 13) i = nI (loss T i)
def isC (p : Nat) : Prop := 3 ≤ p ∧ p ≤ 44
/-- nothing but the facts may have changed -/
def frC (μ ν : Mm) : Prop := ν.2.2 = μ.2.2 ∧ ∀ p, ¬ isC p → ν.1 p = μ.1 p
theorem frC_refl {μ : Mm} : frC μ μ := ⟨rfl, fun _ _ => rfl⟩
theorem frC_tr {μ ν ξ : Mm} (h : frC μ ν) (k : frC ν ξ) : frC μ ξ := ⟨k.1.trans h.1, fun p hp => (k.2 p hp).trans (h.2 p hp)⟩
theorem fr_frC {P : Nat → Prop} {μ ν : Mm} (h : fr P μ ν) (hP : ∀ p, P p → isC p) : frC μ ν := ⟨by rw [h.1], fun p hp => h.2 p (fun z => hp (hP p z))⟩
theorem apart {a b : Nat} (ha : isF a) (hb : isF b) (h : a ≠ b) : a + 21 ≤ b ∨ b + 21 ≤ a := by
  rcases ha with rfl | rfl <;> rcases hb with rfl | rfl <;> omega
theorem isRw_C {a : Nat} (ha : isF a) : ∀ p, isRw a p → isC p := fun p h => by
  unfold isRw at h; unfold isC; rcases ha with rfl | rfl <;> omega
theorem isSt_C {a : Nat} (ha : isF a) : ∀ p, isSt a p → isC p := fun p h => by
  unfold isSt at h; unfold isC; rcases ha with rfl | rfl <;> omega
theorem now_eq {μ ν : Mm} (h : ν.2 = μ.2) : mNow ν = mNow μ := by unfold mNow; rw [h]
theorem oth_eq {μ ν : Mm} (h : ν.2 = μ.2) : mOth ν = mOth μ := by unfold mOth; rw [h]
theorem FO_same {μ ν : Mm} {a : Nat} {T : TT} (h : FO μ a T) (hf : ∀ p, a ≤ p → p ≤ a + 12 → ν.1 p = μ.1 p) (hg : ∀ p, a + 15 ≤ p → p ≤ a + 20 → ν.1 p = μ.1 p) : FO ν a T := ⟨FS_same h.1 hf hg, h.2⟩
theorem CI_same {μ ν : Mm} {T : TT} (h : CI μ T) (h2 : ν.2.1 = μ.2.1) (hf : ∀ p, mNow μ ≤ p → p ≤ mNow μ + 20 → ν.1 p = μ.1 p) : CI ν T := by
  have e1 : mNow ν = mNow μ := by unfold mNow; rw [h2]
  have e2 : mOth ν = mOth μ := by unfold mOth; rw [h2]
  unfold CI
  rw [e1, e2]
  refine ⟨h.1, FO_same h.2.1 (fun p h1 h2 => hf p h1 (by omega)) (fun p h1 h2 => hf p (by omega) h2), fun i hi => ?_⟩
  rw [hf _ (by omega) (by omega)]
  exact h.2.2 i hi
/-- the now facts, changed and settled -/
theorem now_settle {μ ν : Mm} {T T' : TT} (h : CI μ T) (hf : fr (isRw (mNow μ)) μ ν) (hV : VT T') (hC : CF ν (mNow μ) T') : ∃ ξ, X0_settle (mNow ν) ν = some ξ ∧ CI ξ T' ∧ frC μ ξ := by
  rw [now_eq hf.1]
  obtain ⟨ξ, e, h1, h2, h3⟩ := settle_off h.1.1 hV hC
  refine ⟨ξ, e, ⟨?_, ?_, fun i hi => Or.inl ?_⟩, frC_tr (fr_frC hf (isRw_C h.1.1)) (fr_frC h3 (isSt_C h.1.1))⟩
  · rw [now_eq (h3.1.trans hf.1), oth_eq (h3.1.trans hf.1)]; exact h.1
  · rw [now_eq (h3.1.trans hf.1)]; exact h1
  · rw [now_eq (h3.1.trans hf.1)]; exact h2 i (Nat.lt_of_lt_of_le hi hV.2.2.1.1)
/-- the other facts, changed and settled -/
theorem oth_settle {μ ν : Mm} {T T' : TT} (h : CI μ T) (hf : fr (isRw (mOth μ)) μ ν) (hV : VT T') (hC : CF ν (mOth μ) T') : ∃ ξ, X0_settle (mOth ν) ν = some ξ ∧ FO ξ (mOth μ) T' ∧ (∀ i, i < 20 → ξ.1 (mOth μ + 13) i = -1) ∧ CI ξ T ∧ frC μ ξ ∧ ξ.2 = μ.2 := by
  have hap := apart h.1.1 h.1.2.1 h.1.2.2
  rw [oth_eq hf.1]
  obtain ⟨ξ, e, h1, h2, h3⟩ := settle_off h.1.2.1 hV hC
  refine ⟨ξ, e, h1, h2, CI_same h (by rw [h3.1, hf.1]) (fun p q1 q2 => ?_), frC_tr (fr_frC hf (isRw_C h.1.2.1)) (fr_frC h3 (isSt_C h.1.2.1)), h3.1.trans hf.1⟩
  rw [h3.2 p (by unfold isSt; omega), hf.2 p (by unfold isRw; omega)]
theorem loss_le (T : TT) (i : Nat) : loss T i ≤ tU T := by
  have h := fb_sm_le (f := fun u => @ite _ (outU T (offOf T) u = outU (delI T i) (offOf (delI T i)) u) (Nat.decEq _ _) 0 1) (g := fun _ => 1) (n := tU T) (fun k _ => by show (if _ then _ else _) ≤ 1; split <;> omega)
  rw [fb_sm_const] at h
  unfold loss
  omega
theorem brM_zero {T : TT} {X : OX} (hV : VT T) (hX : XB X) {i : Nat} (hi : i < tI T) (h : prs T X i = 0) : ∀ n, n < 26 → broM T X i n = 0 := fun n hn => by
  have h1 := fb_sm_zero h n hn
  have hl := broM_lt hV hX hi hn
  exact (popc_eq_of (a := 0) (by decide) hl msub_0 (by rw [h1]; decide)).symm
theorem frC_loss {μ : Mm} (h : isF (mNow μ)) (k : Nat) (v : Int32) : frC μ (setI μ (mNow μ + 13) k v) := ⟨rfl, fun p hp => setI_n _ _ _ (fun e => hp (by rw [e]; unfold isC; rcases h with z | z <;> omega))⟩
/-- the loss is written down -/
theorem loss_j108 {μ : Mm} {T : TT} (h : CI μ T) {i : Nat} (hi : i < tI T) : ∃ r, X3_lossWithout_j108 (nI i) (nI (loss T i)) μ = some r ∧ (∃ ν, r = (nI (loss T i), ν) ∧ CI ν T ∧ frC μ ν) := by
  have hI := h.2.1.1.1.2.2.1.1
  unfold X3_lossWithout_j108 X3_lossWithout_j118
  rw [ck_nI (by omega) (by decide), bd_eq, ck_nI (by omega) (by decide), nI_clamp (by omega), show mNow (setI μ (mNow μ + 13) i (nI (loss T i))) = mNow μ from rfl, setI_same]
  refine ⟨_, rfl, _, rfl, ⟨h.1, FO_same h.2.1 (fun p h1 h2 => setI_n _ _ _ (by show p ≠ mNow μ + 13; have e : mNow (setI μ (mNow μ + 13) i (nI (loss T i))) = mNow μ := rfl; omega)) (fun p h1 h2 => setI_n _ _ _ (by show p ≠ mNow μ + 13; have e : mNow (setI μ (mNow μ + 13) i (nI (loss T i))) = mNow μ := rfl; omega)), fun j hj => ?_⟩, frC_loss h.1.1 _ _⟩
  show (setI μ (mNow μ + 13) i (nI (loss T i))).1 (mNow μ + 13) j = -1 ∨ (setI μ (mNow μ + 13) i (nI (loss T i))).1 (mNow μ + 13) j = nI (loss T j)
  rw [setI_at]
  by_cases q : j = i
  · rw [if_pos q, q]; exact Or.inr rfl
  · rw [if_neg q]; exact h.2.2 j hj
theorem lossWithout_eq {μ : Mm} {T : TT} (h : CI μ T) {i : Nat} (hi : i < tI T) : ∃ r, X3_lossWithout (nI i) μ = some r ∧ (∃ ν, r = (nI (loss T i), ν) ∧ CI ν T ∧ frC μ ν) := by
  have hV := h.2.1.1.1
  have hF := h.2.1.1
  have hI := hV.2.2.1.1
  have hU := hV.2.2.2.1
  have hl := loss_le T i
  unfold X3_lossWithout
  rw [ck_nI (by omega) (by decide), nI_clamp (by omega)]
  rcases h.2.2 i hi with hc | hc
  · rw [hc, if_pos rfl, hF.2.1.1.2.2.2, lit_n 0, ifLe (by omega) (by decide)]
    by_cases q : tU T ≤ 0
    · rw [if_pos q]
      have e : loss T i = 0 := by omega
      have := loss_j108 h hi
      rw [e] at this ⊢
      exact this
    · have hple := prs_le (T := T) hF.2.2.2 i
      rw [if_neg q, pairsBrought_eq hF hi, bi_eq, ifLe (by omega) (by decide)]
      by_cases q2 : prs T (offOf T) i ≤ 0
      · rw [if_pos q2]
        have e : loss T i = 0 := loss_vain hV h.2.1.2 hi (brM_zero hV hF.2.2.2 hi (by omega))
        have := loss_j108 h hi
        rw [e] at this ⊢
        exact this
      · obtain ⟨ν1, e1, c1, f1⟩ := copyFrom_eq (a0 := mOth μ) (a1 := mNow μ) (by have := apart h.1.1 h.1.2.1 h.1.2.2; omega) hV hF.2.1
        obtain ⟨ν2, e2, c2, f2⟩ := dropImport_eq h.1.2.1 hV c1 hi
        obtain ⟨ν3, e3, c3, -, c4, c5, c6⟩ := oth_settle h (fr_tr f1 f2) (VT_delI hV hi) c2
        rw [if_neg q2, e1, bi_eq, oth_eq f1.1, e2, bi_eq, e3, bi_eq]
        have hn : mNow ν3 = mNow μ := now_eq c6
        have ho : mOth ν3 = mOth μ := oth_eq c6
        have c4F : FS ν3 (mNow μ) T (offOf T) := by have := c4.2.1.1; rw [hn] at this; exact this
        refine it2m _ (fun m u2 u3 ξ => ∃ u, u + m = tU T ∧ u2 = nI (fb_sm (fun u => @ite _ (outU T (offOf T) u = outU (delI T i) (offOf (delI T i)) u) (Nat.decEq _ _) 0 1) u) ∧ u3 = nI u ∧ ξ = ν3) ?_ big (tU T) _ _ ν3 (by unfold big; omega) ⟨0, by omega, rfl, rfl, rfl⟩
        rintro kk m u2 u3 ξ ⟨u, hm, rfl, rfl, rfl⟩ ih
        unfold X3_lossWithout_l64
        rw [hn, ho, c4F.2.1.1.2.2.2, ifLe (by omega) (by omega)]
        by_cases q3 : tU T ≤ u
        · have e : u = tU T := by omega
          subst e
          rw [if_pos q3]
          obtain ⟨r, hr, ν, hr2, hr3, hr4⟩ := loss_j108 c4 hi
          exact ⟨r, hr, ν, hr2, hr3, frC_tr c5 hr4⟩
        · have hu : u < tU T := by omega
          rw [if_neg q3, outcome_eq c4F hu, bi_eq, outcome_eq c3.1 (T := delI T i) hu, bi_eq, ifEq (lt31 (outU_lt hV hF.2.2.2 hu)) (lt31 (outU_lt (VT_delI hV hi) c3.1.2.2.2 (T := delI T i) hu)), ite01, nI_add, bd_eq, nI_1]
          exact ih (m - 1) _ _ _ (by omega) ⟨u + 1, by omega, rfl, rfl, rfl⟩
  · rw [hc, if_neg (nI_ne_m1 (by omega))]
    unfold X3_lossWithout_j118
    rw [ck_nI (by omega) (by decide), nI_clamp (by omega), hc]
    exact ⟨_, rfl, μ, rfl, h, frC_refl⟩
noncomputable def needless (T : TT) : Nat := fb_sm (fun i => if loss T i = 0 then 1 else 0) (tI T)
theorem importsWithoutLoss_eq {μ : Mm} {T : TT} (h : CI μ T) : ∃ r, X3_importsWithoutLoss μ = some r ∧ (∃ ν, r = (nI (needless T), ν) ∧ CI ν T ∧ frC μ ν) := by
  have hI := h.2.1.1.1.2.2.1.1
  have hU := h.2.1.1.1.2.2.2.1
  unfold X3_importsWithoutLoss
  refine it2m _ (fun m u1 u2 ν => ∃ i, i + m = tI T ∧ u1 = nI (fb_sm (fun i => if loss T i = 0 then 1 else 0) i) ∧ u2 = nI i ∧ CI ν T ∧ frC μ ν) ?_ big (tI T) _ _ μ (by unfold big; omega) ⟨0, by omega, rfl, rfl, h, frC_refl⟩
  rintro kk m u1 u2 ν ⟨i, hm, rfl, rfl, hc, hf⟩ ih
  unfold X3_importsWithoutLoss_l4
  rw [hc.2.1.1.2.1.1.2.2.1, ifLe (by omega) (by omega)]
  by_cases q : tI T ≤ i
  · have e : i = tI T := by omega
    subst e
    rw [if_pos q]
    exact ⟨_, rfl, ν, rfl, hc, hf⟩
  · obtain ⟨r, e1, ν', rfl, h2, h3⟩ := lossWithout_eq hc (i := i) (by omega)
    have hl := loss_le T i
    rw [if_neg q, e1, bn_eq, lit_n 0, ifEq (by omega) (by decide), show (if loss T i = 0 then (1 : Int32) else nI 0) = nI (if loss T i = 0 then 1 else 0) from ite10, nI_add, bd_eq, nI_1]
    exact ih (m - 1) _ _ _ (by omega) ⟨i + 1, by omega, rfl, rfl, h2, frC_tr hf h3⟩
