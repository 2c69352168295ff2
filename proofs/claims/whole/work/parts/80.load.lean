/-! ===== the items of a complete text, by both sides alike ===== -/
theorem TXc_rw {μ ν : Mm} {N : Nat} {f : Nat → Nat} {a0 : Nat} (ha : isF a0) (h : TXc μ N f) (k : fr (isRw a0) μ ν) : TXc ν N f := by
  have h1 : ¬ isRw a0 1 := fun z => by unfold isRw at z; rcases ha with rfl | rfl <;> omega
  have h2 : ¬ isRw a0 2 := fun z => by unfold isRw at z; rcases ha with rfl | rfl <;> omega
  exact ⟨by rw [k.2 1 h1]; exact h.1, fun j hj => by rw [k.2 2 h2]; exact h.2 j hj⟩
theorem TXm_G {μ ν : Mm} {N : Nat} {f : Nat → Nat} (h : TXm μ N f) (k : frG μ ν) : TXm ν N f := ⟨by rw [k.2.2]; exact h.1, fun j hj => by rw [k.2.1 49 (by omega)]; exact h.2 j hj⟩
/-- how both sides come out -/
def LdS (a0 : Nat) (μc μm : Mm) (vc : Int32) (νc νm' : Mm) : Prop := fr (isRw a0) μc νc ∧ frG μm νm' ∧ ((∃ it' T', it' ≤ 51 ∧ vc = nI it' ∧ CF νc a0 T' ∧ MI νm' T' ∧ νm'.1 45 21 = 0 ∧ νm'.1 45 22 = nI it') ∨ (vc = -1 ∧ νm'.1 45 21 = 1))
theorem load_sim {N : Nat} {f : Nat → Nat} (hv : TXv N f) {a0 : Nat} (ha : isF a0) (v1 : Int32) : ∀ (m k a s it : Nat) (T : TT) (n : Nat) (μc μm : Mm), k + m = N → m + 1 < n → s < 12 → (∃ sN, fsG f m k s = some sN ∧ cE sN = true) → CF μc a0 T → TXc μc N f → MI μm T → TXm μm N f → μm.1 45 12 = nI s → IT f a k (μm.1 45) s → μm.1 45 20 = 1 → μm.1 45 21 = 0 → μm.1 45 22 = nI it → it ≤ k → a ≤ k →
    ∃ vc νc vm νm νm', itr (X2_putItems_l7 a0) (fun _ _ _ _ => none) n (nI it) (nI a) (nI k) μc = some (vc, νc) ∧ itr (X4_read_l22 v1) (fun _ _ => none) n (nI k) μm = some (vm, νm) ∧ X4_endItem νm = some νm' ∧ LdS a0 μc μm vc νc νm' := by
  have hN := hv.1
  intro m
  induction m with
  | zero =>
    intro k a s it T n μc μm hk hn hs hfs hC hTc hM hTm h12 hI h20 h21 h22 hit hak
    obtain ⟨sN, g1, g2⟩ := hfs
    have es : s = sN := by injection g1
    subst es
    obtain ⟨n, rfl⟩ : ∃ n', n = n' + 2 := ⟨n - 2, by omega⟩
    obtain ⟨kk, w, T', k100, hkw, hPI, ν, e1, e2, e3, e4, e5, e6, e7⟩ := item_both hv hM hI hs g2 (Or.inl (by omega)) (by omega) h20 h21
    obtain ⟨νc, c1, c2, c3⟩ := hPI μc a0 ha hC hTc
    have hTν := TXc_rw ha hTc c3
    have hc : itr (X2_putItems_l7 a0) (fun _ _ _ _ => none) (n + 2) (nI it) (nI a) (nI k) μc = some (if kk = 0 then nI (it + 1) else -1, νc) := by
      rw [itr_s]
      unfold X2_putItems_l7 X2_putItems_j37
      rw [hTc.1, ifLt (by omega) (by omega), if_neg (by omega), if_pos (show nI k = nI N by rw [show k = N by omega]), c1, bn_eq]
      by_cases q : kk = 0
      · rw [if_pos (show (nI kk : Int32) = 0 by rw [q]; rfl), if_pos q, bd_eq, itr_s, nI_1, nI_1, hTν.1, ifLt (by omega) (by omega), if_pos (by omega)]
      · rw [if_neg (show ¬ (nI kk : Int32) = 0 from fun z => q ((nI_eq (b := 0) (by omega) (by decide)).mp z)), if_neg q]
    have hmr : itr (X4_read_l22 v1) (fun _ _ => none) (n + 2) (nI k) μm = some (nI k, μm) := by
      rw [itr_s]
      unfold X4_read_l22
      rw [hTm.1, ifLe (by omega) (by omega), if_pos (by omega)]
    refine ⟨_, νc, _, μm, ν, hc, hmr, e1, c3, e7, ?_⟩
    by_cases q : kk = 0
    · rw [if_pos q]
      rw [if_pos (hkw.mpr q)] at e3
      exact Or.inl ⟨it + 1, T', by omega, rfl, c2, e2, e3, by rw [e4, h22, nI_1]⟩
    · rw [if_neg q]
      rw [if_neg (fun z => q (hkw.mp z))] at e3
      exact Or.inr ⟨rfl, e3⟩
  | succ m ih =>
    intro k a s it T n μc μm hk hn hs hfs hC hTc hM hTm h12 hI h20 h21 h22 hit hak
    obtain ⟨sN, g1, g2⟩ := hfs
    obtain ⟨n, rfl⟩ : ∃ n', n = n' + 1 := ⟨n - 1, by omega⟩
    have hc127 := (hv.2 k (by omega)).2
    by_cases q : f k = 44 ∧ cE s = true
    · have hx : nx s (f k) = some 0 := by unfold nx; rw [if_pos q]
      rw [fsG_some hx] at g1
      obtain ⟨kk, w, T', k100, hkw, hPI, ν, e1, e2, e3, e4, e5, e6, e7⟩ := item_both hv hM hI hs q.2 (Or.inr ⟨by omega, q.1⟩) (by omega) h20 h21
      obtain ⟨νc, c1, c2, c3⟩ := hPI μc a0 ha hC hTc
      have hTν := TXc_rw ha hTc c3
      have hTmν := TXm_G hTm e7
      have hmr : itr (X4_read_l22 v1) (fun _ _ => none) (n + 1) (nI k) μm = itr (X4_read_l22 v1) (fun _ _ => none) n (nI (k + 1)) ν := by
        rw [itr_s]
        unfold X4_read_l22 X4_takes
        rw [hTm.1, ifLe (by omega) (by omega), if_neg (by omega), ck_nI (by omega) (by decide), nI_clamp (by omega), hTm.2 k (by omega), if_pos (show (nI (f k) : Int32) = 44 by rw [q.1]; rfl), canEnd_eq hs h12, bi_eq, if_pos q.2, if_neg one0, e1, bi_eq, bn_eq, if_neg (by decide), nI_1]
      have hcr : itr (X2_putItems_l7 a0) (fun _ _ _ _ => none) (n + 1) (nI it) (nI a) (nI k) μc = (if kk = 0 then itr (X2_putItems_l7 a0) (fun _ _ _ _ => none) n (nI (it + 1)) (nI (k + 1)) (nI (k + 1)) νc else some (-1, νc)) := by
        rw [itr_s]
        unfold X2_putItems_l7 X2_putItems_j37
        rw [hTc.1, ifLt (by omega) (by omega), if_neg (by omega), if_neg (show ¬ nI k = nI N from fun z => by have := (nI_eq (by omega) (by omega)).mp z; omega), ck_nI (by omega) (by decide), nI_clamp (by omega), hTc.2 k (by omega), if_pos (show (nI (f k) : Int32) = 44 by rw [q.1]; rfl), c1, bn_eq]
        by_cases q2 : kk = 0
        · rw [if_pos (show (nI kk : Int32) = 0 by rw [q2]; rfl), if_pos q2, bd_eq, nI_1, nI_1]
        · rw [if_neg (show ¬ (nI kk : Int32) = 0 from fun z => q2 ((nI_eq (b := 0) (by omega) (by decide)).mp z)), if_neg q2]
      rw [hmr, hcr]
      by_cases q2 : kk = 0
      · rw [if_pos q2]
        rw [if_pos (hkw.mpr q2)] at e3
        obtain ⟨vc, νc2, vm, νm, νm', i1, i2, i3, i4, i5, i6⟩ := ih (k + 1) (k + 1) 0 (it + 1) T' n νc ν (by omega) (by omega) (by decide) ⟨sN, g1, g2⟩ c2 hTν e2 hTmν e5 rfl e6 e3 (by rw [e4, h22, nI_1]) (by omega) (Nat.le_refl _)
        exact ⟨vc, νc2, vm, νm, νm', i1, i2, i3, fr_tr c3 i4, frG_tr e7 i5, i6⟩
      · rw [if_neg q2]
        rw [if_neg (fun z => q2 (hkw.mp z))] at e3
        have hidle : idle ν := Or.inr ⟨by rw [e6]; decide, by rw [e3]; decide⟩
        obtain ⟨r, i1, νm, rfl, i2, i3⟩ := read_idle (v1 := v1) hv (k0 := k + 1) (m0 := m) (s0 := 0) (a0 := k + 1) (by omega) (by decide) e5 rfl hidle hTmν (n := n) (by omega)
        have hidle2 := idle_R hidle i2
        refine ⟨-1, νc, _, νm, _, rfl, i1, endItem_idle hidle2, c3, frG_tr e7 (frG_tr (frR_G i2) (frR_G (frR_put (frR_put frR_refl (by omega)) (by omega)))), Or.inr ⟨rfl, ?_⟩⟩
        rw [s2 _ (by decide) (by decide), i2.2.2 21 (by omega)]
        exact e3
    · have hxn : nx s (f k) = tk s (f k) := by unfold nx; rw [if_neg q]
      obtain ⟨ν, q8, e, hfT, hmt⟩ := takes_eq (μ := μm) (f := f) (a := a) (k := k) (by omega) h12 hs hI q
      cases hx : tk s (f k) with
      | none =>
        rw [hx] at hxn
        rw [fsG_none hxn] at g1
        cases g1
      | some s' =>
        rw [hx] at hmt hxn
        obtain ⟨q1, w1, w2, w3⟩ : q8 = 1 ∧ ν.1 45 12 = nI s' ∧ IT f a (k + 1) (ν.1 45) s' ∧ f k ≠ 44 := hmt
        rw [fsG_some hxn] at g1
        have hf := frT_R hfT
        have hmr : itr (X4_read_l22 v1) (fun _ _ => none) (n + 1) (nI k) μm = itr (X4_read_l22 v1) (fun _ _ => none) n (nI (k + 1)) ν := by
          rw [itr_s]
          unfold X4_read_l22
          rw [hTm.1, ifLe (by omega) (by omega), if_neg (by omega), ck_nI (by omega) (by decide), nI_clamp (by omega), hTm.2 k (by omega), e, bn_eq, q1, if_neg (by decide), nI_1]
        have hcr : itr (X2_putItems_l7 a0) (fun _ _ _ _ => none) (n + 1) (nI it) (nI a) (nI k) μc = itr (X2_putItems_l7 a0) (fun _ _ _ _ => none) n (nI it) (nI a) (nI (k + 1)) μc := by
          rw [itr_s]
          unfold X2_putItems_l7
          rw [hTc.1, ifLt (by omega) (by omega), if_neg (by omega), if_neg (show ¬ nI k = nI N from fun z => by have := (nI_eq (by omega) (by omega)).mp z; omega), ck_nI (by omega) (by decide), nI_clamp (by omega), hTc.2 k (by omega), if_neg (show ¬ (nI (f k) : Int32) = 44 from ne_e (c := 44) w3 (by omega) (by decide)), nI_1]
        rw [hmr, hcr]
        obtain ⟨vc, νc2, vm, νm, νm', i1, i2, i3, i4, i5, i6⟩ := ih (k + 1) a s' it T n μc ν (by omega) (by omega) (nx_lt hs (by omega) hxn) ⟨sN, g1, g2⟩ hC hTc (MI_R hM hf) (TXm_R hTm hf) w1 w2 (by rw [hf.2.2 20 (by omega)]; exact h20) (by rw [hf.2.2 21 (by omega)]; exact h21) (by rw [hfT.2.2 22 (by omega)]; exact h22) (by omega) (by omega)
        exact ⟨vc, νc2, vm, νm, νm', i1, i2, i3, i4, frG_tr (frR_G hf) i5, i6⟩
