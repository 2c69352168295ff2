/-! ===== the offered pairs as a function of the facts; an import that brings nothing ===== -/
noncomputable def offOf (T : TT) : OX := @dite _ (∃ X, IsOff T X) (Classical.propDecidable _) (fun h => Classical.choose h) fun _ => fun _ _ => 0
theorem offOf_off {T : TT} {X : OX} (h : IsOff T X) : IsOff T (offOf T) := by
  unfold offOf
  rw [dif_pos ⟨X, h⟩]
  exact Classical.choose_spec (⟨X, h⟩ : ∃ X, IsOff T X)
theorem offOf_eq {T : TT} {X : OX} (h : IsOff T X) {s n : Nat} (hs : s < 16) (hn : n < 26) : X s n = offOf T s n := IsOff_one h (offOf_off h) hs hn
theorem layM_congr {T : TT} {X Y : OX} (hV : VT T) (h : ∀ s n, s < 16 → n < 26 → X s n = Y s n) {s n : Nat} (hn : n < 26) (j : Nat) : layM T X s n j = layM T Y s n j := by
  have h16 := hV.1.2.1
  unfold layM
  by_cases q : j = 0
  · rw [if_pos q, if_pos q]
  · rw [if_neg q, if_neg q]
    refine orI_cong (fun i hi => ?_)
    have := (hV.2.2.1.2 i hi).2.1
    rw [bro_same (X := X) (Y := Y) (fun m hm => h _ m (by omega) hm) hV hi hn]
theorem chn_congr {T T' : TT} {X Y : OX} {n : Nat} (h : ∀ s j, layM T X s n j = layM T' Y s n j) (hp : T.2.1 = T'.2.1) : ∀ (k s st : Nat), chn T X n k s st = chn T' Y n k s st
  | 0, _, _ => rfl
  | k + 1, s, st => by
    show lay3 T X s n st ++ _ = lay3 T' Y s n st ++ _
    have e1 : lay3 T X s n st = lay3 T' Y s n st := by unfold lay3; rw [h, h, h]
    have e2 : tPar T s = tPar T' s := by unfold tPar; rw [hp]
    rw [e1, e2]
    cases tPar T' s with
    | none => rfl
    | some p => exact congrArg _ (chn_congr h hp k p (st + 1))
theorem FS_congr {μ : Mm} {a : Nat} {T : TT} {X Y : OX} (hF : FS μ a T X) (h : ∀ s n, s < 16 → n < 26 → X s n = Y s n) : FS μ a T Y := by
  refine ⟨hF.1, hF.2.1, fun s n hs hn => ?_, fun s n hs hn => by rw [← h s n hs hn]; exact hF.2.2.2 s n hs hn⟩
  rw [← h s n hs hn, ← layM_congr hF.1 h hn 0, ← layM_congr hF.1 h hn 1, ← layM_congr hF.1 h hn 2]
  exact hF.2.2.1 s n hs hn
/-- settled facts at a place -/
def FO (μ : Mm) (a : Nat) (T : TT) : Prop := FS μ a T (offOf T) ∧ IsOff T (offOf T)
theorem settle_off {μ : Mm} {a : Nat} {T : TT} (ha : isF a) (hV : VT T) (hC : CF μ a T) : ∃ ν, X0_settle a μ = some ν ∧ FO ν a T ∧ (∀ i, i < 20 → ν.1 (a + 13) i = -1) ∧ fr (isSt a) μ ν := by
  obtain ⟨ν, e, X, h1, h2, h3, h4⟩ := settle_eq ha hV hC
  exact ⟨ν, e, ⟨FS_congr h1 (fun s n hs hn => offOf_eq h2 hs hn), offOf_off h2⟩, h3, h4⟩
theorem orI_shf {f : Nat → Nat} {i : Nat} (hz : f i = 0) : ∀ {k : Nat}, i < k + 1 → orI (shf f i) k = orI f (k + 1)
  | 0, h => by
    have : i = 0 := by omega
    subst this
    show 0 = 0 ||| f 0
    rw [hz]
    rfl
  | k + 1, h => by
    show orI (shf f i) k ||| shf f i k = orI f (k + 1) ||| f (k + 1)
    by_cases q : i = k + 1
    · subst q
      rw [hz, Nat.or_zero]
      have e : orI (shf f (k + 1)) k = orI f k := orI_cong (fun j hj => if_pos (by omega))
      rw [e, show shf f (k + 1) k = f k from if_pos (by omega)]
      rfl
    · rw [orI_shf hz (by omega), show shf f i k = f (k + 1) from if_neg (by omega)]
theorem delI_row (T : TT) (i j : Nat) : (delI T i).2.2.2.1 j = shf T.2.2.2.1 i j := rfl
theorem bro_row {T T' : TT} {X : OX} {i j n : Nat} (h : T'.2.2.2.1 j = T.2.2.2.1 i) : broM T' X j n = broM T X i n := by
  unfold broM iSr iLo iEx iFr
  rw [h]
theorem dOf_row {T T' : TT} (h0 : tD T' = tD T) (h : T'.2.2.1 = T.2.2.1) (s n : Nat) : dOf T' s n = dOf T s n := by
  unfold dOf
  rw [h0]
  generalize tD T = k
  induction k with
  | zero => rfl
  | succ k ih => unfold dIn dSc dNm; rw [ih, h]
theorem clI_row {T T' : TT} {X : OX} {i j : Nat} (h : T'.2.2.2.1 j = T.2.2.2.1 i) (h0 : tD T' = tD T) (h1 : T'.2.2.1 = T.2.2.1) : closedI T' X j ↔ closedI T X i := by
  unfold closedI iPs iTo
  rw [h]
  have e : ∀ n, broM T' X j n = broM T X i n := fun n => bro_row h
  constructor
  · intro z hp n hn hd
    rw [← e]; exact z hp n hn (by rw [dOf_row h0 h1]; exact hd)
  · intro z hp n hn hd
    rw [e]; exact z hp n hn (by rw [← dOf_row h0 h1]; exact hd)
/-- an import that brings nothing may go -/
theorem vain_off {T : TT} (hV : VT T) {X : OX} (hX : IsOff T X) {i : Nat} (hi : i < tI T) (hz : ∀ n, n < 26 → broM T X i n = 0) : IsOff (delI T i) X := by
  have hb : ∀ Y, based (delI T i) Y ↔ based T Y := fun Y => by
    have e : ∀ s n, baseM (delI T i) s n = baseM T s n := fun s n => by
      unfold baseM
      rw [dOf_row (T' := delI T i) (T := T) rfl rfl]
      rfl
    unfold based
    simp only [e]
  refine ⟨hX.1, (hb X).mpr hX.2.1, fun j hj => ?_, fun Y hYb hYc s n hs hn => ?_⟩
  · have hj' : j < tI T - 1 := hj
    obtain ⟨j', e, e2, -⟩ := shf_ex T.2.2.2.1 i j
    exact (clI_row (T := T) (T' := delI T i) (j := j) (i := j') e rfl rfl).mpr (hX.2.2.1 j' (by omega))
  · have hsub : ∀ s n, msub (X s n &&& Y s n) (X s n) := fun s n d h => by
      rw [Nat.testBit_and, Bool.and_eq_true] at h; exact h.1
    have hsub2 : ∀ s n, msub (X s n &&& Y s n) (Y s n) := fun s n d h => by
      rw [Nat.testBit_and, Bool.and_eq_true] at h; exact h.2
    have hland : ∀ {x a b : Nat}, msub x a → msub x b → msub x (a &&& b) := fun h1 h2 d hd => by
      rw [Nat.testBit_and, h1 d hd, h2 d hd]; rfl
    have key := hX.2.2.2 (fun s n => X s n &&& Y s n) (fun s n hs hn => hland (hX.2.1 s n hs hn) ((hb Y).mp hYb s n hs hn)) (fun j hj => ?_) s n hs hn
    · exact msub_tr key (hsub2 s n)
    · intro hp m hm hd
      have hx := msub_tr (bro_mono (X := fun s n => X s n &&& Y s n) (Y := X) (fun s n _ _ => hsub s n) hV hj hm) (hX.2.2.1 j hj hp m hm hd)
      refine hland hx ?_
      by_cases q : j = i
      · subst q
        have h0 := bro_mono (X := fun s n => X s n &&& Y s n) (Y := X) (fun s n _ _ => hsub s n) hV hj hm
        rw [hz m hm] at h0
        exact msub_tr h0 msub_0
      · have hcl : closedI T Y j := by
          by_cases q2 : j < i
          · exact (clI_row (T := T) (T' := delI T i) (j := j) (i := j) (if_pos q2) rfl rfl).mp (hYc j (show j < tI T - 1 by omega))
          · exact (clI_row (T := T) (T' := delI T i) (j := j - 1) (i := j) (by rw [delI_row]; unfold shf; rw [if_neg (by omega), Nat.sub_add_cancel (by omega)]) rfl rfl).mp (hYc (j - 1) (show j - 1 < tI T - 1 by omega))
        exact msub_tr (bro_mono (X := fun s n => X s n &&& Y s n) (Y := Y) (fun s n _ _ => hsub2 s n) hV hj hm) (hcl hp m hm hd)
theorem vain_lay {T : TT} {X : OX} {i : Nat} (hi : i < tI T) {n : Nat} (hz : broM T X i n = 0) (s j : Nat) : layM (delI T i) X s n j = layM T X s n j := by
  unfold layM
  by_cases q : j = 0
  · rw [if_pos q, if_pos q]
    unfold ownM
    rw [dOf_row (T' := delI T i) (T := T) rfl rfl]
  · rw [if_neg q, if_neg q]
    have e : (fun k => if iTo (delI T i) k = s ∧ isSg (delI T i) k = j then broM (delI T i) X k n else 0) = shf (fun k => if iTo T k = s ∧ isSg T k = j then broM T X k n else 0) i := by
      funext k
      obtain ⟨k', e1, e2, e3, e4⟩ := shf_ex T.2.2.2.1 i k
      have h1 : (delI T i).2.2.2.1 k = T.2.2.2.1 k' := e1
      have h2 : shf (fun k => if iTo T k = s ∧ isSg T k = j then broM T X k n else 0) i k = if iTo T k' = s ∧ isSg T k' = j then broM T X k' n else 0 := by
        unfold shf
        by_cases q2 : k < i
        · rw [if_pos q2, e3 q2]
        · rw [if_neg q2, e4 (by omega)]
      rw [h2, bro_row h1]
      unfold iTo isSg iSr
      rw [h1]
    rw [e]
    show orI _ (tI T - 1) = _
    rw [orI_shf (by show (if _ then broM T X i n else 0) = 0; rw [hz]; exact ite_self 0) (by omega), Nat.sub_add_cancel (by omega)]
theorem outU_same {T T' : TT} {X Y : OX} (hp : T.2.1 = T'.2.1) {u : Nat} (hu : T.2.2.2.2 u = T'.2.2.2.2 u) (h : ∀ s j, layM T X s (uNm T u) j = layM T' Y s (uNm T u) j) : outU T X u = outU T' Y u := by
  unfold outU outc lays
  rw [chn_congr h hp]
  unfold uSc uNm
  rw [hu]
noncomputable def loss (T : TT) (i : Nat) : Nat := fb_sm (fun u => @ite _ (outU T (offOf T) u = outU (delI T i) (offOf (delI T i)) u) (Nat.decEq _ _) 0 1) (tU T)
theorem loss_vain {T : TT} (hV : VT T) (hX : IsOff T (offOf T)) {i : Nat} (hi : i < tI T) (hz : ∀ n, n < 26 → broM T (offOf T) i n = 0) : loss T i = 0 := by
  unfold loss
  have hoff := vain_off hV hX hi hz
  have e : ∀ u, u < tU T → (@ite _ (outU T (offOf T) u = outU (delI T i) (offOf (delI T i)) u) (Nat.decEq _ _) 0 1) = 0 := fun u hu => by
    have hn := (hV.2.2.2.2 u hu).2
    rw [if_pos]
    rw [← outU_same (T := delI T i) (T' := delI T i) (X := offOf T) rfl rfl (fun s j => layM_congr (VT_delI hV hi) (fun s n hs hn => offOf_eq hoff hs hn) hn j)]
    exact outU_same (T := T) (T' := delI T i) rfl rfl (fun s j => (vain_lay hi (hz _ hn) s j).symm)
  have : ∀ k, k ≤ tU T → fb_sm (fun u => @ite _ (outU T (offOf T) u = outU (delI T i) (offOf (delI T i)) u) (Nat.decEq _ _) 0 1) k = 0 := by
    intro k
    induction k with
    | zero => intro _; rfl
    | succ k ih => intro hk; rw [fb_sm_succ, ih (by omega), e k (by omega)]
  exact this _ (Nat.le_refl _)
