/-! ===== two ways of counting the same ===== -/
theorem sm_add (f g : Nat → Nat) : ∀ n, fb_sm (fun k => f k + g k) n = fb_sm f n + fb_sm g n
  | 0 => rfl
  | n + 1 => by
    rw [fb_sm_succ, fb_sm_succ, fb_sm_succ, sm_add f g n]
    omega
theorem stC_0 (T : TT) : fb_sm (fun u => if 1 ≤ popc (outU T (offOf T) u) ∧ popc (outU T (offOf T) u) ≤ 1 then 1 else 0) (tU T) = stC T 0 := by
  unfold stC
  refine fb_sm_cong (fun u _ => ?_)
  unfold stU
  by_cases q : 2 ≤ popc (outU T (offOf T) u)
  · rw [if_neg (by omega), if_pos q]
    split <;> rfl
  · rw [if_neg q]
    by_cases q2 : popc (outU T (offOf T) u) = 1
    · rw [if_pos (by omega), if_pos (by omega)]
    · rw [if_neg (by omega), if_neg (by omega)]
theorem stC_23 (T : TT) : fb_sm (fun u => if 2 ≤ popc (outU T (offOf T) u) ∧ popc (outU T (offOf T) u) ≤ 30 then 1 else 0) (tU T) = stC T 2 + stC T 3 := by
  unfold stC
  rw [← sm_add]
  refine fb_sm_cong (fun u _ => ?_)
  have hp := popc_le (outU T (offOf T) u)
  unfold stU
  by_cases q : 2 ≤ popc (outU T (offOf T) u)
  · rw [if_pos (by omega), if_pos q]
    by_cases q2 : srt (lays T (offOf T) (uSc T u) (uNm T u)) = 1
    · rw [if_pos q2]; rfl
    · rw [if_neg q2]; rfl
  · rw [if_neg (by omega), if_neg q, if_neg (by omega), if_neg (by omega)]
/-! only declarations that there are -/
def dMask (T : TT) : Nat := 2 ^ tD T - 1
theorem off_mask {T : TT} {X : OX} (hV : VT T) (hX : IsOff T X) {s n : Nat} (hs : s < 16) (hn : n < 26) : msub (X s n) (dMask T) := by
  refine hX.2.2.2 (fun _ _ => dMask T) (fun s n _ _ => ?_) (fun i hi hp n hn hd => ?_) s n hs hn
  · intro d hd
    unfold baseM at hd
    cases h : dOf T s n with
    | none => rw [h] at hd; exact absurd hd (by show ¬ (0 : Nat).testBit d = true; rw [Nat.zero_testBit]; decide)
    | some e =>
      rw [h] at hd
      have he := (dOf_some h).1
      have hd' : (if dPb T e = 1 then 2 ^ e else 0).testBit d = true := hd
      unfold dMask
      rw [Nat.testBit_two_pow_sub_one]
      refine decide_eq_true ?_
      by_cases q : dPb T e = 1
      · rw [if_pos q, pw_bit] at hd'
        have := of_decide_eq_true hd'
        omega
      · rw [if_neg q, Nat.zero_testBit] at hd'; cases hd'
  · unfold broM
    split
    · split
      · exact msub_rfl
      · exact msub_0
    · split
      · exact msub_0
      · exact msub_rfl
theorem bro_mask {T : TT} {X : OX} (hV : VT T) (hX : IsOff T X) {i n : Nat} (hi : i < tI T) (hn : n < 26) : msub (broM T X i n) (dMask T) := by
  have h16 := hV.1.2.1
  obtain ⟨-, hf, -, -, hk⟩ := hV.2.2.1.2 i hi
  rcases hk with ⟨e1, e2, e3⟩ | ⟨a', b', ha', hb', e1, e2, e3⟩
  · rw [bro_full e1]
    split
    · exact msub_0
    · exact off_mask hV hX (by omega) hn
  · rw [bro_single e1 e2]
    split
    · exact off_mask hV hX (by omega) ha'
    · exact msub_0
theorem orI_sub {f : Nat → Nat} {M : Nat} : ∀ {k : Nat}, (∀ i, i < k → msub (f i) M) → msub (orI f k) M
  | 0, _ => msub_0
  | k + 1, h => msub_or.mpr ⟨orI_sub (fun i hi => h i (by omega)), h k (by omega)⟩
theorem lay_mask {T : TT} {X : OX} (hV : VT T) (hX : IsOff T X) (s : Nat) {n : Nat} (hn : n < 26) (j : Nat) : msub (layM T X s n j) (dMask T) := by
  unfold layM
  by_cases q : j = 0
  · rw [if_pos q]
    unfold ownM
    cases h : dOf T s n with
    | none => exact msub_0
    | some e =>
      have he := (dOf_some h).1
      intro d hd
      have hd' : (2 ^ e).testBit d = true := hd
      rw [pw_bit] at hd'
      have := of_decide_eq_true hd'
      unfold dMask
      rw [Nat.testBit_two_pow_sub_one]
      exact decide_eq_true (by omega)
  · rw [if_neg q]
    refine orI_sub (fun i hi => ?_)
    split
    · exact bro_mask hV hX hi hn
    · exact msub_0
theorem outc_mask {T : TT} {X : OX} (hV : VT T) (hX : IsOff T X) {s n : Nat} (hn : n < 26) : msub (outc T X s n) (dMask T) := by
  unfold outc
  rw [hd_get]
  cases h : (lays T X s n)[0]? with
  | none => exact msub_0
  | some t =>
    obtain ⟨p, -, -, -, w4, -⟩ := mem_lays h
    show msub t.1 _
    rw [w4]
    exact lay_mask hV hX p hn _
theorem orI_bit {f : Nat → Nat} {d : Nat} : ∀ {k : Nat}, (orI f k).testBit d = true ↔ ∃ i, i < k ∧ (f i).testBit d = true
  | 0 => ⟨fun h => absurd h (by show ¬ (0 : Nat).testBit d = true; rw [Nat.zero_testBit]; decide), fun ⟨i, h, _⟩ => by omega⟩
  | k + 1 => by
    show (orI f k ||| f k).testBit d = true ↔ _
    rw [Nat.testBit_or, Bool.or_eq_true, orI_bit]
    constructor
    · rintro (⟨i, h1, h2⟩ | h)
      · exact ⟨i, by omega, h2⟩
      · exact ⟨k, by omega, h⟩
    · rintro ⟨i, h1, h2⟩
      by_cases e : i = k
      · subst e; exact Or.inr h2
      · exact Or.inl ⟨i, by omega, h2⟩
theorem sm_pos {f : Nat → Nat} : ∀ {n : Nat}, fb_sm f n ≠ 0 → ∃ i, i < n ∧ f i ≠ 0
  | 0, h => absurd rfl h
  | n + 1, h => by
    by_cases q : f n = 0
    · rw [fb_sm_succ, q, Nat.add_zero] at h
      obtain ⟨i, h1, h2⟩ := sm_pos h
      exact ⟨i, by omega, h2⟩
    · exact ⟨n, by omega, q⟩
theorem reach_bit {T : TT} (hV : VT T) (hX : IsOff T (offOf T)) (d : Nat) : (reach T (offOf T)).testBit d = true ↔ useR T d ≠ 0 := by
  unfold reach
  rw [orI_bit]
  constructor
  · rintro ⟨u, hu, hb⟩ hz
    have h0 := fb_sm_zero hz u hu
    have hb' : (if popc (outU T (offOf T) u) = 1 then outU T (offOf T) u else 0).testBit d = true := hb
    by_cases q : popc (outU T (offOf T) u) = 1
    · rw [if_pos q] at hb'
      obtain ⟨e, he, hm⟩ := popc_one (outU_lt hV hX.1 hu) q
      rw [hm, pw_bit] at hb'
      have := of_decide_eq_true hb'
      subst this
      have h0' : (if outU T (offOf T) u = 2 ^ e then 1 else 0) = 0 := h0
      rw [if_pos hm] at h0'
      cases h0'
    · rw [if_neg q, Nat.zero_testBit] at hb'; cases hb'
  · intro h
    obtain ⟨u, hu, hne⟩ := sm_pos h
    refine ⟨u, hu, ?_⟩
    have hne' : (if outU T (offOf T) u = 2 ^ d then 1 else 0) ≠ 0 := hne
    by_cases q : outU T (offOf T) u = 2 ^ d
    · have hd30 : d < 30 := by
        have := outU_lt hV hX.1 hu
        rw [q] at this
        exact (Nat.pow_lt_pow_iff_right (by decide)).mp this
      show (if popc (outU T (offOf T) u) = 1 then outU T (offOf T) u else 0).testBit d = true
      rw [q, if_pos (popc_pow d hd30).1, pw_bit]
      exact decide_eq_true rfl
    · rw [if_neg q] at hne'; exact absurd rfl hne'
theorem unused_same {T : TT} (hV : VT T) (hX : IsOff T (offOf T)) : nI (tD T) - nI (popc (reach T (offOf T))) = nI (fb_sm (fun d => if useR T d = 0 then 1 else 0) (tD T)) := by
  have hD := hV.2.1.1
  have hz : ∀ d, tD T ≤ d → useR T d = 0 := fun d hd => by
    by_cases q : useR T d = 0
    · exact q
    · exfalso
      obtain ⟨u, hu, hne⟩ := sm_pos q
      have hne' : (if outU T (offOf T) u = 2 ^ d then 1 else 0) ≠ 0 := hne
      by_cases q2 : outU T (offOf T) u = 2 ^ d
      · have hm := outc_mask hV hX (s := uSc T u) (hV.2.2.2.2 u hu).2
        have hm' : msub (outU T (offOf T) u) (dMask T) := hm
        rw [q2] at hm'
        have := hm' d (by rw [pw_bit]; exact decide_eq_true rfl)
        unfold dMask at this
        rw [Nat.testBit_two_pow_sub_one] at this
        have := of_decide_eq_true this
        omega
      · rw [if_neg q2] at hne'; exact absurd rfl hne'
  have hpc : ∀ k, k ≤ 30 - tD T → fb_ct (fun d => (reach T (offOf T)).testBit d) (tD T + k) = fb_ct (fun d => (reach T (offOf T)).testBit d) (tD T) := by
    intro k
    induction k with
    | zero => intro _; rfl
    | succ k ih =>
      intro hk
      rw [← Nat.add_assoc, ct_bool, ih (by omega)]
      have : (reach T (offOf T)).testBit (tD T + k) = false := by
        cases h : (reach T (offOf T)).testBit (tD T + k) with
        | false => rfl
        | true => exact absurd (hz _ (by omega)) ((reach_bit hV hX _).mp h)
      rw [this]
      rfl
  have hp : popc (reach T (offOf T)) = fb_ct (fun d => (reach T (offOf T)).testBit d) (tD T) := by
    have := hpc (30 - tD T) (Nat.le_refl _)
    rw [show tD T + (30 - tD T) = 30 by omega] at this
    exact this
  have hs : ∀ k, fb_sm (fun d => if useR T d = 0 then 1 else 0) k = fb_ct (fun d => !(reach T (offOf T)).testBit d) k := by
    intro k
    induction k with
    | zero => rfl
    | succ k ih =>
      rw [fb_sm_succ, ct_bool, ih]
      congr 1
      cases h : (reach T (offOf T)).testBit k with
      | true => rw [if_neg ((reach_bit hV hX k).mp h)]; rfl
      | false => rw [if_pos (by
          by_cases q : useR T k = 0
          · exact q
          · rw [(reach_bit hV hX k).mpr q] at h; cases h)]; rfl
  have hn := fb_ct_not (fun d => (reach T (offOf T)).testBit d) (tD T)
  rw [hp, hs, nI_sb (by omega)]
  congr 1
  omega
/-! scopes that there are not offer nothing -/
theorem off_none {T : TT} {X : OX} (hV : VT T) (hX : IsOff T X) {s n : Nat} (hs : s < 16) (hn : n < 26) (hge : tS T ≤ s) : X s n = 0 := by
  have h := hX.2.2.2 (fun s n => if s < tS T then X s n else 0) (fun s n hs hn => ?_) (fun i hi hp n hn hd => ?_) s n hs hn
  · have h' : msub (X s n) (if s < tS T then X s n else 0) := h
    rw [if_neg (by omega)] at h'
    exact msub_anti h' msub_0
  · show msub _ (if s < tS T then X s n else 0)
    by_cases q : s < tS T
    · rw [if_pos q]; exact hX.2.1 s n hs hn
    · rw [if_neg q]
      unfold baseM
      cases h : dOf T s n with
      | none => exact msub_0
      | some d =>
        obtain ⟨h1, h2, -⟩ := dOf_some h
        have := (hV.2.1.2.1 d h1).1
        omega
  · obtain ⟨ht, hf, -⟩ := hV.2.2.1.2 i hi
    show msub _ (if iTo T i < tS T then X (iTo T i) n else 0)
    rw [if_pos ht, bro_same (Y := X) (fun m _ => if_pos hf) hV hi hn]
    exact hX.2.2.1 i hi hp n hn hd
theorem pairs_all {T : TT} (hV : VT T) (hX : IsOff T (offOf T)) : fb_sm (fun c => popc (offOf T (c / 26) (c % 26))) 416 = pairs T (offOf T) := by
  have h16 := hV.1.2.1
  unfold pairs
  have : ∀ k, tS T * 26 + k ≤ 416 → fb_sm (fun c => popc (offOf T (c / 26) (c % 26))) (tS T * 26 + k) = fb_sm (fun c => popc (offOf T (c / 26) (c % 26))) (tS T * 26) := by
    intro k
    induction k with
    | zero => intro _; rfl
    | succ k ih =>
      intro hk
      rw [← Nat.add_assoc, fb_sm_succ, ih (by omega), off_none hV hX (by omega) (by omega) (by omega)]
      rfl
  have h := this (416 - tS T * 26) (by omega)
  rw [show tS T * 26 + (416 - tS T * 26) = 416 by omega] at h
  exact h
