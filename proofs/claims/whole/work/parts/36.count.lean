/-! ===== loops that come to a given answer; the component's counts ===== -/
theorem iq1 {β : Type} {F : (Int32 → Option β) → Int32 → Option β} {bot : Int32 → Option β} (y : Option β) (I : Nat → Int32 → Prop) (hs : ∀ (k : Int32 → Option β) (m : Nat) (a0 : Int32), I m a0 → (∀ (m' : Nat) (a0' : Int32), m' < m → I m' a0' → k a0' = y) → F k a0 = y) : ∀ (n m : Nat) (a0 : Int32), m < n → I m a0 → itr F bot n a0 = y := by
  intro n
  induction n with
  | zero => intro m a0 h; omega
  | succ n ih => intro m a0 hm hI; exact hs _ m a0 hI (fun m' a0' h h' => ih m' a0' (by omega) h')
theorem iq1m {β : Type} {F : (Int32 → Mm → Option β) → Int32 → Mm → Option β} {bot : Int32 → Mm → Option β} (y : Option β) (I : Nat → Int32 → Mm → Prop) (hs : ∀ (k : Int32 → Mm → Option β) (m : Nat) (a0 : Int32) (μ : Mm), I m a0 μ → (∀ (m' : Nat) (a0' : Int32) (μ' : Mm), m' < m → I m' a0' μ' → k a0' μ' = y) → F k a0 μ = y) : ∀ (n m : Nat) (a0 : Int32) (μ : Mm), m < n → I m a0 μ → itr F bot n a0 μ = y := by
  intro n
  induction n with
  | zero => intro m a0 μ h; omega
  | succ n ih => intro m a0 μ hm hI; exact hs _ m a0 μ hI (fun m' a0' μ' h h' => ih m' a0' μ' (by omega) h')
theorem iq2 {β : Type} {F : (Int32 → Int32 → Option β) → Int32 → Int32 → Option β} {bot : Int32 → Int32 → Option β} (y : Option β) (I : Nat → Int32 → Int32 → Prop) (hs : ∀ (k : Int32 → Int32 → Option β) (m : Nat) (a0 : Int32) (a1 : Int32), I m a0 a1 → (∀ (m' : Nat) (a0' : Int32) (a1' : Int32), m' < m → I m' a0' a1' → k a0' a1' = y) → F k a0 a1 = y) : ∀ (n m : Nat) (a0 : Int32) (a1 : Int32), m < n → I m a0 a1 → itr F bot n a0 a1 = y := by
  intro n
  induction n with
  | zero => intro m a0 a1 h; omega
  | succ n ih => intro m a0 a1 hm hI; exact hs _ m a0 a1 hI (fun m' a0' a1' h h' => ih m' a0' a1' (by omega) h')
theorem iq2m {β : Type} {F : (Int32 → Int32 → Mm → Option β) → Int32 → Int32 → Mm → Option β} {bot : Int32 → Int32 → Mm → Option β} (y : Option β) (I : Nat → Int32 → Int32 → Mm → Prop) (hs : ∀ (k : Int32 → Int32 → Mm → Option β) (m : Nat) (a0 : Int32) (a1 : Int32) (μ : Mm), I m a0 a1 μ → (∀ (m' : Nat) (a0' : Int32) (a1' : Int32) (μ' : Mm), m' < m → I m' a0' a1' μ' → k a0' a1' μ' = y) → F k a0 a1 μ = y) : ∀ (n m : Nat) (a0 : Int32) (a1 : Int32) (μ : Mm), m < n → I m a0 a1 μ → itr F bot n a0 a1 μ = y := by
  intro n
  induction n with
  | zero => intro m a0 a1 μ h; omega
  | succ n ih => intro m a0 a1 μ hm hI; exact hs _ m a0 a1 μ hI (fun m' a0' a1' μ' h h' => ih m' a0' a1' μ' (by omega) h')
theorem iq3 {β : Type} {F : (Int32 → Int32 → Int32 → Option β) → Int32 → Int32 → Int32 → Option β} {bot : Int32 → Int32 → Int32 → Option β} (y : Option β) (I : Nat → Int32 → Int32 → Int32 → Prop) (hs : ∀ (k : Int32 → Int32 → Int32 → Option β) (m : Nat) (a0 : Int32) (a1 : Int32) (a2 : Int32), I m a0 a1 a2 → (∀ (m' : Nat) (a0' : Int32) (a1' : Int32) (a2' : Int32), m' < m → I m' a0' a1' a2' → k a0' a1' a2' = y) → F k a0 a1 a2 = y) : ∀ (n m : Nat) (a0 : Int32) (a1 : Int32) (a2 : Int32), m < n → I m a0 a1 a2 → itr F bot n a0 a1 a2 = y := by
  intro n
  induction n with
  | zero => intro m a0 a1 a2 h; omega
  | succ n ih => intro m a0 a1 a2 hm hI; exact hs _ m a0 a1 a2 hI (fun m' a0' a1' a2' h h' => ih m' a0' a1' a2' (by omega) h')
theorem iq3m {β : Type} {F : (Int32 → Int32 → Int32 → Mm → Option β) → Int32 → Int32 → Int32 → Mm → Option β} {bot : Int32 → Int32 → Int32 → Mm → Option β} (y : Option β) (I : Nat → Int32 → Int32 → Int32 → Mm → Prop) (hs : ∀ (k : Int32 → Int32 → Int32 → Mm → Option β) (m : Nat) (a0 : Int32) (a1 : Int32) (a2 : Int32) (μ : Mm), I m a0 a1 a2 μ → (∀ (m' : Nat) (a0' : Int32) (a1' : Int32) (a2' : Int32) (μ' : Mm), m' < m → I m' a0' a1' a2' μ' → k a0' a1' a2' μ' = y) → F k a0 a1 a2 μ = y) : ∀ (n m : Nat) (a0 : Int32) (a1 : Int32) (a2 : Int32) (μ : Mm), m < n → I m a0 a1 a2 μ → itr F bot n a0 a1 a2 μ = y := by
  intro n
  induction n with
  | zero => intro m a0 a1 a2 μ h; omega
  | succ n ih => intro m a0 a1 a2 μ hm hI; exact hs _ m a0 a1 a2 μ hI (fun m' a0' a1' a2' μ' h h' => ih m' a0' a1' a2' μ' (by omega) h')
theorem iq4 {β : Type} {F : (Int32 → Int32 → Int32 → Int32 → Option β) → Int32 → Int32 → Int32 → Int32 → Option β} {bot : Int32 → Int32 → Int32 → Int32 → Option β} (y : Option β) (I : Nat → Int32 → Int32 → Int32 → Int32 → Prop) (hs : ∀ (k : Int32 → Int32 → Int32 → Int32 → Option β) (m : Nat) (a0 : Int32) (a1 : Int32) (a2 : Int32) (a3 : Int32), I m a0 a1 a2 a3 → (∀ (m' : Nat) (a0' : Int32) (a1' : Int32) (a2' : Int32) (a3' : Int32), m' < m → I m' a0' a1' a2' a3' → k a0' a1' a2' a3' = y) → F k a0 a1 a2 a3 = y) : ∀ (n m : Nat) (a0 : Int32) (a1 : Int32) (a2 : Int32) (a3 : Int32), m < n → I m a0 a1 a2 a3 → itr F bot n a0 a1 a2 a3 = y := by
  intro n
  induction n with
  | zero => intro m a0 a1 a2 a3 h; omega
  | succ n ih => intro m a0 a1 a2 a3 hm hI; exact hs _ m a0 a1 a2 a3 hI (fun m' a0' a1' a2' a3' h h' => ih m' a0' a1' a2' a3' (by omega) h')
theorem iq4m {β : Type} {F : (Int32 → Int32 → Int32 → Int32 → Mm → Option β) → Int32 → Int32 → Int32 → Int32 → Mm → Option β} {bot : Int32 → Int32 → Int32 → Int32 → Mm → Option β} (y : Option β) (I : Nat → Int32 → Int32 → Int32 → Int32 → Mm → Prop) (hs : ∀ (k : Int32 → Int32 → Int32 → Int32 → Mm → Option β) (m : Nat) (a0 : Int32) (a1 : Int32) (a2 : Int32) (a3 : Int32) (μ : Mm), I m a0 a1 a2 a3 μ → (∀ (m' : Nat) (a0' : Int32) (a1' : Int32) (a2' : Int32) (a3' : Int32) (μ' : Mm), m' < m → I m' a0' a1' a2' a3' μ' → k a0' a1' a2' a3' μ' = y) → F k a0 a1 a2 a3 μ = y) : ∀ (n m : Nat) (a0 : Int32) (a1 : Int32) (a2 : Int32) (a3 : Int32) (μ : Mm), m < n → I m a0 a1 a2 a3 μ → itr F bot n a0 a1 a2 a3 μ = y := by
  intro n
  induction n with
  | zero => intro m a0 a1 a2 a3 μ h; omega
  | succ n ih => intro m a0 a1 a2 a3 μ hm hI; exact hs _ m a0 a1 a2 a3 μ hI (fun m' a0' a1' a2' a3' μ' h h' => ih m' a0' a1' a2' a3' μ' (by omega) h')
theorem iq5 {β : Type} {F : (Int32 → Int32 → Int32 → Int32 → Int32 → Option β) → Int32 → Int32 → Int32 → Int32 → Int32 → Option β} {bot : Int32 → Int32 → Int32 → Int32 → Int32 → Option β} (y : Option β) (I : Nat → Int32 → Int32 → Int32 → Int32 → Int32 → Prop) (hs : ∀ (k : Int32 → Int32 → Int32 → Int32 → Int32 → Option β) (m : Nat) (a0 : Int32) (a1 : Int32) (a2 : Int32) (a3 : Int32) (a4 : Int32), I m a0 a1 a2 a3 a4 → (∀ (m' : Nat) (a0' : Int32) (a1' : Int32) (a2' : Int32) (a3' : Int32) (a4' : Int32), m' < m → I m' a0' a1' a2' a3' a4' → k a0' a1' a2' a3' a4' = y) → F k a0 a1 a2 a3 a4 = y) : ∀ (n m : Nat) (a0 : Int32) (a1 : Int32) (a2 : Int32) (a3 : Int32) (a4 : Int32), m < n → I m a0 a1 a2 a3 a4 → itr F bot n a0 a1 a2 a3 a4 = y := by
  intro n
  induction n with
  | zero => intro m a0 a1 a2 a3 a4 h; omega
  | succ n ih => intro m a0 a1 a2 a3 a4 hm hI; exact hs _ m a0 a1 a2 a3 a4 hI (fun m' a0' a1' a2' a3' a4' h h' => ih m' a0' a1' a2' a3' a4' (by omega) h')
theorem iq5m {β : Type} {F : (Int32 → Int32 → Int32 → Int32 → Int32 → Mm → Option β) → Int32 → Int32 → Int32 → Int32 → Int32 → Mm → Option β} {bot : Int32 → Int32 → Int32 → Int32 → Int32 → Mm → Option β} (y : Option β) (I : Nat → Int32 → Int32 → Int32 → Int32 → Int32 → Mm → Prop) (hs : ∀ (k : Int32 → Int32 → Int32 → Int32 → Int32 → Mm → Option β) (m : Nat) (a0 : Int32) (a1 : Int32) (a2 : Int32) (a3 : Int32) (a4 : Int32) (μ : Mm), I m a0 a1 a2 a3 a4 μ → (∀ (m' : Nat) (a0' : Int32) (a1' : Int32) (a2' : Int32) (a3' : Int32) (a4' : Int32) (μ' : Mm), m' < m → I m' a0' a1' a2' a3' a4' μ' → k a0' a1' a2' a3' a4' μ' = y) → F k a0 a1 a2 a3 a4 μ = y) : ∀ (n m : Nat) (a0 : Int32) (a1 : Int32) (a2 : Int32) (a3 : Int32) (a4 : Int32) (μ : Mm), m < n → I m a0 a1 a2 a3 a4 μ → itr F bot n a0 a1 a2 a3 a4 μ = y := by
  intro n
  induction n with
  | zero => intro m a0 a1 a2 a3 a4 μ h; omega
  | succ n ih => intro m a0 a1 a2 a3 a4 μ hm hI; exact hs _ m a0 a1 a2 a3 a4 μ hI (fun m' a0' a1' a2' a3' a4' μ' h h' => ih m' a0' a1' a2' a3' a4' μ' (by omega) h')
def cnt (p : Nat → Prop) (d : DecidablePred p) (n : Nat) : Nat := fb_sm (fun k => if p k then 1 else 0) n
theorem sm_pick {c l : Nat} : ∀ {n : Nat}, l < n → fb_sm (fun k => if k = l then c else 0) n = c
  | 0, h => by omega
  | n + 1, h => by
    rw [fb_sm_succ]
    by_cases e : n = l
    · subst e
      rw [if_pos rfl]
      have : fb_sm (fun k => if k = n then c else 0) n = 0 := by
        rw [fb_sm_cong (g := fun _ => 0) (fun k hk => if_neg (by omega)), fb_sm_const]
        omega
      omega
    · rw [if_neg e, sm_pick (by omega)]
      omega
theorem foldN_or {f : Nat → Nat} : ∀ {n : Nat}, foldN (fun i acc => acc ||| f i) n 0 = orI f n
  | 0 => rfl
  | n + 1 => by
    show foldN _ n 0 ||| f n = _
    rw [foldN_or]
    rfl
theorem ite_lt30 {c : Prop} {dc : Decidable c} {x : Nat} (h : x < 2 ^ 30) : (@ite _ c dc x 0) < 2 ^ 30 := by
  by_cases q : c
  · rw [if_pos q]; exact h
  · rw [if_neg q]; decide
theorem one_pow {d : Nat} (h : d < 30) : (1 : Int32) <<< (nI d &&& 31) = nI (2 ^ d) := sh1 (by omega)
theorem lt31 {x : Nat} (h : x < 2 ^ 30) : x < 2 ^ 31 := Nat.lt_trans h (by decide)
def prs (T : TT) (X : OX) (i : Nat) : Nat := fb_sm (fun n => popc (broM T X i n)) 26
def reach (T : TT) (X : OX) : Nat := orI (fun u => if popc (outU T X u) = 1 then outU T X u else 0) (tU T)
def dpt (T : TT) : Nat → Nat → Nat
  | 0, _ => 0
  | k + 1, s => match tPar T s with
    | none => 0
    | some p => 1 + dpt T k p
section RG
variable {μ : Mm} {a : Nat} {T : TT} {X : OX}
theorem usesInState_eq (h : FS μ a T X) {x : Nat} (hx : x < 2 ^ 31) : X0_usesInState a (nI x) μ = some (nI (fb_sm (fun u => if stU T X u = x then 1 else 0) (tU T))) := by
  have hU := h.1.2.2.2.1
  refine cnt_loop _ (by omega) (fun k acc => ?_) (fun k acc i hi => ?_)
  · unfold X0_usesInState_l4
    rw [h.2.1.1.2.2.2, ifLe (by omega) (by omega), if_pos (Nat.le_refl _)]
  · unfold X0_usesInState_l4
    have hst : stU T X i ≤ 3 := by unfold stU; split <;> (try split) <;> omega
    rw [h.2.1.1.2.2.2, ifLe (by omega) (by omega), if_neg (by omega), stateOfUse_eq h hi, bi_eq, bd_eq, ifEq (by omega) hx, lit_n 0, lit_n 1, ite_nI, nI_add, nI_add]
theorem usesResolvedTo_eq (h : FS μ a T X) {d : Nat} (hd : d < 30) : X0_usesResolvedTo a (nI d) μ = some (nI (fb_sm (fun u => if outU T X u = 2 ^ d then 1 else 0) (tU T))) := by
  have hU := h.1.2.2.2.1
  refine cnt_loop _ (by omega) (fun k acc => ?_) (fun k acc i hi => ?_)
  · unfold X0_usesResolvedTo_l4
    rw [h.2.1.1.2.2.2, ifLe (by omega) (by omega), if_pos (Nat.le_refl _)]
  · unfold X0_usesResolvedTo_l4
    rw [h.2.1.1.2.2.2, ifLe (by omega) (by omega), if_neg (by omega), outcome_eq h hi, bi_eq, bd_eq, one_pow hd, ifEq (lt31 (outU_lt h.1 h.2.2.2 hi)) (lt31 (pow_lt hd)), lit_n 0, lit_n 1, ite_nI, nI_add, nI_add]
theorem scopesThatSee_eq (h : FS μ a T X) {d : Nat} (hd : d < tD T) : X0_scopesThatSee a (nI d) μ = some (nI (fb_sm (fun s => if outc T X s (dNm T d) = 2 ^ d then 1 else 0) (tS T))) := by
  have hS := h.1.1.2.1
  have hd30 : d < 30 := Nat.lt_of_lt_of_le hd h.1.2.1.1
  have hn := (h.1.2.1.2.1 d hd).2.1
  refine cnt_loop _ (by omega) (fun k acc => ?_) (fun k acc i hi => ?_)
  · unfold X0_scopesThatSee_l4
    rw [h.2.1.1.1, ifLe (by omega) (by omega), if_pos (Nat.le_refl _)]
  · unfold X0_scopesThatSee_l4
    rw [h.2.1.1.1, ifLe (by omega) (by omega), if_neg (by omega), ck_nI hd30 (by decide), nI_clamp (by omega), (h.2.1.2.2.1 d hd).2.1, firstLayer_eq h hi hn, bi_eq, bd_eq, one_pow hd30, ifEq (lt31 (outc_lt h.1 h.2.2.2 hn)) (lt31 (pow_lt hd30)), lit_n 0, lit_n 1, ite_nI, nI_add, nI_add]
theorem reach_lt (hV : VT T) (hX : XB X) : ∀ n, n ≤ tU T → orI (fun u => if popc (outU T X u) = 1 then outU T X u else 0) n < 2 ^ 30 := by
  intro n hn
  refine orI_lt (fun i hi => ?_)
  by_cases q : popc (outU T X i) = 1
  · rw [if_pos q]; exact outU_lt hV hX (by omega)
  · rw [if_neg q]; decide
theorem unusedDeclarations_eq (h : FS μ a T X) : X0_unusedDeclarations a μ = some (nI (tD T) - nI (popc (reach T X))) := by
  have hU := h.1.2.2.2.1
  have := fold_loop (F := X0_unusedDeclarations_l4 a μ) (bot := fun _ _ => none) (N := tU T) (fun i acc => acc ||| (if popc (outU T X i) = 1 then outU T X i else 0)) (fun m => nI (tD T) - nI (popc m)) (fun _ acc => acc < 2 ^ 30) (by omega) 0 (by decide) (fun k acc hacc => ?_) (fun k acc i hi hacc => ?_)
  · rw [foldN_or] at this
    exact this
  · unfold X0_unusedDeclarations_l4
    rw [h.2.1.1.2.2.2, ifLe (by omega) (by omega), if_pos (Nat.le_refl _), bitCount_eq hacc, bi_eq, h.2.1.1.2.1]
  · have hlt := outU_lt h.1 h.2.2.2 hi
    have hp := popc_le (outU T X i)
    refine ⟨or_lt30 hacc (ite_lt30 hlt), ?_⟩
    unfold X0_unusedDeclarations_l4
    rw [h.2.1.1.2.2.2, ifLe (by omega) (by omega), if_neg (by omega), outcome_eq h hi, bi_eq, bitCount_eq hlt, bi_eq, bd_eq, lit_n 1, ifEq (by omega) (by decide), lit_n 0, ite_nI, or_nI, nI_add]
theorem bro_single {i a' b' : Nat} (h1 : iSr T i = some a') (h2 : iLo T i = some b') (n : Nat) : broM T X i n = if n = b' then X (iFr T i) a' else 0 := by
  unfold broM
  rw [h1, h2]
  by_cases q : n = b'
  · subst q
    simp
  · rw [if_neg q]
    simp [q]
theorem bro_full {i : Nat} (h1 : iSr T i = none) (n : Nat) : broM T X i n = if (iEx T i).testBit n = true then 0 else X (iFr T i) n := by
  unfold broM
  rw [h1]
theorem popc_0 : popc 0 = 0 := by decide
theorem pairsBrought_eq (h : FS μ a T X) {i : Nat} (hi : i < tI T) : X0_pairsBrought a (nI i) μ = some (nI (prs T X i)) := by
  have hi20 : i < 20 := Nat.lt_of_lt_of_le hi h.1.2.2.1.1
  obtain ⟨-, v2, -, -, v5⟩ := h.1.2.2.1.2 i hi
  obtain ⟨-, c2, c3, -, c5, -⟩ := h.2.1.2.2.2.1 i hi
  have hf16 := h.s16 v2
  unfold X0_pairsBrought
  rw [ck_nI hi20 (by decide), bd_eq, ck_nI hi20 (by decide), ck_nI hi20 (by decide), nI_clamp (by omega), c2, c3, lit_n 26, pk_mul]
  rcases v5 with ⟨e1, e2, e3⟩ | ⟨a', b', ha', hb', e1, e2, e3⟩
  · rw [e1, if_pos (show enc none = -1 from rfl)]
    refine iq3 _ (fun m u2 u3 u4 => ∃ n, n + m = 26 ∧ u2 = nI (iFr T i * 26) ∧ u4 = nI n ∧ u3 = nI (fb_sm (fun n => popc (broM T X i n)) n)) ?_ big 26 _ _ _ (by decide) ⟨0, rfl, rfl, rfl, rfl⟩
    rintro kk m u2 u3 u4 ⟨n, hm, rfl, rfl, rfl⟩ ih
    unfold X0_pairsBrought_l45
    rw [lit_n 26, ifLe (by decide) (by omega)]
    by_cases q : 26 ≤ n
    · have : n = 26 := by omega
      subst this
      rw [if_pos q]
      rfl
    · have hc : iFr T i * 26 + n < 416 := by omega
      rw [if_neg q, ck_nI hi20 (by decide), nI_clamp (by omega), c5, shr1 (by omega) (by omega), lit_n 0, ifEq (by cases (iEx T i).testBit n <;> decide) (by decide), nI_1, nI_add, ck_nI hc (by decide), nI_clamp (by omega), (h.2.2.1 _ n hf16 (by omega)).1, bitCount_eq (h.2.2.2 _ n hf16 (by omega)), bi_eq, bd_eq, nI_add]
      cases hb : (iEx T i).testBit n with
      | false =>
        rw [if_pos (show false.toNat = 0 from rfl)]
        refine ih (m - 1) _ _ _ (by omega) ⟨n + 1, by omega, rfl, rfl, ?_⟩
        rw [fb_sm_succ, bro_full e1 n, hb]
        rfl
      | true =>
        rw [if_neg (show ¬ true.toNat = 0 by decide)]
        refine ih (m - 1) _ _ _ (by omega) ⟨n + 1, by omega, rfl, rfl, ?_⟩
        rw [fb_sm_succ, bro_full e1 n, hb, if_pos rfl, popc_0]
        rfl
  · have hc : iFr T i * 26 + a' < 416 := by omega
    rw [e1, show enc (some a') = nI a' from rfl, if_neg (nI_ne_m1 (by omega)), nI_add, ck_nI hc (by decide), nI_clamp (by omega), (h.2.2.1 _ a' hf16 ha').1, bitCount_eq (h.2.2.2 _ a' hf16 ha'), bi_eq]
    unfold prs
    rw [fb_sm_cong (g := fun n => if n = b' then popc (X (iFr T i) a') else 0) (fun n hn => by
      rw [bro_single e1 e2 n]
      by_cases q : n = b'
      · rw [if_pos q, if_pos q]
      · rw [if_neg q, if_neg q, popc_0]), sm_pick hb']
theorem prs_le (hX : XB X) (i : Nat) : prs T X i ≤ 780 := by
  have := fb_sm_le (f := fun n => popc (broM T X i n)) (g := fun _ => 30) (n := 26) (fun k _ => popc_le _)
  rw [fb_sm_const] at this
  exact this
theorem vainSingleImports_eq (h : FS μ a T X) : X0_vainSingleImports a μ = some (nI (fb_sm (fun i => if (iSr T i).isSome = true ∧ prs T X i = 0 then 1 else 0) (tI T))) := by
  have hI := h.1.2.2.1.1
  refine cnt_loop _ (by omega) (fun k acc => ?_) (fun k acc i hi => ?_)
  · unfold X0_vainSingleImports_l4
    rw [h.2.1.1.2.2.1, ifLe (by omega) (by omega), if_pos (Nat.le_refl _)]
  · obtain ⟨-, -, -, -, v5⟩ := h.1.2.2.1.2 i hi
    unfold X0_vainSingleImports_l4
    rw [h.2.1.1.2.2.1, ifLe (by omega) (by omega), if_neg (by omega), ck_nI (by omega) (by decide), nI_clamp (by omega), (h.2.1.2.2.2.1 i hi).2.2.1]
    have hp := prs_le (T := T) h.2.2.2 i
    rcases v5 with ⟨e1, e2, e3⟩ | ⟨a', b', ha', hb', e1, e2, e3⟩
    · rw [e1, if_pos (show enc none = -1 from rfl), if_neg (by intro q; cases q.1)]
      unfold X0_vainSingleImports_j35
      rw [bd_eq, lit_n 0, nI_add, nI_1]
    · rw [e1, show enc (some a') = nI a' from rfl, if_neg (nI_ne_m1 (by omega)), pairsBrought_eq h hi, bi_eq, bd_eq, lit_n 0, lit_n 1, ifEq (by omega) (by decide), ite_nI, nI_add, nI_add]
      by_cases q : prs T X i = 0
      · rw [if_pos q, if_pos ⟨rfl, q⟩]
      · rw [if_neg q, if_neg (fun z => q z.2)]
end RG
