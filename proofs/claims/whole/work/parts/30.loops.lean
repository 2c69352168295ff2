/-! ===== loops of the pure functions; bits ===== -/
theorem it1 {β : Type} {F : (Int32 → Option β) → Int32 → Option β} {bot : Int32 → Option β} (Q : β → Prop) (I : Nat → Int32 → Prop) (hs : ∀ (k : Int32 → Option β) (m : Nat) (a0 : Int32), I m a0 → (∀ (m' : Nat) (a0' : Int32), m' < m → I m' a0' → ∃ r, k a0' = some r ∧ Q r) → ∃ r, F k a0 = some r ∧ Q r) : ∀ (n m : Nat) (a0 : Int32), m < n → I m a0 → ∃ r, itr F bot n a0 = some r ∧ Q r := by
  intro n
  induction n with
  | zero => intro m a0 h; omega
  | succ n ih => intro m a0 hm hI; exact hs _ m a0 hI (fun m' a0' h h' => ih m' a0' (by omega) h')
theorem it1m {β : Type} {F : (Int32 → Mm → Option β) → Int32 → Mm → Option β} {bot : Int32 → Mm → Option β} (Q : β → Prop) (I : Nat → Int32 → Mm → Prop) (hs : ∀ (k : Int32 → Mm → Option β) (m : Nat) (a0 : Int32) (μ : Mm), I m a0 μ → (∀ (m' : Nat) (a0' : Int32) (μ' : Mm), m' < m → I m' a0' μ' → ∃ r, k a0' μ' = some r ∧ Q r) → ∃ r, F k a0 μ = some r ∧ Q r) : ∀ (n m : Nat) (a0 : Int32) (μ : Mm), m < n → I m a0 μ → ∃ r, itr F bot n a0 μ = some r ∧ Q r := by
  intro n
  induction n with
  | zero => intro m a0 μ h; omega
  | succ n ih => intro m a0 μ hm hI; exact hs _ m a0 μ hI (fun m' a0' μ' h h' => ih m' a0' μ' (by omega) h')
theorem it2 {β : Type} {F : (Int32 → Int32 → Option β) → Int32 → Int32 → Option β} {bot : Int32 → Int32 → Option β} (Q : β → Prop) (I : Nat → Int32 → Int32 → Prop) (hs : ∀ (k : Int32 → Int32 → Option β) (m : Nat) (a0 : Int32) (a1 : Int32), I m a0 a1 → (∀ (m' : Nat) (a0' : Int32) (a1' : Int32), m' < m → I m' a0' a1' → ∃ r, k a0' a1' = some r ∧ Q r) → ∃ r, F k a0 a1 = some r ∧ Q r) : ∀ (n m : Nat) (a0 : Int32) (a1 : Int32), m < n → I m a0 a1 → ∃ r, itr F bot n a0 a1 = some r ∧ Q r := by
  intro n
  induction n with
  | zero => intro m a0 a1 h; omega
  | succ n ih => intro m a0 a1 hm hI; exact hs _ m a0 a1 hI (fun m' a0' a1' h h' => ih m' a0' a1' (by omega) h')
theorem it2m {β : Type} {F : (Int32 → Int32 → Mm → Option β) → Int32 → Int32 → Mm → Option β} {bot : Int32 → Int32 → Mm → Option β} (Q : β → Prop) (I : Nat → Int32 → Int32 → Mm → Prop) (hs : ∀ (k : Int32 → Int32 → Mm → Option β) (m : Nat) (a0 : Int32) (a1 : Int32) (μ : Mm), I m a0 a1 μ → (∀ (m' : Nat) (a0' : Int32) (a1' : Int32) (μ' : Mm), m' < m → I m' a0' a1' μ' → ∃ r, k a0' a1' μ' = some r ∧ Q r) → ∃ r, F k a0 a1 μ = some r ∧ Q r) : ∀ (n m : Nat) (a0 : Int32) (a1 : Int32) (μ : Mm), m < n → I m a0 a1 μ → ∃ r, itr F bot n a0 a1 μ = some r ∧ Q r := by
  intro n
  induction n with
  | zero => intro m a0 a1 μ h; omega
  | succ n ih => intro m a0 a1 μ hm hI; exact hs _ m a0 a1 μ hI (fun m' a0' a1' μ' h h' => ih m' a0' a1' μ' (by omega) h')
theorem it3 {β : Type} {F : (Int32 → Int32 → Int32 → Option β) → Int32 → Int32 → Int32 → Option β} {bot : Int32 → Int32 → Int32 → Option β} (Q : β → Prop) (I : Nat → Int32 → Int32 → Int32 → Prop) (hs : ∀ (k : Int32 → Int32 → Int32 → Option β) (m : Nat) (a0 : Int32) (a1 : Int32) (a2 : Int32), I m a0 a1 a2 → (∀ (m' : Nat) (a0' : Int32) (a1' : Int32) (a2' : Int32), m' < m → I m' a0' a1' a2' → ∃ r, k a0' a1' a2' = some r ∧ Q r) → ∃ r, F k a0 a1 a2 = some r ∧ Q r) : ∀ (n m : Nat) (a0 : Int32) (a1 : Int32) (a2 : Int32), m < n → I m a0 a1 a2 → ∃ r, itr F bot n a0 a1 a2 = some r ∧ Q r := by
  intro n
  induction n with
  | zero => intro m a0 a1 a2 h; omega
  | succ n ih => intro m a0 a1 a2 hm hI; exact hs _ m a0 a1 a2 hI (fun m' a0' a1' a2' h h' => ih m' a0' a1' a2' (by omega) h')
theorem it3m {β : Type} {F : (Int32 → Int32 → Int32 → Mm → Option β) → Int32 → Int32 → Int32 → Mm → Option β} {bot : Int32 → Int32 → Int32 → Mm → Option β} (Q : β → Prop) (I : Nat → Int32 → Int32 → Int32 → Mm → Prop) (hs : ∀ (k : Int32 → Int32 → Int32 → Mm → Option β) (m : Nat) (a0 : Int32) (a1 : Int32) (a2 : Int32) (μ : Mm), I m a0 a1 a2 μ → (∀ (m' : Nat) (a0' : Int32) (a1' : Int32) (a2' : Int32) (μ' : Mm), m' < m → I m' a0' a1' a2' μ' → ∃ r, k a0' a1' a2' μ' = some r ∧ Q r) → ∃ r, F k a0 a1 a2 μ = some r ∧ Q r) : ∀ (n m : Nat) (a0 : Int32) (a1 : Int32) (a2 : Int32) (μ : Mm), m < n → I m a0 a1 a2 μ → ∃ r, itr F bot n a0 a1 a2 μ = some r ∧ Q r := by
  intro n
  induction n with
  | zero => intro m a0 a1 a2 μ h; omega
  | succ n ih => intro m a0 a1 a2 μ hm hI; exact hs _ m a0 a1 a2 μ hI (fun m' a0' a1' a2' μ' h h' => ih m' a0' a1' a2' μ' (by omega) h')
theorem it4 {β : Type} {F : (Int32 → Int32 → Int32 → Int32 → Option β) → Int32 → Int32 → Int32 → Int32 → Option β} {bot : Int32 → Int32 → Int32 → Int32 → Option β} (Q : β → Prop) (I : Nat → Int32 → Int32 → Int32 → Int32 → Prop) (hs : ∀ (k : Int32 → Int32 → Int32 → Int32 → Option β) (m : Nat) (a0 : Int32) (a1 : Int32) (a2 : Int32) (a3 : Int32), I m a0 a1 a2 a3 → (∀ (m' : Nat) (a0' : Int32) (a1' : Int32) (a2' : Int32) (a3' : Int32), m' < m → I m' a0' a1' a2' a3' → ∃ r, k a0' a1' a2' a3' = some r ∧ Q r) → ∃ r, F k a0 a1 a2 a3 = some r ∧ Q r) : ∀ (n m : Nat) (a0 : Int32) (a1 : Int32) (a2 : Int32) (a3 : Int32), m < n → I m a0 a1 a2 a3 → ∃ r, itr F bot n a0 a1 a2 a3 = some r ∧ Q r := by
  intro n
  induction n with
  | zero => intro m a0 a1 a2 a3 h; omega
  | succ n ih => intro m a0 a1 a2 a3 hm hI; exact hs _ m a0 a1 a2 a3 hI (fun m' a0' a1' a2' a3' h h' => ih m' a0' a1' a2' a3' (by omega) h')
theorem it4m {β : Type} {F : (Int32 → Int32 → Int32 → Int32 → Mm → Option β) → Int32 → Int32 → Int32 → Int32 → Mm → Option β} {bot : Int32 → Int32 → Int32 → Int32 → Mm → Option β} (Q : β → Prop) (I : Nat → Int32 → Int32 → Int32 → Int32 → Mm → Prop) (hs : ∀ (k : Int32 → Int32 → Int32 → Int32 → Mm → Option β) (m : Nat) (a0 : Int32) (a1 : Int32) (a2 : Int32) (a3 : Int32) (μ : Mm), I m a0 a1 a2 a3 μ → (∀ (m' : Nat) (a0' : Int32) (a1' : Int32) (a2' : Int32) (a3' : Int32) (μ' : Mm), m' < m → I m' a0' a1' a2' a3' μ' → ∃ r, k a0' a1' a2' a3' μ' = some r ∧ Q r) → ∃ r, F k a0 a1 a2 a3 μ = some r ∧ Q r) : ∀ (n m : Nat) (a0 : Int32) (a1 : Int32) (a2 : Int32) (a3 : Int32) (μ : Mm), m < n → I m a0 a1 a2 a3 μ → ∃ r, itr F bot n a0 a1 a2 a3 μ = some r ∧ Q r := by
  intro n
  induction n with
  | zero => intro m a0 a1 a2 a3 μ h; omega
  | succ n ih => intro m a0 a1 a2 a3 μ hm hI; exact hs _ m a0 a1 a2 a3 μ hI (fun m' a0' a1' a2' a3' μ' h h' => ih m' a0' a1' a2' a3' μ' (by omega) h')
theorem it5 {β : Type} {F : (Int32 → Int32 → Int32 → Int32 → Int32 → Option β) → Int32 → Int32 → Int32 → Int32 → Int32 → Option β} {bot : Int32 → Int32 → Int32 → Int32 → Int32 → Option β} (Q : β → Prop) (I : Nat → Int32 → Int32 → Int32 → Int32 → Int32 → Prop) (hs : ∀ (k : Int32 → Int32 → Int32 → Int32 → Int32 → Option β) (m : Nat) (a0 : Int32) (a1 : Int32) (a2 : Int32) (a3 : Int32) (a4 : Int32), I m a0 a1 a2 a3 a4 → (∀ (m' : Nat) (a0' : Int32) (a1' : Int32) (a2' : Int32) (a3' : Int32) (a4' : Int32), m' < m → I m' a0' a1' a2' a3' a4' → ∃ r, k a0' a1' a2' a3' a4' = some r ∧ Q r) → ∃ r, F k a0 a1 a2 a3 a4 = some r ∧ Q r) : ∀ (n m : Nat) (a0 : Int32) (a1 : Int32) (a2 : Int32) (a3 : Int32) (a4 : Int32), m < n → I m a0 a1 a2 a3 a4 → ∃ r, itr F bot n a0 a1 a2 a3 a4 = some r ∧ Q r := by
  intro n
  induction n with
  | zero => intro m a0 a1 a2 a3 a4 h; omega
  | succ n ih => intro m a0 a1 a2 a3 a4 hm hI; exact hs _ m a0 a1 a2 a3 a4 hI (fun m' a0' a1' a2' a3' a4' h h' => ih m' a0' a1' a2' a3' a4' (by omega) h')
theorem it5m {β : Type} {F : (Int32 → Int32 → Int32 → Int32 → Int32 → Mm → Option β) → Int32 → Int32 → Int32 → Int32 → Int32 → Mm → Option β} {bot : Int32 → Int32 → Int32 → Int32 → Int32 → Mm → Option β} (Q : β → Prop) (I : Nat → Int32 → Int32 → Int32 → Int32 → Int32 → Mm → Prop) (hs : ∀ (k : Int32 → Int32 → Int32 → Int32 → Int32 → Mm → Option β) (m : Nat) (a0 : Int32) (a1 : Int32) (a2 : Int32) (a3 : Int32) (a4 : Int32) (μ : Mm), I m a0 a1 a2 a3 a4 μ → (∀ (m' : Nat) (a0' : Int32) (a1' : Int32) (a2' : Int32) (a3' : Int32) (a4' : Int32) (μ' : Mm), m' < m → I m' a0' a1' a2' a3' a4' μ' → ∃ r, k a0' a1' a2' a3' a4' μ' = some r ∧ Q r) → ∃ r, F k a0 a1 a2 a3 a4 μ = some r ∧ Q r) : ∀ (n m : Nat) (a0 : Int32) (a1 : Int32) (a2 : Int32) (a3 : Int32) (a4 : Int32) (μ : Mm), m < n → I m a0 a1 a2 a3 a4 μ → ∃ r, itr F bot n a0 a1 a2 a3 a4 μ = some r ∧ Q r := by
  intro n
  induction n with
  | zero => intro m a0 a1 a2 a3 a4 μ h; omega
  | succ n ih => intro m a0 a1 a2 a3 a4 μ hm hI; exact hs _ m a0 a1 a2 a3 a4 μ hI (fun m' a0' a1' a2' a3' a4' μ' h h' => ih m' a0' a1' a2' a3' a4' μ' (by omega) h')
theorem it0m {β : Type} {F : (Mm → Option β) → Mm → Option β} {bot : Mm → Option β} (Q : β → Prop) (I : Nat → Mm → Prop) (hs : ∀ (k : Mm → Option β) (m : Nat) (μ : Mm), I m μ → (∀ (m' : Nat) (μ' : Mm), m' < m → I m' μ' → ∃ r, k μ' = some r ∧ Q r) → ∃ r, F k μ = some r ∧ Q r) : ∀ (n m : Nat) (μ : Mm), m < n → I m μ → ∃ r, itr F bot n μ = some r ∧ Q r := by
  intro n
  induction n with
  | zero => intro m μ h; omega
  | succ n ih => intro m μ hm hI; exact hs _ m μ hI (fun m' μ' h h' => ih m' μ' (by omega) h')
theorem ex_eq {β : Type} {x : Option β} {b : β} (h : ∃ r, x = some r ∧ r = b) : x = some b := by
  obtain ⟨r, h1, rfl⟩ := h
  exact h1
theorem bd_eq {α β : Type} (x : α) (k : α → Option β) : bd x k = k x := rfl
theorem ck_nI {β : Type} {j n : Nat} {k : Option β} (h : j < n) (hn : n < 2 ^ 31) : ck (nI j) n k = k := by
  unfold ck inb
  rw [nI_toInt (by omega), if_pos]
  rw [Bool.and_eq_true, decide_eq_true_eq, decide_eq_true_eq]
  omega
theorem rz_eq {β : Type} {v : Int32} {k : Option β} (h : b01 v) : rz v k = k := if_pos h
theorem bn_eq {α β : Type} {v : α} {μ : Mm} {k : α → Mm → Option β} : bn (some (v, μ)) k = k v μ := rfl
theorem bi_eq {α β : Type} {v : α} {k : α → Option β} : (some v).bind k = k v := rfl
theorem le_n {a b : Nat} (ha : a < 2 ^ 31) (hb : b < 2 ^ 31) : (nI a ≤ nI b) = (a ≤ b) := propext (nI_leI ha hb)
theorem lt_n {a b : Nat} (ha : a < 2 ^ 31) (hb : b < 2 ^ 31) : (nI a < nI b) = (a < b) := propext (nI_ltI ha hb)
theorem eq_n {a b : Nat} (ha : a < 2 ^ 31) (hb : b < 2 ^ 31) : (nI a = nI b) = (a = b) := propext (nI_eq ha hb)
theorem lit_n (n : Nat) : (OfNat.ofNat n : Int32) = nI n := fa_lit n
theorem ifLe {α : Type} {s t : α} {a b : Nat} (ha : a < 2 ^ 31) (hb : b < 2 ^ 31) : (if nI a ≤ nI b then s else t) = if a ≤ b then s else t := by
  by_cases h : a ≤ b
  · rw [if_pos h, if_pos ((nI_leI ha hb).mpr h)]
  · rw [if_neg h, if_neg (fun q => h ((nI_leI ha hb).mp q))]
theorem ifLt {α : Type} {s t : α} {a b : Nat} (ha : a < 2 ^ 31) (hb : b < 2 ^ 31) : (if nI a < nI b then s else t) = if a < b then s else t := by
  by_cases h : a < b
  · rw [if_pos h, if_pos ((nI_ltI ha hb).mpr h)]
  · rw [if_neg h, if_neg (fun q => h ((nI_ltI ha hb).mp q))]
theorem ifEq {α : Type} {s t : α} {a b : Nat} (ha : a < 2 ^ 31) (hb : b < 2 ^ 31) : (if nI a = nI b then s else t) = if a = b then s else t := by
  by_cases h : a = b
  · rw [if_pos h, if_pos ((nI_eq ha hb).mpr h)]
  · rw [if_neg h, if_neg (fun q => h ((nI_eq ha hb).mp q))]
def enc (x : Option Nat) : Int32 := match x with
  | none => -1
  | some n => nI n
theorem nI_ne_m1 {n : Nat} (h : n < 2 ^ 31) : ¬ nI n = -1 := by
  intro q
  have := congrArg Int32.toInt q
  rw [nI_toInt h] at this
  have h2 : (-1 : Int32).toInt = -1 := by decide
  rw [h2] at this
  omega
theorem sh1 {d : Nat} (h : d < 31) : (1 : Int32) <<< (nI d &&& 31) = nI (2 ^ d) := by
  have h1 := pk_shlN (n := 1) (nI d &&& 31) d (s_l d (by omega)) (by rw [Nat.one_mul]; exact Nat.pow_lt_pow_right (by decide) (by omega))
  rw [Nat.one_mul] at h1
  exact h1
theorem shr0 {m d : Nat} (hm : m < 2 ^ 31) (hd : d < 32) : nI m >>> (nI d &&& 31) = nI (m / 2 ^ d) := pk_shrN hm _ d (s_l d hd)
theorem and1 {m : Nat} (hm : m < 2 ^ 32) : nI m &&& 1 = nI (m % 2) := by
  have h := pk_andN hm (m := 1) 1 (by decide)
  rw [Nat.pow_one] at h
  exact h
theorem shr1 {m d : Nat} (hm : m < 2 ^ 31) (hd : d < 32) : (nI m >>> (nI d &&& 31)) &&& 1 = nI (m.testBit d).toNat := by
  rw [shr0 hm hd, and1 (Nat.lt_of_le_of_lt (Nat.div_le_self _ _) (by omega)), Nat.toNat_testBit]
theorem pow_lt {d n : Nat} (h : d < n) : 2 ^ d < 2 ^ n := Nat.pow_lt_pow_right (by decide) h
def popc (m : Nat) : Nat := fb_ct (fun d => m.testBit d) 30
theorem popc_le (m : Nat) : popc m ≤ 30 := fb_ct_le _ 30
theorem ct_bool (p : Nat → Bool) (n : Nat) : fb_ct p (n + 1) = fb_ct p n + (p n).toNat := by
  rw [fb_ct_succ]
  cases p n <;> rfl
theorem bits_eq {m : Nat} (hm : m < 2 ^ 31) : X4_bits (nI m) = some (nI (popc m)) := by
  unfold X4_bits
  refine ex_eq (it2 (fun r => r = nI (popc m)) (fun k a b => ∃ i, i + k = 30 ∧ b = nI i ∧ a = nI (fb_ct (fun d => m.testBit d) i)) ?_ big 30 0 0 (by decide) ⟨0, rfl, rfl, rfl⟩)
  rintro k t a b ⟨i, hi, rfl, rfl⟩ ih
  unfold X4_bits_l4
  rw [lit_n 30, ifLe (by decide) (by omega)]
  by_cases h : 30 ≤ i
  · rw [if_pos h]
    have : i = 30 := by omega
    subst this
    exact ⟨_, rfl, rfl⟩
  · rw [if_neg h, shr1 hm (by omega), nI_add, nI_1, bd_eq, ← ct_bool]
    exact ih (t - 1) _ _ (by omega) ⟨i + 1, by omega, rfl, rfl⟩
