/-! ===== one import passed on ===== -/
theorem it6m {β : Type} {F : (Int32 → Int32 → Int32 → Int32 → Int32 → Int32 → Mm → Option β) → Int32 → Int32 → Int32 → Int32 → Int32 → Int32 → Mm → Option β} {bot : Int32 → Int32 → Int32 → Int32 → Int32 → Int32 → Mm → Option β} (Q : β → Prop) (I : Nat → Int32 → Int32 → Int32 → Int32 → Int32 → Int32 → Mm → Prop) (hs : ∀ (k : Int32 → Int32 → Int32 → Int32 → Int32 → Int32 → Mm → Option β) (m : Nat) (a0 : Int32) (a1 : Int32) (a2 : Int32) (a3 : Int32) (a4 : Int32) (a5 : Int32) (μ : Mm), I m a0 a1 a2 a3 a4 a5 μ → (∀ (m' : Nat) (a0' : Int32) (a1' : Int32) (a2' : Int32) (a3' : Int32) (a4' : Int32) (a5' : Int32) (μ' : Mm), m' < m → I m' a0' a1' a2' a3' a4' a5' μ' → ∃ r, k a0' a1' a2' a3' a4' a5' μ' = some r ∧ Q r) → ∃ r, F k a0 a1 a2 a3 a4 a5 μ = some r ∧ Q r) : ∀ (n m : Nat) (a0 : Int32) (a1 : Int32) (a2 : Int32) (a3 : Int32) (a4 : Int32) (a5 : Int32) (μ : Mm), m < n → I m a0 a1 a2 a3 a4 a5 μ → ∃ r, itr F bot n a0 a1 a2 a3 a4 a5 μ = some r ∧ Q r := by
  intro n
  induction n with
  | zero => intro m a0 a1 a2 a3 a4 a5 μ h; omega
  | succ n ih => intro m a0 a1 a2 a3 a4 a5 μ hm hI; exact hs _ m a0 a1 a2 a3 a4 a5 μ hI (fun m' a0' a1' a2' a3' a4' a5' μ' h h' => ih m' a0' a1' a2' a3' a4' a5' μ' (by omega) h')
theorem ite01 {c : Prop} {d : Decidable c} : (@ite _ c d (0 : Int32) 1) = nI (@ite _ c d 0 1) := ite_nI (a := 0) (b := 1)
theorem ite10 {c : Prop} {d : Decidable c} : (@ite _ c d (1 : Int32) 0) = nI (@ite _ c d 1 0) := ite_nI (a := 1) (b := 0)
/-! frames -/
def fr (P : Nat → Prop) (μ ν : Mm) : Prop := ν.2 = μ.2 ∧ ∀ p, ¬ P p → ν.1 p = μ.1 p
theorem fr_refl {P : Nat → Prop} {μ : Mm} : fr P μ μ := ⟨rfl, fun _ _ => rfl⟩
theorem fr_tr {P : Nat → Prop} {μ ν ξ : Mm} (h : fr P μ ν) (k : fr P ν ξ) : fr P μ ξ := ⟨k.1.trans h.1, fun p hp => (k.2 p hp).trans (h.2 p hp)⟩
theorem fr_mono {P Q : Nat → Prop} {μ ν : Mm} (h : fr P μ ν) (hPQ : ∀ p, P p → Q p) : fr Q μ ν := ⟨h.1, fun p hp => h.2 p (fun z => hp (hPQ p z))⟩
theorem fr_setI {P : Nat → Prop} {μ ν : Mm} {a k : Nat} {v : Int32} (h : fr P μ ν) (hp : P a) : fr P μ (setI ν a k v) := ⟨h.1, fun p hn => by rw [setI_n _ _ _ (show p ≠ a from fun e => hn (e ▸ hp))]; exact h.2 p hn⟩
theorem fr_setA {P : Nat → Prop} {μ ν : Mm} {a : Nat} {f : Nat → Int32} (h : fr P μ ν) (hp : P a) : fr P μ (setA ν a f) := ⟨h.1, fun p hn => by rw [setA_at, if_neg (show ¬ p = a from fun e => hn (e ▸ hp))]; exact h.2 p hn⟩
theorem CF_same {μ ν : Mm} {a : Nat} {T : TT} (h : CF μ a T) (hf : ∀ p, a ≤ p → p ≤ a + 12 → ν.1 p = μ.1 p) : CF ν a T := by
  unfold CF at h ⊢
  rw [hf a (by omega) (by omega), hf (a + 1) (by omega) (by omega), hf (a + 2) (by omega) (by omega), hf (a + 3) (by omega) (by omega), hf (a + 4) (by omega) (by omega), hf (a + 5) (by omega) (by omega), hf (a + 6) (by omega) (by omega), hf (a + 7) (by omega) (by omega), hf (a + 8) (by omega) (by omega), hf (a + 9) (by omega) (by omega), hf (a + 10) (by omega) (by omega), hf (a + 11) (by omega) (by omega), hf (a + 12) (by omega) (by omega)]
  exact h
/-! one or two bits of words -/
def nd (m e : Nat) : Nat := m &&& (e ^^^ 4294967295)
theorem and_not (m e : Nat) : nI m &&& (nI e ^^^ (-1)) = nI (nd m e) := by
  rw [show (-1 : Int32) = nI 4294967295 by decide, fb_xorI, fa_and]
  rfl
theorem nd_bit {m e n : Nat} (hn : n < 32) : (nd m e).testBit n = (m.testBit n && !e.testBit n) := by
  unfold nd
  rw [Nat.testBit_and, Nat.testBit_xor, show (4294967295 : Nat) = 2 ^ 32 - 1 by decide, Nat.testBit_two_pow_sub_one, decide_eq_true hn, Bool.xor_true]
theorem nd_le {m e : Nat} : nd m e ≤ m := Nat.and_le_left
theorem bit_hi {m k n : Nat} (h : m / 2 ^ k = 0) (hn : k ≤ n) : m.testBit n = false := by
  rw [Nat.div_eq_zero_iff] at h
  refine Nat.testBit_lt_two_pow (Nat.lt_of_lt_of_le (h.resolve_left (fun e => absurd e (Nat.ne_of_gt (Nat.two_pow_pos k)))) (Nat.pow_le_pow_right (by decide) hn))
theorem bit_to {b : Bool} : (b.toNat = 0) = (b = false) := by cases b <;> simp
theorem pw_bit {a n : Nat} : (2 ^ a).testBit n = decide (a = n) := Nat.testBit_two_pow
theorem shrZ {α : Type} {s t : α} {m d : Nat} (hm : m < 2 ^ 31) (hd : d < 32) : (if (nI m >>> (nI d &&& 31)) = 0 then s else t) = if m / 2 ^ d = 0 then s else t := by
  rw [shr0 hm hd, lit_n 0, ifEq (Nat.lt_of_le_of_lt (Nat.div_le_self _ _) hm) (by decide)]
theorem bitZ {α : Type} {s t : α} {m d : Nat} (hm : m < 2 ^ 31) (hd : d < 32) : (if ((nI m >>> (nI d &&& 31)) &&& 1) = 0 then s else t) = if m.testBit d = false then s else t := by
  rw [shr1 hm hd, lit_n 0, ifEq (by cases m.testBit d <;> decide) (by decide)]
  cases m.testBit d
  · rw [if_pos (show false.toNat = 0 from rfl), if_pos rfl]
  · rw [if_neg (show ¬ true.toNat = 0 by decide), if_neg (by decide)]
/-! sums of the kind or -/
theorem orI_zero {f : Nat → Nat} : ∀ {k : Nat}, (∀ i, i < k → f i = 0) → orI f k = 0
  | 0, _ => rfl
  | k + 1, h => by
    show orI f k ||| f k = 0
    rw [orI_zero (fun i hi => h i (by omega)), h k (by omega)]
    rfl
theorem orI_tail {f : Nat → Nat} {j : Nat} : ∀ {k : Nat}, j ≤ k → (∀ i, j ≤ i → i < k → f i = 0) → orI f k = orI f j
  | 0, h, _ => by rw [show j = 0 by omega]
  | k + 1, h, hz => by
    by_cases e : j = k + 1
    · rw [e]
    · show orI f k ||| f k = _
      rw [hz k (by omega) (by omega), Nat.or_zero, orI_tail (by omega) (fun i h1 h2 => hz i h1 (by omega))]
theorem orI_pick {f : Nat → Nat} {j k : Nat} (h : j < k) (hz : ∀ i, i < k → i ≠ j → f i = 0) : orI f k = f j := by
  rw [orI_tail (j := j + 1) (by omega) (fun i h1 h2 => hz i h2 (by omega))]
  show orI f j ||| f j = _
  rw [orI_zero (fun i hi => hz i (by omega) (by omega)), Nat.zero_or]
/-! what a row of cells, of names holds -/
def offC (μ : Mm) (b : Nat) (X : OX) : Prop := ∀ s n, s < 16 → n < 26 → μ.1 (b + 1) (s * 26 + n) = nI (X s n)
def offN (μ : Mm) (b : Nat) (X : OX) : Prop := ∀ s, s < 16 → ∃ m, m < 2 ^ 26 ∧ μ.1 (b + 5) s = nI m ∧ ∀ n, n < 26 → X s n ≠ 0 → m.testBit n = true
def ownN (μ : Mm) (b : Nat) (T : TT) : Prop := ∀ s, s < 16 → ∃ m, m < 2 ^ 26 ∧ μ.1 (b + 6) s = nI m ∧ ∀ n, n < 26 → m.testBit n = (dOf T s n).isSome
/-- what the name k of an import adds to the local name n -/
def ctr (T : TT) (X : OX) (i k n : Nat) : Nat := match iSr T i with
  | none => if n = k ∧ (iEx T i).testBit k = false then X (iFr T i) k else 0
  | some a => if k = a ∧ iLo T i = some n then X (iFr T i) k else 0
theorem ctr_sum {T : TT} {X : OX} {i n : Nat} (hV : VT T) (hi : i < tI T) (hn : n < 26) : orI (fun m => ctr T X i m n) 26 = broM T X i n := by
  obtain ⟨-, hf, -, -, hk⟩ := hV.2.2.1.2 i hi
  rcases hk with ⟨e1, e2, e3⟩ | ⟨a', b', ha', hb', e1, e2, e3⟩
  · rw [bro_full e1, orI_pick hn (fun j _ hj => by unfold ctr; rw [e1]; exact if_neg (fun z => hj z.1.symm))]
    unfold ctr
    rw [e1]
    cases q : (iEx T i).testBit n
    · exact (if_pos ⟨rfl, rfl⟩).trans (if_neg (by decide)).symm
    · exact (if_neg (fun z => absurd z.2 (by decide))).trans (if_pos rfl).symm
  · rw [bro_single e1 e2, orI_pick ha' (fun j _ hj => by unfold ctr; rw [e1]; exact if_neg (fun z => hj z.1))]
    unfold ctr
    rw [e1, e2]
    by_cases q : n = b'
    · subst q
      exact (if_pos ⟨rfl, rfl⟩).trans (if_pos rfl).symm
    · exact (if_neg (fun z => q (by injection z.2 with z2; exact z2.symm))).trans (if_neg q).symm
def ctrX (T : TT) (X : OX) (i k : Nat) : OX := fun s n => if s = iTo T i ∧ dOf T s n = none then X s n ||| orI (fun m => ctr T X i m n) k else X s n
theorem ctrX_0 {T : TT} {X : OX} {i s n : Nat} : ctrX T X i 0 s n = X s n := by
  unfold ctrX
  split
  · exact Nat.or_zero _
  · rfl
theorem ctrX_step {T : TT} {X : OX} {i k s n : Nat} : ctrX T X i (k + 1) s n = if s = iTo T i ∧ dOf T s n = none then ctrX T X i k s n ||| ctr T X i k n else ctrX T X i k s n := by
  unfold ctrX
  by_cases q : s = iTo T i ∧ dOf T s n = none
  · rw [if_pos q, if_pos q, if_pos q, Nat.or_assoc]
    rfl
  · rw [if_neg q, if_neg q, if_neg q]
theorem ctrX_same {T : TT} {X : OX} {i k s n : Nat} (h : s = iTo T i → dOf T s n = none → ctr T X i k n = 0) : ctrX T X i (k + 1) s n = ctrX T X i k s n := by
  rw [ctrX_step]
  by_cases q : s = iTo T i ∧ dOf T s n = none
  · rw [if_pos q, h q.1 q.2, Nat.or_zero]
  · rw [if_neg q]
theorem ctrX_sub {T : TT} {X : OX} {i k s n : Nat} : msub (X s n) (ctrX T X i k s n) := by
  unfold ctrX
  split
  · exact msub_orl
  · exact msub_rfl
theorem ctrX_up {T : TT} {X : OX} {i k s n : Nat} : msub (ctrX T X i k s n) (ctrX T X i (k + 1) s n) := by
  rw [ctrX_step]
  split
  · exact msub_orl
  · exact msub_rfl
theorem ctrX_26 {T : TT} {X : OX} {i s n : Nat} (hV : VT T) (hi : i < tI T) (hn : n < 26) : ctrX T X i 26 s n = passX T X i s n := by
  unfold ctrX passX
  rw [ctr_sum hV hi hn]
theorem ctrX_lt {T : TT} {X : OX} (hV : VT T) (hX : XB X) {i : Nat} (hi : i < tI T) : ∀ {k : Nat}, k ≤ 26 → XB (ctrX T X i k) := by
  intro k hk s n hs hn
  obtain ⟨-, hf, -, -, hkk⟩ := hV.2.2.1.2 i hi
  have h16 := hV.1.2.1
  unfold ctrX
  split
  · refine or_lt30 (hX s n hs hn) (orI_lt (fun m hm => ?_))
    unfold ctr
    split
    · split
      · exact hX _ _ (by omega) (by omega)
      · decide
    · split
      · exact hX _ _ (by omega) (by omega)
      · decide
  · exact hX s n hs hn
theorem offC_congr {μ : Mm} {b : Nat} {X Y : OX} (h : offC μ b X) (e : ∀ s n, s < 16 → n < 26 → Y s n = X s n) : offC μ b Y := fun s n hs hn => by rw [h s n hs hn, e s n hs hn]
theorem offN_congr {μ : Mm} {b : Nat} {X Y : OX} (h : offN μ b X) (e : ∀ s n, s < 16 → n < 26 → Y s n = X s n) : offN μ b Y := fun s hs => by
  obtain ⟨m, h1, h2, h3⟩ := h s hs
  exact ⟨m, h1, h2, fun n hn hz => h3 n hn (by rw [← e s n hs hn]; exact hz)⟩
/-- a cell grows, and its name is noted -/
theorem off_put {μ : Mm} {b : Nat} {X Y : OX} {s0 t0 z : Nat} (hO : offC μ b X) (hN : offN μ b X) (hs0 : s0 < 16) (ht0 : t0 < 26) (hz : Y s0 t0 = z) (he : ∀ s n, s < 16 → n < 26 → ¬ (s = s0 ∧ n = t0) → Y s n = X s n) :
    offC (setI (setI μ (b + 1) (s0 * 26 + t0) (nI z)) (b + 5) s0 ((setI μ (b + 1) (s0 * 26 + t0) (nI z)).1 (b + 5) s0 ||| nI (2 ^ t0))) b Y ∧ offN (setI (setI μ (b + 1) (s0 * 26 + t0) (nI z)) (b + 5) s0 ((setI μ (b + 1) (s0 * 26 + t0) (nI z)).1 (b + 5) s0 ||| nI (2 ^ t0))) b Y := by
  constructor
  · intro s n hs hn
    rw [setI_n _ _ _ (show b + 1 ≠ b + 5 by omega), setI_at]
    by_cases q : s = s0 ∧ n = t0
    · rw [q.1, q.2, if_pos rfl, hz]
    · rw [if_neg (by omega), hO s n hs hn, he s n hs hn q]
  · intro s hs
    obtain ⟨m, h1, h2, h3⟩ := hN s hs
    rw [setI_at, setI_n _ _ _ (show b + 5 ≠ b + 1 by omega)]
    by_cases e : s = s0
    · subst e
      rw [if_pos rfl, h2, or_nI]
      refine ⟨_, Nat.or_lt_two_pow h1 (pow_lt ht0), rfl, fun n hn hnz => ?_⟩
      rw [Nat.testBit_or]
      by_cases q : n = t0
      · rw [q, pw_bit, decide_eq_true rfl, Bool.or_true]
      · rw [h3 n hn (by rw [← he s n hs hn (fun z => q z.2)]; exact hnz), Bool.true_or]
    · rw [if_neg e, h2]
      exact ⟨m, h1, rfl, fun n hn hnz => h3 n hn (by rw [← he s n hs hn (fun z => e z.1)]; exact hnz)⟩
def passed (a : Nat) (T : TT) (X : OX) (i : Nat) (μ : Mm) (r : Int32 × Mm) : Prop := ∃ g ν, r = (nI g, ν) ∧ g ≤ 1 ∧ fr (fun p => p = a + 14 + 1 ∨ p = a + 14 + 5) μ ν ∧ offC ν (a + 14) (passX T X i) ∧ offN ν (a + 14) (passX T X i) ∧ (g = 0 → ∀ s n, s < 16 → n < 26 → passX T X i s n = X s n) ∧ (g ≠ 0 → ∃ n, n < 26 ∧ passX T X i (iTo T i) n ≠ X (iTo T i) n)
theorem passOn_loop {μ : Mm} {a : Nat} {T : TT} {X : OX} {i : Nat} (hV : VT T) (hC : CF μ a T) (hX : XB X) (hO : offC μ (a + 14) X) (hN : offN μ (a + 14) X) (hW : ownN μ (a + 14) T) (hi : i < tI T) {N : Nat} {tg : Nat → Nat} (hN26 : N < 2 ^ 26) (htg : ∀ k, k < 26 → tg k < 26) (hs0 : ∀ k, k < 26 → (iSr T i = none → tg k = k) ∧ ∀ c, iSr T i = some c → iLo T i = some (tg k)) (hz : ∀ k n, k < 26 → n < 26 → N.testBit k = false → ctr T X i k n = 0) (ht : ∀ k n, k < 26 → n < 26 → N.testBit k = true → ctr T X i k n = if n = tg k then X (iFr T i) k else 0) :
    ∃ r, itr (X1_passOn_l60 (a + 14) a (nI i)) (fun _ _ _ _ _ _ _ => none) big (nI (iTo T i)) (nI (iFr T i)) (enc (iSr T i)) (nI N) 0 0 μ = some r ∧ passed a T X i μ r := by
  obtain ⟨hto, hfr, hne, -, hkk⟩ := hV.2.2.1.2 i hi
  have h16 := hV.1.2.1
  have hI := hV.2.2.1.1
  have hN31 : N < 2 ^ 31 := Nat.lt_trans hN26 (by decide)
  refine it6m _ (fun m u3 u4 u5 u6 u7 u8 ν => ∃ k g, k + m = 26 ∧ u3 = nI (iTo T i) ∧ u4 = nI (iFr T i) ∧ u5 = enc (iSr T i) ∧ u6 = nI N ∧ u7 = nI g ∧ u8 = nI k ∧ g ≤ 1 ∧ fr (fun p => p = a + 14 + 1 ∨ p = a + 14 + 5) μ ν ∧ offC ν (a + 14) (ctrX T X i k) ∧ offN ν (a + 14) (ctrX T X i k) ∧ (g = 0 → ∀ s n, s < 16 → n < 26 → ctrX T X i k s n = X s n) ∧ (g ≠ 0 → ∃ n, n < 26 ∧ ctrX T X i k (iTo T i) n ≠ X (iTo T i) n)) ?_ big 26 _ _ _ _ _ _ μ (by decide) ⟨0, 0, rfl, rfl, rfl, rfl, rfl, rfl, rfl, by decide, fr_refl, offC_congr hO (fun _ _ _ _ => ctrX_0), offN_congr hN (fun _ _ _ _ => ctrX_0), fun _ _ _ _ _ => ctrX_0, fun h => absurd rfl h⟩
  rintro kk m u3 u4 u5 u6 u7 u8 ν ⟨k, g, hk, rfl, rfl, rfl, rfl, rfl, rfl, hg, hf, hOk, hNk, hg0, hg1⟩ ih
  have fin : (∀ s n, s < 16 → n < 26 → passX T X i s n = ctrX T X i k s n) → passed a T X i μ (nI g, ν) := fun e => ⟨g, ν, rfl, hg, hf, offC_congr hOk e, offN_congr hNk e, fun h s n hs hn => (e s n hs hn).trans (hg0 h s n hs hn), fun h => by
    obtain ⟨n, hn, hx⟩ := hg1 h
    exact ⟨n, hn, by rw [e _ n (by omega) hn]; exact hx⟩⟩
  have hrz : b01 (nI g) := by
    have : g = 0 ∨ g = 1 := by omega
    rcases this with rfl | rfl
    · exact Or.inl rfl
    · exact Or.inr rfl
  unfold X1_passOn_l60
  rw [lit_n 26, ifLe (by decide) (by omega)]
  by_cases q : 26 ≤ k
  · rw [if_pos q, rz_eq hrz]
    refine ⟨_, rfl, fin (fun s n _ hn => ?_)⟩
    rw [show k = 26 by omega, ctrX_26 hV hi hn]
  rw [if_neg q, shrZ hN31 (by omega)]
  by_cases q2 : N / 2 ^ k = 0
  · rw [if_pos q2, rz_eq hrz]
    refine ⟨_, rfl, fin (fun s n _ hn => ?_)⟩
    rw [← ctrX_26 hV hi hn]
    unfold ctrX
    rw [orI_tail (j := k) (k := 26) (by omega) (fun j h1 h2 => hz j n h2 hn (bit_hi q2 h1))]
  rw [if_neg q2]
  have hk26 : k < 26 := by omega
  -- both ways of finding the target lead to the same
  suffices hj : ∃ r, X1_passOn_j92 (a + 14) a (nI i) kk (nI (iTo T i)) (nI (iFr T i)) (enc (iSr T i)) (nI N) (nI g) (nI k) (nI (tg k)) ν = some r ∧ passed a T X i μ r by
    cases hsr : iSr T i with
    | none =>
      rw [if_pos (show enc none = -1 from rfl)]
      rw [hsr, (hs0 k hk26).1 hsr] at hj
      exact hj
    | some c =>
      have hc26 : c < 26 := by
        rcases hkk with ⟨e1, -⟩ | ⟨a', b', ha', hb', e1, -⟩
        · rw [e1] at hsr; cases hsr
        · rw [e1] at hsr; injection hsr with z; omega
      rw [show enc (some c) = nI c from rfl, if_neg (nI_ne_m1 (by omega)), ck_nI (by omega) (by decide), nI_clamp (by omega)]
      have hCν : CF ν a T := CF_same hC (fun p h1 h2 => hf.2 p (by omega))
      rw [(hCν.2.2.2.1 i hi).2.2.2.1, (hs0 k hk26).2 c hsr]
      rw [hsr] at hj
      exact hj
  have next : ∀ g' ν', g' ≤ 1 → fr (fun p => p = a + 14 + 1 ∨ p = a + 14 + 5) μ ν' → offC ν' (a + 14) (ctrX T X i (k + 1)) → offN ν' (a + 14) (ctrX T X i (k + 1)) → (g' = 0 → ∀ s n, s < 16 → n < 26 → ctrX T X i (k + 1) s n = X s n) → (g' ≠ 0 → ∃ n, n < 26 ∧ ctrX T X i (k + 1) (iTo T i) n ≠ X (iTo T i) n) → ∃ r, kk (nI (iTo T i)) (nI (iFr T i)) (enc (iSr T i)) (nI N) (nI g') (nI (k + 1)) ν' = some r ∧ passed a T X i μ r := fun g' ν' h1 h2 h3 h4 h5 h6 => ih (m - 1) _ _ _ _ _ _ _ (by omega) ⟨k + 1, g', by omega, rfl, rfl, rfl, rfl, rfl, rfl, h1, h2, h3, h4, h5, h6⟩
  have same : (∀ s n, s < 16 → n < 26 → ctrX T X i (k + 1) s n = ctrX T X i k s n) → ∃ r, kk (nI (iTo T i)) (nI (iFr T i)) (enc (iSr T i)) (nI N) (nI g) (nI (k + 1)) ν = some r ∧ passed a T X i μ r := fun e => next g ν hg hf (offC_congr hOk e) (offN_congr hNk e) (fun h s n hs hn => (e s n hs hn).trans (hg0 h s n hs hn)) (fun h => by
    obtain ⟨n, hn, hx⟩ := hg1 h
    exact ⟨n, hn, by rw [e _ n (by omega) hn]; exact hx⟩)
  unfold X1_passOn_j92
  rw [bitZ hN31 (by omega), nI_1]
  cases hb : N.testBit k with
  | false =>
    rw [if_pos rfl]
    exact same (fun s n _ hn => ctrX_same (fun _ _ => hz k n hk26 hn hb))
  | true =>
    obtain ⟨mW, w1, w2, w3⟩ := hW (iTo T i) (by omega)
    have htk := htg k hk26
    rw [if_neg (by decide), ck_nI (by omega) (by decide), nI_clamp (by omega), hf.2 (a + 14 + 6) (by omega), w2, bitZ (Nat.lt_trans w1 (by decide)) (by omega), w3 _ htk]
    cases hd : dOf T (iTo T i) (tg k) with
    | some d =>
      rw [if_neg (show ¬ (some d).isSome = false from fun z => by cases z)]
      refine same (fun s n _ hn => ctrX_same (fun e1 e2 => ?_))
      rw [ht k n hk26 hn hb, if_neg]
      intro e
      rw [e1, e, hd] at e2
      cases e2
    | none =>
      have hcell : ctrX T X i k (iFr T i) k = X (iFr T i) k := by
        unfold ctrX
        rw [if_neg (fun z => hne z.1.symm)]
      have hval : ctrX T X i (k + 1) (iTo T i) (tg k) = ctrX T X i k (iTo T i) (tg k) ||| X (iFr T i) k := by
        rw [ctrX_step, if_pos ⟨rfl, hd⟩, ht k _ hk26 htk hb, if_pos rfl]
      have helse : ∀ s n, s < 16 → n < 26 → ¬ (s = iTo T i ∧ n = tg k) → ctrX T X i (k + 1) s n = ctrX T X i k s n := fun s n _ hn hnn => ctrX_same (fun e1 _ => by rw [ht k n hk26 hn hb, if_neg (fun e => hnn ⟨e1, e⟩)])
      have hput := off_put (z := ctrX T X i k (iTo T i) (tg k) ||| X (iFr T i) k) hOk hNk (s0 := iTo T i) (t0 := tg k) (by omega) htk hval helse
      have hB := ctrX_lt hV hX hi (k := k) (by omega)
      have hB' := ctrX_lt hV hX hi (k := k + 1) (by omega)
      rw [if_pos (show (none : Option Nat).isSome = false from rfl), bd_eq, cell_nI, ck_nI (by omega) (by decide), bd_eq, nI_clamp (by omega), hOk _ _ (by omega) htk, cell_nI, ck_nI (by omega) (by decide), ck_nI (by omega) (by decide), ck_nI (by omega) (by decide), nI_clamp (by omega), hOk _ _ (by omega) hk26, hcell, or_nI, bd_eq, ck_nI (by omega) (by decide), ck_nI (by omega) (by decide), one_pow (by omega), bd_eq, ck_nI (by omega) (by decide), hput.1 _ _ (by omega) htk, hval, ifEq (lt31 (by rw [← hval]; exact hB' _ _ (by omega) htk)) (lt31 (hB _ _ (by omega) htk)), ite01, or_nI, bd_eq]
      refine next _ _ ?_ (fr_setI (fr_setI hf (Or.inl rfl)) (Or.inr rfl)) hput.1 hput.2 ?_ ?_
      · have : g = 0 ∨ g = 1 := by omega
        rcases this with rfl | rfl <;> split <;> decide
      · intro h0 s n hs hn
        have hg00 : g = 0 := by
          have : g = 0 ∨ g = 1 := by omega
          rcases this with rfl | rfl
          · rfl
          · revert h0; split <;> intro h0 <;> cases h0
        subst hg00
        rw [Nat.zero_or] at h0
        have heq : ctrX T X i k (iTo T i) (tg k) ||| X (iFr T i) k = ctrX T X i k (iTo T i) (tg k) := by
          revert h0
          split
          · intro _; assumption
          · intro h0; cases h0
        by_cases qq : s = iTo T i ∧ n = tg k
        · rw [qq.1, qq.2, hval, heq]
          exact hg0 rfl _ _ (by omega) htk
        · rw [helse s n hs hn qq]
          exact hg0 rfl s n hs hn
      · intro h1
        by_cases hg00 : g = 0
        · subst hg00
          rw [Nat.zero_or] at h1
          refine ⟨tg k, htk, ?_⟩
          rw [hval]
          intro e
          apply h1
          rw [if_pos]
          rw [e]
          exact (hg0 rfl _ _ (by omega) htk).symm
        · obtain ⟨n, hn, hx⟩ := hg1 hg00
          refine ⟨n, hn, fun e => hx ?_⟩
          exact msub_anti (e ▸ ctrX_up) ctrX_sub
theorem passOn_eq {μ : Mm} {a : Nat} {T : TT} {X : OX} {i : Nat} (hV : VT T) (hC : CF μ a T) (hX : XB X) (hO : offC μ (a + 14) X) (hN : offN μ (a + 14) X) (hW : ownN μ (a + 14) T) (hi : i < tI T) : ∃ r, X1_passOn (a + 14) a (nI i) μ = some r ∧ passed a T X i μ r := by
  obtain ⟨hto, hfr, hne, -, hkk⟩ := hV.2.2.1.2 i hi
  have h16 := hV.1.2.1
  have hI := hV.2.2.1.1
  obtain ⟨c1, c2, c3, c4, c5, c6⟩ := hC.2.2.2.1 i hi
  obtain ⟨mN, n1, n2, n3⟩ := hN (iFr T i) (by omega)
  have hxz : ∀ k, k < 26 → mN.testBit k = false → X (iFr T i) k = 0 := fun k hk hb => by
    by_cases e : X (iFr T i) k = 0
    · exact e
    · rw [n3 k hk e] at hb; cases hb
  unfold X1_passOn
  rw [ck_nI (by omega) (by decide), bd_eq, ck_nI (by omega) (by decide), bd_eq, ck_nI (by omega) (by decide), bd_eq, nI_clamp (by omega), c1, c2, c3, ck_nI (by omega) (by decide), nI_clamp (by omega), n2, c5]
  rcases hkk with ⟨e1, e2, e3⟩ | ⟨a', b', ha', hb', e1, e2, e3⟩
  · rw [e1, if_pos (show enc none = -1 from rfl), ck_nI (by omega) (by decide), and_not, bd_eq, ← e1]
    refine passOn_loop (tg := fun k => k) hV hC hX hO hN hW hi (Nat.lt_of_le_of_lt nd_le n1) (fun k h => h) (fun k _ => ⟨fun _ => rfl, fun c hc => by rw [e1] at hc; cases hc⟩) (fun k n hk hn hb => ?_) (fun k n hk hn hb => ?_)
    · rw [nd_bit (by omega)] at hb
      unfold ctr
      rw [e1]
      show (if n = k ∧ (iEx T i).testBit k = false then X (iFr T i) k else 0) = 0
      split
      · rename_i hh
        rw [hh.2] at hb
        exact hxz k hk (by revert hb; cases mN.testBit k <;> decide)
      · rfl
    · rw [nd_bit (by omega)] at hb
      have hx : (iEx T i).testBit k = false := by revert hb; cases mN.testBit k <;> cases (iEx T i).testBit k <;> decide
      unfold ctr
      rw [e1]
      show (if n = k ∧ (iEx T i).testBit k = false then X (iFr T i) k else 0) = _
      by_cases e : n = k
      · rw [if_pos ⟨e, hx⟩, if_pos e]
      · rw [if_neg (fun z => e z.1), if_neg e]
  · have hlt : mN &&& 2 ^ a' < 2 ^ 26 := Nat.lt_of_le_of_lt Nat.and_le_left n1
    rw [e1, show enc (some a') = nI a' from rfl, if_neg (nI_ne_m1 (by omega)), one_pow (by omega), fa_and, bd_eq, show nI a' = enc (some a') from rfl, ← e1]
    refine passOn_loop (tg := fun _ => b') hV hC hX hO hN hW hi hlt (fun _ _ => hb') (fun k _ => ⟨(fun hc => by rw [e1] at hc; cases hc), fun c _ => e2⟩) (fun k n hk hn hb => ?_) (fun k n hk hn hb => ?_)
    · rw [Nat.testBit_and, pw_bit] at hb
      unfold ctr
      rw [e1]
      show (if k = a' ∧ iLo T i = some n then X (iFr T i) k else 0) = 0
      split
      · rename_i hh
        rw [hh.1, decide_eq_true rfl, Bool.and_true] at hb
        rw [hh.1]
        exact hxz a' ha' hb
      · rfl
    · rw [Nat.testBit_and, pw_bit] at hb
      have hx : k = a' := by
        by_cases e : a' = k
        · exact e.symm
        · rw [decide_eq_false e, Bool.and_false] at hb; cases hb
      unfold ctr
      rw [e1, e2]
      show (if k = a' ∧ some b' = some n then X (iFr T i) k else 0) = if n = b' then X (iFr T i) k else 0
      by_cases e : n = b'
      · rw [if_pos ⟨hx, by rw [e]⟩, if_pos e]
      · rw [if_neg (fun z => e (by injection z.2 with z2; exact z2.symm)), if_neg e]
