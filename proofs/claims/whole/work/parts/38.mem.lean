/-! ===== writing: cells, fill, the fixpoint's mathematics ===== -/
theorem setI_1 (μ : Mm) (a k : Nat) (v : Int32) : (setI μ a k v).1 a = upd (μ.1 a) k v := by simp [setI, setA]
theorem setI_n (μ : Mm) {a b : Nat} (k : Nat) (v : Int32) (h : b ≠ a) : (setI μ a k v).1 b = μ.1 b := by simp [setI, setA, h]
theorem setI_2 (μ : Mm) (a k : Nat) (v : Int32) : (setI μ a k v).2 = μ.2 := rfl
theorem setI_at (μ : Mm) (a k : Nat) (v : Int32) (j : Nat) : (setI μ a k v).1 a j = if j = k then v else μ.1 a j := by rw [setI_1]; rfl
theorem setI_same (μ : Mm) (a k : Nat) (v : Int32) : (setI μ a k v).1 a k = v := by rw [setI_at, if_pos rfl]
theorem setI_ne (μ : Mm) (a k : Nat) (v : Int32) {j : Nat} (h : j ≠ k) : (setI μ a k v).1 a j = μ.1 a j := by rw [setI_at, if_neg h]
theorem setA_at (μ : Mm) (a : Nat) (f : Nat → Int32) (b : Nat) : (setA μ a f).1 b = if b = a then f else μ.1 b := rfl
theorem setA_2 (μ : Mm) (a : Nat) (f : Nat → Int32) : (setA μ a f).2 = μ.2 := rfl
theorem setA_self (μ : Mm) (a : Nat) {f : Nat → Int32} (h : f = μ.1 a) : setA μ a f = μ := by
  subst h
  obtain ⟨m, r⟩ := μ
  unfold setA
  congr 1
  funext b
  by_cases q : b = a
  · subst q; rw [if_pos rfl]
  · rw [if_neg q]
theorem setI_setA (μ : Mm) (a k : Nat) (f : Nat → Int32) (v : Int32) : setI (setA μ a f) a k v = setA μ a (upd f k v) := by
  unfold setI
  rw [setA_1]
  unfold setA
  congr 1
  funext b
  by_cases q : b = a
  · rw [if_pos q, if_pos q]
  · simp only [if_neg q]
/-- the first n of a row all v -/
def fll (f : Nat → Int32) (n : Nat) (v : Int32) : Nat → Int32 := fun j => if j < n then v else f j
theorem fill_eq (μ : Mm) (a0 : Nat) (v : Int32) (hl : alen a0 < 9000) : J7_fill_53178 a0 v μ = some (setA μ a0 (fll (μ.1 a0) (alen a0) v)) := by
  unfold J7_fill_53178
  rw [bd_eq]
  refine iq2m _ (fun m u2 u3 ν => ∃ i, i + m = alen a0 ∧ u2 = nI i ∧ u3 = nI (alen a0) ∧ ν = setA μ a0 (fll (μ.1 a0) i v)) ?_ big (alen a0) _ _ _ (by unfold big; omega) ⟨0, by omega, rfl, rfl, (setA_self μ a0 (funext fun j => by unfold fll; rw [if_neg (by omega)])).symm⟩
  rintro kk m u2 u3 ν ⟨i, hi, rfl, rfl, rfl⟩ ih
  unfold J7_fill_53178_l5
  rw [ifLe (by omega) (by omega)]
  by_cases q : alen a0 ≤ i
  · rw [if_pos q, show i = alen a0 by omega]
  · rw [if_neg q, ck_nI (by omega) (by omega), bd_eq, nI_clamp (by omega), nI_1]
    refine ih (m - 1) _ _ _ (by omega) ⟨i + 1, by omega, rfl, rfl, ?_⟩
    rw [setI_setA]
    congr 1
    funext j
    unfold upd fll
    by_cases e : j = i
    · rw [if_pos e, if_pos (by omega)]
    · rw [if_neg e]
      by_cases e2 : j < i
      · rw [if_pos e2, if_pos (by omega)]
      · rw [if_neg e2, if_neg (by omega)]
def tot (X : OX) : Nat := fb_sm (fun c => popc (X (c / 26) (c % 26))) 416
theorem tot_le (X : OX) : tot X ≤ 12480 := by
  have := fb_sm_le (f := fun c => popc (X (c / 26) (c % 26))) (g := fun _ => 30) (n := 416) (fun k _ => popc_le _)
  rw [fb_sm_const] at this
  exact this
theorem popc_mono {a b : Nat} (h : msub a b) : popc a ≤ popc b := fb_ct_sub (fun k _ q => h k q)
theorem sm_lt {f g : Nat → Nat} {i : Nat} : ∀ {n : Nat}, (∀ k, k < n → f k ≤ g k) → i < n → f i < g i → fb_sm f n < fb_sm g n
  | 0, _, h, _ => by omega
  | n + 1, h, hi, hlt => by
    rw [fb_sm_succ, fb_sm_succ]
    have h1 := h n (by omega)
    have h2 := fb_sm_le (f := f) (g := g) (n := n) (fun k hk => h k (by omega))
    by_cases e : i = n
    · subst e; omega
    · have := sm_lt (n := n) (fun k hk => h k (by omega)) (by omega) hlt
      omega
theorem popc_eq_of {a b : Nat} (ha : a < 2 ^ 30) (hb : b < 2 ^ 30) (h : msub a b) (e : popc a = popc b) : a = b := by
  refine msub_anti h (fun d hd => ?_)
  cases q : a.testBit d with
  | true => rfl
  | false =>
    exfalso
    have hd30 : d < 30 := by
      rcases Nat.lt_or_ge d 30 with z | z
      · exact z
      · rw [Nat.testBit_lt_two_pow (Nat.lt_of_lt_of_le hb (Nat.pow_le_pow_right (by decide) z))] at hd
        cases hd
    have h1 := fb_ct_upd (fun k => a.testBit k) true hd30
    have h1' : fb_ct (fun k => if k = d then true else a.testBit k) 30 + 0 = fb_ct (fun k => a.testBit k) 30 + 1 := by
      rw [if_neg (by rw [q]; decide), if_pos rfl] at h1
      exact h1
    have h2 : fb_ct (fun k => if k = d then true else a.testBit k) 30 ≤ fb_ct (fun k => b.testBit k) 30 := fb_ct_sub (fun k _ hk => by
      by_cases e2 : k = d
      · subst e2; exact hd
      · rw [if_neg e2] at hk; exact h k hk)
    have h3 : fb_ct (fun k => a.testBit k) 30 = fb_ct (fun k => b.testBit k) 30 := e
    omega
theorem tot_mono {X Y : OX} (h : ∀ s n, s < 16 → n < 26 → msub (X s n) (Y s n)) : tot X ≤ tot Y := fb_sm_le (fun c hc => popc_mono (h _ _ (by omega) (by omega)))
theorem tot_lt {X Y : OX} (hX : XB X) (hY : XB Y) (h : ∀ s n, s < 16 → n < 26 → msub (X s n) (Y s n)) {s n : Nat} (hs : s < 16) (hn : n < 26) (hne : X s n ≠ Y s n) : tot X < tot Y := by
  refine sm_lt (i := s * 26 + n) (fun c hc => popc_mono (h _ _ (by omega) (by omega))) (by omega) ?_
  rw [show (s * 26 + n) / 26 = s by omega, show (s * 26 + n) % 26 = n by omega]
  rcases Nat.lt_or_ge (popc (X s n)) (popc (Y s n)) with q | q
  · exact q
  · exact absurd (popc_eq_of (hX s n hs hn) (hY s n hs hn) (h s n hs hn) (by have := popc_mono (h s n hs hn); omega)) hne
/-- what an import that is passed on adds -/
def passX (T : TT) (X : OX) (i : Nat) : OX := fun s n => if s = iTo T i ∧ dOf T s n = none then X s n ||| broM T X i n else X s n
theorem passX_sub {T : TT} {X : OX} {i s n : Nat} : msub (X s n) (passX T X i s n) := by
  unfold passX
  split
  · exact msub_orl
  · exact msub_rfl
theorem passX_B {T : TT} {X : OX} (hV : VT T) (hX : XB X) {i : Nat} (hi : i < tI T) : XB (passX T X i) := by
  intro s n hs hn
  unfold passX
  split
  · exact or_lt30 (hX s n hs hn) (broM_lt hV hX hi hn)
  · exact hX s n hs hn
theorem bro_mono {T : TT} {X Y : OX} {i n : Nat} (h : ∀ s n, s < 16 → n < 26 → msub (X s n) (Y s n)) (hV : VT T) (hi : i < tI T) (hn : n < 26) : msub (broM T X i n) (broM T Y i n) := by
  obtain ⟨-, hf, -, -, hk⟩ := hV.2.2.1.2 i hi
  have hf16 : iFr T i < 16 := Nat.lt_of_lt_of_le hf hV.1.2.1
  rcases hk with ⟨e1, e2, e3⟩ | ⟨a', b', ha', hb', e1, e2, e3⟩
  · rw [bro_full e1, bro_full e1]
    split
    · exact msub_0
    · exact h _ _ hf16 hn
  · rw [bro_single e1 e2, bro_single e1 e2]
    split
    · exact h _ _ hf16 ha'
    · exact msub_0
theorem bro_same {T : TT} {X Y : OX} {i n : Nat} (h : ∀ m, m < 26 → X (iFr T i) m = Y (iFr T i) m) (hV : VT T) (hi : i < tI T) (hn : n < 26) : broM T X i n = broM T Y i n := by
  obtain ⟨-, hf, -, -, hk⟩ := hV.2.2.1.2 i hi
  rcases hk with ⟨e1, e2, e3⟩ | ⟨a', b', ha', hb', e1, e2, e3⟩
  · rw [bro_full e1, bro_full e1, h n hn]
  · rw [bro_single e1 e2, bro_single e1 e2, h a' ha']
/-- no more than any closed one -/
def leastI (T : TT) (X : OX) : Prop := ∀ Y : OX, based T Y → closed T Y → ∀ s n, s < 16 → n < 26 → msub (X s n) (Y s n)
theorem passX_least {T : TT} {X : OX} (hV : VT T) (h : leastI T X) {i : Nat} (hi : i < tI T) (hp : iPs T i = 1) : leastI T (passX T X i) := by
  intro Y hb hc s n hs hn
  unfold passX
  by_cases q : s = iTo T i ∧ dOf T s n = none
  · rw [if_pos q]
    obtain ⟨rfl, q2⟩ := q
    exact msub_or.mpr ⟨h Y hb hc _ n hs hn, msub_tr (bro_mono (h Y hb hc) hV hi hn) (hc i hi hp n hn q2)⟩
  · rw [if_neg q]
    exact h Y hb hc s n hs hn
theorem passX_closed {T : TT} {X : OX} (hV : VT T) {i : Nat} (hi : i < tI T) : closedI T (passX T X i) i := by
  intro _ n hn hd
  rw [← bro_same (X := X) (fun m _ => by unfold passX; rw [if_neg (fun z => (hV.2.2.1.2 i hi).2.2.1 z.1.symm)]) hV hi hn]
  unfold passX
  rw [if_pos ⟨rfl, hd⟩]
  exact msub_orr
/-- another import stays closed, unless it leads from the scope that grew -/
theorem passX_other {T : TT} {X : OX} (hV : VT T) {i j : Nat} (hj : j < tI T) (h : closedI T X j) (hne : iFr T j ≠ iTo T i) : closedI T (passX T X i) j := by
  intro hp n hn hd
  rw [← bro_same (X := X) (fun m _ => by unfold passX; rw [if_neg (fun z => hne z.1)]) hV hj hn]
  exact msub_tr (h hp n hn hd) passX_sub
theorem closedI_congr {T : TT} {X Y : OX} (hV : VT T) {j : Nat} (hj : j < tI T) (h : ∀ s n, s < 16 → n < 26 → X s n = Y s n) (hc : closedI T X j) : closedI T Y j := by
  intro hp n hn hd
  obtain ⟨ht, hf, -⟩ := hV.2.2.1.2 j hj
  have := hV.1.2.1
  rw [← bro_same (X := X) (fun m hm => h _ m (by omega) hm) hV hj hn, ← h _ n (by omega) hn]
  exact hc hp n hn hd
