/-! ===== Integer.bitCount is the number of bits ===== -/
theorem and_split (w a b : Nat) {r s : Nat} (hr : r < 2 ^ w) (hs : s < 2 ^ w) : (2 ^ w * a + r) &&& (2 ^ w * b + s) = 2 ^ w * (a &&& b) + (r &&& s) := by
  apply Nat.eq_of_testBit_eq
  intro i
  have hrs : r &&& s < 2 ^ w := Nat.lt_of_le_of_lt Nat.and_le_left hr
  rw [Nat.testBit_and, Nat.testBit_two_pow_mul_add a hr, Nat.testBit_two_pow_mul_add b hs, Nat.testBit_two_pow_mul_add (a &&& b) hrs]
  by_cases h : i < w
  · rw [if_pos h, if_pos h, if_pos h, Nat.testBit_and]
  · rw [if_neg h, if_neg h, if_neg h, Nat.testBit_and]
def qd4 (d c b a : Nat) : Nat := 2 ^ 24 * d + (2 ^ 16 * c + (2 ^ 8 * b + a))
theorem qd4_and {d c b a d' c' b' a' : Nat} (hc : c < 256) (hb : b < 256) (ha : a < 256) (hc' : c' < 256) (hb' : b' < 256) (ha' : a' < 256) : qd4 d c b a &&& qd4 d' c' b' a' = qd4 (d &&& d') (c &&& c') (b &&& b') (a &&& a') := by
  unfold qd4
  rw [and_split 24 d d' (by omega) (by omega), and_split 16 c c' (by omega) (by omega), and_split 8 b b' (by omega) (by omega)]
def f1 (y : Nat) : Nat := y - (y / 2 &&& 0x55)
def f2 (y : Nat) : Nat := (y &&& 0x33) + (y / 4 &&& 0x33)
def f3 (y : Nat) : Nat := (y + y / 16) &&& 15
theorem t1 : ∀ y, y < 256 → ∀ e, e < 2 → (y / 2 + 128 * e) &&& 0x55 = y / 2 &&& 0x55 := by decide +kernel
theorem t1le : ∀ y, y < 256 → (y / 2 &&& 0x55) ≤ y := by decide +kernel
theorem t2 : ∀ y, y < 256 → ∀ e, e < 4 → (y / 4 + 64 * e) &&& 0x33 = y / 4 &&& 0x33 := by decide +kernel
theorem t3 : ∀ y, y < 69 → ∀ e, e < 16 → (y + y / 16 + 16 * e) &&& 15 = (y + y / 16) &&& 15 := by decide +kernel
theorem f1lt : ∀ y, y < 256 → f1 y < 256 := by decide +kernel
theorem f2lt : ∀ y, y < 256 → f2 (f1 y) < 69 ∧ f2 (f1 y) % 16 < 5 := by decide +kernel
theorem f3lt : ∀ y, y < 256 → f3 (f2 (f1 y)) < 9 := by decide +kernel
theorem f3ct : ∀ y, y < 256 → f3 (f2 (f1 y)) = fb_ct (fun k => y.testBit k) 8 := by decide +kernel
theorem and33 : ∀ y, y < 256 → (y &&& 0x33) < 52 ∧ (y / 4 &&& 0x33) < 52 := by decide +kernel
theorem sw1 {d c b a : Nat} (hd : d < 256) (hc : c < 256) (hb : b < 256) (ha : a < 256) : qd4 d c b a - (qd4 d c b a / 2 &&& 0x55555555) = qd4 (f1 d) (f1 c) (f1 b) (f1 a) := by
  have e1 : qd4 d c b a / 2 = qd4 (d / 2) (c / 2 + 128 * (d % 2)) (b / 2 + 128 * (c % 2)) (a / 2 + 128 * (b % 2)) := by unfold qd4; omega
  rw [e1, show (0x55555555 : Nat) = qd4 0x55 0x55 0x55 0x55 from rfl, qd4_and (by omega) (by omega) (by omega) (by decide) (by decide) (by decide), t1 c hc _ (by omega), t1 b hb _ (by omega), t1 a ha _ (by omega)]
  have h1 := t1le d hd; have h2 := t1le c hc; have h3 := t1le b hb; have h4 := t1le a ha
  unfold f1 qd4
  omega
theorem sw2 {d c b a : Nat} (hd : d < 256) (hc : c < 256) (hb : b < 256) (ha : a < 256) : (qd4 d c b a &&& 0x33333333) + (qd4 d c b a / 4 &&& 0x33333333) = qd4 (f2 d) (f2 c) (f2 b) (f2 a) := by
  have e1 : qd4 d c b a / 4 = qd4 (d / 4) (c / 4 + 64 * (d % 4)) (b / 4 + 64 * (c % 4)) (a / 4 + 64 * (b % 4)) := by unfold qd4; omega
  rw [e1, show (0x33333333 : Nat) = qd4 0x33 0x33 0x33 0x33 from rfl, qd4_and hc hb ha (by decide) (by decide) (by decide), qd4_and (by omega) (by omega) (by omega) (by decide) (by decide) (by decide), t2 c hc _ (by omega), t2 b hb _ (by omega), t2 a ha _ (by omega)]
  unfold f2 qd4
  omega
theorem sw3 {d c b a : Nat} (hd : d < 69 ∧ d % 16 < 5) (hc : c < 69 ∧ c % 16 < 5) (hb : b < 69 ∧ b % 16 < 5) (ha : a < 69 ∧ a % 16 < 5) : (qd4 d c b a + qd4 d c b a / 16) &&& 0x0f0f0f0f = qd4 (f3 d) (f3 c) (f3 b) (f3 a) := by
  have e1 : qd4 d c b a + qd4 d c b a / 16 = qd4 (d + d / 16) (c + c / 16 + 16 * (d % 16)) (b + b / 16 + 16 * (c % 16)) (a + a / 16 + 16 * (b % 16)) := by unfold qd4; omega
  rw [e1, show (0x0f0f0f0f : Nat) = qd4 15 15 15 15 from rfl, qd4_and (by omega) (by omega) (by omega) (by decide) (by decide) (by decide), t3 c hc.1 _ (by omega), t3 b hb.1 _ (by omega), t3 a ha.1 _ (by omega)]
  rfl
theorem sw4 {p1 p2 p3 p4 : Nat} (h1 : p1 < 9) (h2 : p2 < 9) (h3 : p3 < 9) (h4 : p4 < 9) : (qd4 p1 p2 p3 p4 + qd4 p1 p2 p3 p4 / 2 ^ 8 + (qd4 p1 p2 p3 p4 + qd4 p1 p2 p3 p4 / 2 ^ 8) / 2 ^ 16) % 64 = p4 + (p3 + (p2 + p1)) := by
  have e1 : qd4 p1 p2 p3 p4 / 2 ^ 8 = 65536 * p1 + 256 * p2 + p3 := by unfold qd4; omega
  have e2 : (qd4 p1 p2 p3 p4 + (65536 * p1 + 256 * p2 + p3)) / 2 ^ 16 = 256 * p1 + (p1 + p2) := by unfold qd4; omega
  rw [e1, e2]
  unfold qd4
  omega
theorem ct_qd4 {d c b a : Nat} (hc : c < 256) (hb : b < 256) (ha : a < 256) : fb_ct (fun k => (qd4 d c b a).testBit k) 32 = fb_ct (fun k => a.testBit k) 8 + (fb_ct (fun k => b.testBit k) 8 + (fb_ct (fun k => c.testBit k) 8 + fb_ct (fun k => d.testBit k) 8)) := by
  unfold qd4
  rw [show 32 = 8 + 24 from rfl, fb_ct_split, show 24 = 8 + 16 from rfl, fb_ct_split, show 16 = 8 + 8 from rfl, fb_ct_split]
  have lo : ∀ {x r : Nat}, r < 256 → fb_ct (fun k => (2 ^ 8 * x + r).testBit k) 8 = fb_ct (fun k => r.testBit k) 8 := by
    intro x r hr
    refine fb_ct_cong (fun k hk => ?_)
    rw [Nat.testBit_two_pow_mul_add x (show r < 2 ^ 8 by omega), if_pos hk]
  have hi : ∀ {x r k : Nat}, r < 256 → (2 ^ 8 * x + r).testBit (8 + k) = x.testBit k := by
    intro x r k hr
    rw [Nat.testBit_two_pow_mul_add x (show r < 2 ^ 8 by omega), if_neg (by omega), Nat.add_sub_cancel_left]
  have e1 : 2 ^ 24 * d + (2 ^ 16 * c + (2 ^ 8 * b + a)) = 2 ^ 8 * (2 ^ 8 * (2 ^ 8 * d + c) + b) + a := by omega
  rw [e1, lo ha]
  congr 1
  have e2 : (fun k => (2 ^ 8 * (2 ^ 8 * (2 ^ 8 * d + c) + b) + a).testBit (8 + k)) = fun k => (2 ^ 8 * (2 ^ 8 * d + c) + b).testBit k := funext fun k => hi ha
  have e3 : (fun k => (2 ^ 8 * (2 ^ 8 * d + c) + b).testBit (8 + k)) = fun k => (2 ^ 8 * d + c).testBit k := funext fun k => hi hb
  have e4 : (fun k => (2 ^ 8 * d + c).testBit (8 + k)) = fun k => d.testBit k := funext fun k => hi hc
  have e5 : ∀ k, (2 ^ 8 * (2 ^ 8 * (2 ^ 8 * d + c) + b) + a).testBit (8 + (8 + k)) = (2 ^ 8 * d + c).testBit k := fun k => by rw [hi ha, hi hb]
  have e6 : ∀ k, (2 ^ 8 * (2 ^ 8 * (2 ^ 8 * d + c) + b) + a).testBit (8 + (8 + (8 + k))) = d.testBit k := fun k => by rw [hi ha, hi hb, hi hc]
  rw [fb_ct_cong (fun k _ => hi ha), lo hb, fb_ct_cong (fun k _ => e5 k), lo hc, fb_ct_cong (fun k _ => e6 k)]
theorem ushr_n {m k : Nat} (hm : m < 2 ^ 32) (s : Int32) (hs : ((s.toUInt32 &&& Int32.toUInt32 31).toBitVec % 32).toNat = k) : ((nI m).toUInt32 >>> (s.toUInt32 &&& Int32.toUInt32 31)).toInt32 = nI (m / 2 ^ k) := pk_ushrN hm s k hs
theorem bitCount32 {m : Nat} (hm : m < 2 ^ 32) : J6_bitCount_0f7a4 (nI m) = some (nI (fb_ct (fun k => m.testBit k) 32)) := by
  obtain ⟨d, c, b, a, hd, hc, hb, ha, rfl⟩ : ∃ d c b a, d < 256 ∧ c < 256 ∧ b < 256 ∧ a < 256 ∧ m = qd4 d c b a :=
    ⟨m / 2 ^ 24, m / 2 ^ 16 % 256, m / 2 ^ 8 % 256, m % 256, by omega, by omega, by omega, by omega, by unfold qd4; omega⟩
  unfold J6_bitCount_0f7a4
  have g1 := f1lt d hd; have g2 := f1lt c hc; have g3 := f1lt b hb; have g4 := f1lt a ha
  have i1 := f2lt d hd; have i2 := f2lt c hc; have i3 := f2lt b hb; have i4 := f2lt a ha
  have j1 := f3lt d hd; have j2 := f3lt c hc; have j3 := f3lt b hb; have j4 := f3lt a ha
  have k1 : qd4 (f1 d) (f1 c) (f1 b) (f1 a) < 2 ^ 32 := by unfold qd4; omega
  have k2 : qd4 (f2 (f1 d)) (f2 (f1 c)) (f2 (f1 b)) (f2 (f1 a)) < 2 ^ 32 := by unfold qd4; omega
  rw [bd_eq, bd_eq, bd_eq, bd_eq, bd_eq, ushr_n (k := 1) hm 1 (by decide), lit_n 1431655765, fa_and, pk_sub (Nat.le_trans Nat.and_le_left (Nat.div_le_self _ _)), Nat.pow_one, sw1 hd hc hb ha]
  rw [ushr_n (k := 2) k1 2 (by decide), lit_n 858993459, fa_and, fa_and, nI_add, sw2 g1 g2 g3 g4]
  rw [ushr_n (k := 4) k2 4 (by decide), nI_add, lit_n 252645135, fa_and, sw3 i1 i2 i3 i4]
  generalize hp1 : f3 (f2 (f1 d)) = p1 at *
  generalize hp2 : f3 (f2 (f1 c)) = p2 at *
  generalize hp3 : f3 (f2 (f1 b)) = p3 at *
  generalize hp4 : f3 (f2 (f1 a)) = p4 at *
  have k3 : qd4 p1 p2 p3 p4 < 2 ^ 32 := by unfold qd4; omega
  rw [ushr_n (k := 8) k3 8 (by decide), nI_add]
  have k4 : qd4 p1 p2 p3 p4 + qd4 p1 p2 p3 p4 / 2 ^ 8 < 2 ^ 32 := by unfold qd4; omega
  rw [ushr_n (k := 16) k4 16 (by decide), nI_add]
  have k5 : qd4 p1 p2 p3 p4 + qd4 p1 p2 p3 p4 / 2 ^ 8 + (qd4 p1 p2 p3 p4 + qd4 p1 p2 p3 p4 / 2 ^ 8) / 2 ^ 16 < 2 ^ 32 := by unfold qd4; omega
  rw [pk_andN k5 6 (by decide), ct_qd4 hc hb ha, ← f3ct d hd, ← f3ct c hc, ← f3ct b hb, ← f3ct a ha, hp1, hp2, hp3, hp4]
  refine congrArg (fun z => some (nI z)) ?_
  exact sw4 j1 j2 j3 j4
theorem bitCount_eq {m : Nat} (hm : m < 2 ^ 30) : J6_bitCount_0f7a4 (nI m) = some (nI (popc m)) := by
  rw [bitCount32 (by omega)]
  unfold popc
  rw [show 32 = 30 + 2 from rfl, fb_ct_split]
  have h : fb_ct (fun k => m.testBit (30 + k)) 2 = 0 := by
    refine fb_ct_zero.mpr (fun k _ => ?_)
    exact Nat.testBit_lt_two_pow (Nat.lt_of_lt_of_le hm (Nat.pow_le_pow_right (by decide) (by omega)))
  rw [h]
  rfl
