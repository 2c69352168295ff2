/-! ===== the component's questions over its rows and layers ===== -/
def foldN (g : Nat → Nat → Nat) : Nat → Nat → Nat
  | 0, a => a
  | n + 1, a => g n (foldN g n a)
theorem fold_loop {β : Type} {F : (Int32 → Int32 → Option β) → Int32 → Int32 → Option β} {bot : Int32 → Int32 → Option β} {N : Nat} (g : Nat → Nat → Nat) (fin : Nat → β) (P : Nat → Nat → Prop) (hN : N < 9000) (a0 : Nat) (h0 : P 0 a0) (he : ∀ k acc, P N acc → F k (nI acc) (nI N) = some (fin acc))
    (hs : ∀ k acc i, i < N → P i acc → P (i + 1) (g i acc) ∧ F k (nI acc) (nI i) = k (nI (g i acc)) (nI (i + 1))) : itr F bot big (nI a0) (nI 0) = some (fin (foldN g N a0)) := by
  refine ex_eq (it2 (fun r => r = fin (foldN g N a0)) (fun m a b => ∃ i, i + m = N ∧ b = nI i ∧ a = nI (foldN g i a0) ∧ P i (foldN g i a0)) ?_ big N (nI a0) (nI 0) (by unfold big; omega) ⟨0, by omega, rfl, rfl, h0⟩)
  rintro k m a b ⟨i, hi, rfl, rfl, hP⟩ ih
  by_cases h : i = N
  · subst h
    exact ⟨_, he k _ hP, rfl⟩
  · obtain ⟨h1, h2⟩ := hs k _ i (by omega) hP
    rw [h2]
    exact ih (m - 1) _ _ (by omega) ⟨i + 1, by omega, rfl, rfl, h1⟩
theorem foldN_sum {f : Nat → Nat} : ∀ {n : Nat}, foldN (fun i acc => acc + f i) n 0 = fb_sm f n
  | 0 => rfl
  | n + 1 => by
    show foldN _ n 0 + f n = _
    rw [foldN_sum, fb_sm_succ]
theorem cnt_loop {F : (Int32 → Int32 → Option Int32) → Int32 → Int32 → Option Int32} {bot : Int32 → Int32 → Option Int32} {N : Nat} (f : Nat → Nat) (hN : N < 9000) (he : ∀ k acc, F k (nI acc) (nI N) = some (nI acc)) (hs : ∀ k acc i, i < N → F k (nI acc) (nI i) = k (nI (acc + f i)) (nI (i + 1))) : itr F bot big 0 0 = some (nI (fb_sm f N)) := by
  have := fold_loop (bot := bot) (fun i acc => acc + f i) nI (fun _ _ => True) hN 0 trivial (fun k acc _ => he k acc) (fun k acc i hi _ => ⟨trivial, hs k acc i hi⟩)
  rw [foldN_sum] at this
  exact this
theorem ite_nI {c : Prop} {d : Decidable c} {a b : Nat} : (@ite _ c d (nI a) (nI b)) = nI (@ite _ c d a b) := by
  by_cases h : c
  · rw [if_pos h, if_pos h]
  · rw [if_neg h, if_neg h]
def bN (b : Bool) : Nat := if b = true then 1 else 0
def cN (c : Prop) (d : Decidable c) : Nat := if c then 1 else 0
theorem cell_nI (s n : Nat) : nI s * 26 + nI n = nI (s * 26 + n) := by rw [lit_n 26, pk_mul, nI_add]
theorem rem3 {p : Nat} (h : p < 2 ^ 31) : nI p - nI p / 3 * 3 = nI (p % 3) := pk_rem h (d := 3) (by decide) (by decide)
theorem div3 {p : Nat} (h : p < 2 ^ 31) : nI p / 3 = nI (p / 3) := pk_div h (d := 3) (by decide) (by decide)
theorem enc_m1 {o : Option Nat} (h : ∀ p, o = some p → p < 2 ^ 31) : (enc o = -1) ↔ o = none := by
  cases o with
  | none => exact ⟨fun _ => rfl, fun _ => rfl⟩
  | some p => exact ⟨fun q => absurd q (nI_ne_m1 (h p rfl)), fun q => by cases q⟩
theorem par_t {T : TT} (h : VS T) {s p : Nat} (hs : s < tS T) (hp : tPar T s = some p) : p < tS T := Nat.lt_trans (par_lt h hs hp) hs
theorem lay3_0 {T : TT} {X : OX} {s n st : Nat} {r : List (Nat × Nat × Nat)} (h : layM T X s n 0 ≠ 0) : hd1 (lay3 T X s n st ++ r) = layM T X s n 0 := by
  unfold lay3; rw [if_neg h]; rfl
theorem lay3_1 {T : TT} {X : OX} {s n st : Nat} {r : List (Nat × Nat × Nat)} (h0 : layM T X s n 0 = 0) (h : layM T X s n 1 ≠ 0) : hd1 (lay3 T X s n st ++ r) = layM T X s n 1 := by
  unfold lay3; rw [if_pos h0, if_neg h]; rfl
theorem lay3_2 {T : TT} {X : OX} {s n st : Nat} {r : List (Nat × Nat × Nat)} (h0 : layM T X s n 0 = 0) (h1 : layM T X s n 1 = 0) (h : layM T X s n 2 ≠ 0) : hd1 (lay3 T X s n st ++ r) = layM T X s n 2 := by
  unfold lay3; rw [if_pos h0, if_pos h1, if_neg h]; rfl
theorem lay3_n {T : TT} {X : OX} {s n st : Nat} (h0 : layM T X s n 0 = 0) (h1 : layM T X s n 1 = 0) (h : layM T X s n 2 = 0) : lay3 T X s n st = [] := by
  unfold lay3; rw [if_pos h0, if_pos h1, if_pos h]; rfl
section RD
variable {μ : Mm} {a : Nat} {T : TT} {X : OX}
theorem FS.lt (h : FS μ a T X) {s n : Nat} (hn : n < 26) (j : Nat) : layM T X s n j < 2 ^ 30 := layM_lt h.1 h.2.2.2 s hn j
theorem FS.s16 (h : FS μ a T X) {s : Nat} (hs : s < tS T) : s < 16 := Nat.lt_of_lt_of_le hs h.1.1.2.1
theorem firstLayer_eq (h : FS μ a T X) {s n : Nat} (hs : s < tS T) (hn : n < 26) : X0_firstLayer a (nI s) (nI n) μ = some (nI (outc T X s n)) := by
  unfold X0_firstLayer
  refine ex_eq (it2 (fun r => r = nI (outc T X s n)) (fun k v3 v4 => k ≤ 16 ∧ v4 = nI (16 - k) ∧ ∃ (o : Option Nat) (st : Nat), v3 = enc o ∧ (∀ p, o = some p → p < tS T) ∧ outc T X s n = hd1 (match o with
    | none => []
    | some p => chn T X n k p st)) ?_ big 16 (nI s) 0 (by decide) ⟨Nat.le_refl _, rfl, some s, 0, rfl, fun p q => by cases q; exact hs, rfl⟩)
  rintro k m v3 v4 ⟨hm, rfl, o, st, rfl, ho, he⟩ ih
  unfold X0_firstLayer_l5
  rw [lit_n 16, ifLe (by decide) (by omega)]
  by_cases h0 : 16 ≤ 16 - m
  · rw [if_pos h0]
    have : m = 0 := by omega
    subst this
    refine ⟨_, rfl, ?_⟩
    rw [he]
    cases o <;> rfl
  rw [if_neg h0]
  cases o with
  | none =>
    rw [if_pos (show enc none = -1 from rfl)]
    exact ⟨_, rfl, by rw [he]; rfl⟩
  | some p =>
    have hp := ho p rfl
    have hp16 := h.s16 hp
    have hc : p * 26 + n < 416 := by omega
    obtain ⟨-, c2, c3, c4⟩ := h.2.2.1 p n hp16 hn
    rw [show enc (some p) = nI p from rfl, if_neg (nI_ne_m1 (by omega)), bd_eq, cell_nI, ck_nI hc (by decide), nI_clamp (by omega), c2, c3, c4, lit_n 0, ifEq (Nat.lt_trans (h.lt hn 0) (by decide)) (by decide), ck_nI hc (by decide), ck_nI hc (by decide), ifEq (Nat.lt_trans (h.lt hn 1) (by decide)) (by decide), ifEq (Nat.lt_trans (h.lt hn 2) (by decide)) (by decide)]
    obtain ⟨m, rfl⟩ : ∃ m', m = m' + 1 := ⟨m - 1, by omega⟩
    have he' : outc T X s n = hd1 (lay3 T X p n st ++ (match tPar T p with
      | none => []
      | some p' => chn T X n m p' (st + 1))) := he
    by_cases q0 : layM T X p n 0 = 0
    · rw [if_pos q0]
      by_cases q1 : layM T X p n 1 = 0
      · rw [if_pos q1]
        by_cases q2 : layM T X p n 2 = 0
        · rw [if_pos q2, ck_nI hp16 (by decide), bd_eq, nI_clamp (by omega), h.2.1.2.1 p hp, nI_1]
          rw [lay3_n q0 q1 q2] at he'
          exact ih m _ _ (by omega) ⟨by omega, by rw [show 16 - (m + 1) + 1 = 16 - m by omega], tPar T p, st + 1, rfl, fun p' hp' => par_t h.1.1 hp hp', he'⟩
        · rw [if_neg q2]
          exact ⟨_, ck_nI hc (by decide), by rw [he', lay3_2 q0 q1 q2]⟩
      · rw [if_neg q1]
        exact ⟨_, ck_nI hc (by decide), by rw [he', lay3_1 q0 q1]⟩
    · rw [if_neg q0]
      exact ⟨_, ck_nI hc (by decide), by rw [he', lay3_0 q0]⟩
theorem outcome_eq (h : FS μ a T X) {u : Nat} (hu : u < tU T) : X0_outcome a (nI u) μ = some (nI (outU T X u)) := by
  have hu30 : u < 30 := Nat.lt_of_lt_of_le hu h.1.2.2.2.1
  obtain ⟨h1, h2⟩ := h.1.2.2.2.2 u hu
  obtain ⟨c1, c2⟩ := h.2.1.2.2.2.2 u hu
  unfold X0_outcome
  rw [ck_nI hu30 (by decide), ck_nI hu30 (by decide), nI_clamp (by omega), c1, c2, firstLayer_eq h h1 h2]
  rfl
end RD
