/-! ===== reading without adding; what the adding methods leave alone ===== -/
def idle (μ : Mm) : Prop := μ.1 45 20 = 0 ∨ (¬ μ.1 45 20 = 0 ∧ ¬ μ.1 45 21 = 0)
def frR (μ ν : Mm) : Prop := ν.2 = μ.2 ∧ (∀ p, p ≠ 45 → ν.1 p = μ.1 p) ∧ ∀ j, j < 12 ∨ j = 20 ∨ j = 21 ∨ 23 ≤ j → ν.1 45 j = μ.1 45 j
theorem frR_refl {μ : Mm} : frR μ μ := ⟨rfl, fun _ _ => rfl, fun _ _ => rfl⟩
theorem frR_tr {μ ν ξ : Mm} (h : frR μ ν) (k : frR ν ξ) : frR μ ξ := ⟨k.1.trans h.1, fun p hp => (k.2.1 p hp).trans (h.2.1 p hp), fun j hj => (k.2.2 j hj).trans (h.2.2 j hj)⟩
theorem frT_R {μ ν : Mm} (h : frT μ ν) : frR μ ν := ⟨h.1, h.2.1, fun j hj => h.2.2 j (by omega)⟩
theorem frR_put {μ ν : Mm} (h : frR μ ν) {k : Nat} {v : Int32} (hk : (12 ≤ k ∧ k < 20) ∨ k = 22) : frR μ (setI ν 45 k v) := ⟨h.1, fun p hp => by rw [setI_n _ _ _ hp]; exact h.2.1 p hp, fun j hj => by rw [setI_ne _ _ _ _ (by omega)]; exact h.2.2 j hj⟩
theorem idle_R {μ ν : Mm} (h : idle μ) (k : frR μ ν) : idle ν := by
  unfold idle
  rw [k.2.2 20 (by omega), k.2.2 21 (by omega)]
  exact h
theorem TXm_R {μ ν : Mm} {N : Nat} {f : Nat → Nat} (h : TXm μ N f) (k : frR μ ν) : TXm ν N f := ⟨by rw [k.2.2 5 (by omega)]; exact h.1, fun j hj => by rw [k.2.1 49 (by decide)]; exact h.2 j hj⟩
theorem MI_same {μ ν : Mm} {T : TT} (h : MI μ T) (e1 : ν.1 46 = μ.1 46) (e2 : ν.1 48 = μ.1 48) (e3 : ν.1 45 4 = μ.1 45 4) : MI ν T := by
  refine ⟨h.1, MF_same h.2.1 e1, ?_⟩
  unfold laid offM
  rw [e2, e3]
  exact h.2.2
theorem MI_R {μ ν : Mm} {T : TT} (h : MI μ T) (k : frR μ ν) : MI ν T := MI_same h (k.2.1 46 (by decide)) (k.2.1 48 (by decide)) (k.2.2 4 (by omega))
theorem endItem_idle {μ : Mm} (h : idle μ) : X4_endItem μ = some (setI (setI μ 45 22 (μ.1 45 22 + 1)) 45 12 0) := by
  unfold X4_endItem
  rw [bd_eq, bd_eq, s2 μ (show 20 ≠ 22 by decide) (show 20 ≠ 12 by decide), s2 μ (show 21 ≠ 22 by decide) (show 21 ≠ 12 by decide)]
  rcases h with h | ⟨h1, h2⟩
  · rw [if_pos h]
  · rw [if_neg h1, if_neg h2]
theorem read_idle {v1 : Int32} {μ : Mm} {N : Nat} {f : Nat → Nat} (hv : TXv N f) {k0 m0 s0 a0 : Nat} (hm0 : k0 + m0 = N) (hs0 : s0 < 12) (h12 : μ.1 45 12 = nI s0) (hI0 : IT f a0 k0 (μ.1 45) s0) (hid : idle μ) (hT : TXm μ N f) {n : Nat} (hn : m0 < n) :
    ∃ r, itr (X4_read_l22 v1) (fun _ _ => none) n (nI k0) μ = some r ∧ (∃ ν, r = (nI (fwG f m0 k0 s0), ν) ∧ frR μ ν ∧ ∀ s', fsG f m0 k0 s0 = some s' → ν.1 45 12 = nI s' ∧ s' < 12) := by
  have hN := hv.1
  refine it1m _ (fun m v2 ν => ∃ k a s, k + m = N ∧ v2 = nI k ∧ s < 12 ∧ ν.1 45 12 = nI s ∧ IT f a k (ν.1 45) s ∧ frR μ ν ∧ fwG f m0 k0 s0 = fwG f m k s ∧ fsG f m0 k0 s0 = fsG f m k s) ?_ n m0 _ μ hn ⟨k0, a0, s0, hm0, rfl, hs0, h12, hI0, frR_refl, rfl, rfl⟩
  rintro k22 m v2 ν ⟨k, a, s, hm, rfl, hs, hst, hI, hf, hw, hz⟩ ih
  have hTν := TXm_R hT hf
  unfold X4_read_l22
  rw [hTν.1, ifLe (by omega) (by omega)]
  cases m with
  | zero =>
    rw [if_pos (by omega), hw]
    refine ⟨_, rfl, ν, rfl, hf, fun s' h => ?_⟩
    rw [hz] at h
    have e : s = s' := by injection h
    subst e
    exact ⟨hst, hs⟩
  | succ m =>
    have hc := (hv.2 k (by omega)).2
    rw [if_neg (by omega), ck_nI (by omega) (by decide), nI_clamp (by omega), hTν.2 k (by omega)]
    by_cases q : f k = 44 ∧ cE s = true
    · have hx : nx s (f k) = some 0 := by unfold nx; rw [if_pos q]
      rw [fwG_some hx] at hw
      rw [fsG_some hx] at hz
      unfold X4_takes
      rw [if_pos (show (nI (f k) : Int32) = 44 by rw [q.1]; rfl), canEnd_eq hs hst, bi_eq, if_pos q.2, if_neg one0, endItem_idle (idle_R hid hf), bi_eq, bn_eq, if_neg (by decide), nI_1]
      exact ih m _ _ (by omega) ⟨k + 1, k + 1, 0, by omega, rfl, by decide, setI_same _ _ _ _, rfl, frR_put (frR_put hf (by omega)) (by omega), hw, hz⟩
    · obtain ⟨ν', q8, e, hfT, hmt⟩ := takes_eq (μ := ν) (f := f) (a := a) (k := k) (by omega) hst hs hI q
      have hxn : nx s (f k) = tk s (f k) := by unfold nx; rw [if_neg q]
      rw [e, bn_eq]
      cases hx : tk s (f k) with
      | none =>
        rw [hx] at hmt hxn
        have q0 : q8 = 0 := hmt
        rw [q0, if_pos rfl, hw, fwG_none hxn]
        refine ⟨_, rfl, ν', rfl, frR_tr hf (frT_R hfT), fun s' h => ?_⟩
        rw [hz, fsG_none hxn] at h
        cases h
      | some s' =>
        rw [hx] at hmt hxn
        obtain ⟨q1, g1, g2, g3⟩ : q8 = 1 ∧ ν'.1 45 12 = nI s' ∧ IT f a (k + 1) (ν'.1 45) s' ∧ f k ≠ 44 := hmt
        rw [q1, if_neg (by decide), nI_1]
        rw [fwG_some hxn] at hw
        rw [fsG_some hxn] at hz
        exact ih m _ _ (by omega) ⟨k + 1, a, s', by omega, rfl, nx_lt hs (by omega) hxn, g1, g2, frR_tr hf (frT_R hfT), hw, hz⟩
/-- what a reading leaves alone -/
def frQ (μ ν : Mm) : Prop := ν.2 = μ.2 ∧ (∀ p, p ≠ 45 → ν.1 p = μ.1 p) ∧ ∀ j, j < 12 ∨ 23 ≤ j → ν.1 45 j = μ.1 45 j
theorem frQ_put {μ ν : Mm} (h : frQ μ ν) {k : Nat} {v : Int32} (hk : 12 ≤ k ∧ k ≤ 22) : frQ μ (setI ν 45 k v) := ⟨h.1, fun p hp => by rw [setI_n _ _ _ hp]; exact h.2.1 p hp, fun j hj => by rw [setI_ne _ _ _ _ (by omega)]; exact h.2.2 j hj⟩
theorem frQ_R {μ ν ξ : Mm} (h : frQ μ ν) (k : frR ν ξ) : frQ μ ξ := ⟨k.1.trans h.1, fun p hp => (k.2.1 p hp).trans (h.2.1 p hp), fun j hj => (k.2.2 j (by omega)).trans (h.2.2 j hj)⟩
theorem MI_Q {μ ν : Mm} {T : TT} (h : MI μ T) (k : frQ μ ν) : MI ν T := MI_same h (k.2.1 46 (by decide)) (k.2.1 48 (by decide)) (k.2.2 4 (by omega))
theorem TXm_Q {μ ν : Mm} {N : Nat} {f : Nat → Nat} (h : TXm μ N f) (k : frQ μ ν) : TXm ν N f := ⟨by rw [k.2.2 5 (by omega)]; exact h.1, fun j hj => by rw [k.2.1 49 (by decide)]; exact h.2 j hj⟩
theorem read0_eq {μ : Mm} {N : Nat} {f : Nat → Nat} (hv : TXv N f) (hT : TXm μ N f) : ∃ ν, X4_read 0 μ = some (nI (fwG f N 0 0), ν) ∧ frQ μ ν ∧ ∀ s', fsG f N 0 0 = some s' → ν.1 45 12 = nI s' ∧ s' < 12 := by
  have hf0 : frQ μ (setI (setI (setI (setI μ 45 12 0) 45 22 0) 45 20 0) 45 21 0) := frQ_put (frQ_put (frQ_put (frQ_put ⟨rfl, fun _ _ => rfl, fun _ _ => rfl⟩ (by omega)) (by omega)) (by omega)) (by omega)
  unfold X4_read
  rw [bd_eq, bd_eq, rz0, bd_eq, bd_eq]
  obtain ⟨r, e, ν, rfl, hR, hs⟩ := read_idle (v1 := 0) (μ := setI (setI (setI (setI μ 45 12 0) 45 22 0) 45 20 0) 45 21 0) hv (k0 := 0) (m0 := N) (s0 := 0) (a0 := 0) (by omega) (by decide) (by rw [s1 _ (by decide), s1 _ (by decide), s1 _ (by decide), setI_same]; rfl) rfl (Or.inl (by rw [s1 _ (by decide), setI_same])) (TXm_Q hT hf0) (n := big) (by have := hv.1; unfold big; omega)
  exact ⟨ν, e, frQ_R hf0 hR, hs⟩
/-! the adding methods: nothing but the row, its mark and the note -/
def frE (μ ν : Mm) : Prop := (∀ p, p ≠ 45 → p ≠ 46 → ν.1 p = μ.1 p) ∧ ∀ j, j ≠ 0 → j ≠ 4 → ν.1 45 j = μ.1 45 j
theorem frE_refl {μ : Mm} : frE μ μ := ⟨fun _ _ _ => rfl, fun _ _ _ => rfl⟩
theorem frE_46 {μ ν : Mm} (h : frE μ ν) {k : Nat} {v : Int32} : frE μ (setI ν 46 k v) := ⟨fun p h1 h2 => by rw [setI_n _ _ _ h2]; exact h.1 p h1 h2, fun j h1 h2 => by rw [setI_n _ _ _ (by decide)]; exact h.2 j h1 h2⟩
theorem frE_0 {μ ν : Mm} (h : frE μ ν) {v : Int32} : frE μ (setI ν 45 0 v) := ⟨fun p h1 h2 => by rw [setI_n _ _ _ h1]; exact h.1 p h1 h2, fun j h1 h2 => by rw [setI_ne _ _ _ _ h1]; exact h.2 j h1 h2⟩
theorem frE_4 {μ ν : Mm} (h : frE μ ν) {v : Int32} : frE μ (setI ν 45 4 v) := ⟨fun p h1 h2 => by rw [setI_n _ _ _ h1]; exact h.1 p h1 h2, fun j h1 h2 => by rw [setI_ne _ _ _ _ h2]; exact h.2 j h1 h2⟩
def Al (x : Option (Int32 × Mm)) (P : Mm → Prop) : Prop := ∀ v ν, x = some (v, ν) → P ν
section ALL
variable {P : Mm → Prop}
theorem Al_some {v : Int32} {ν : Mm} (h : P ν) : Al (some (v, ν)) P := fun v' ν' e => by
  injection e with e
  injection e with e1 e2
  rw [← e2]
  exact h
theorem Al_ck {i : Int32} {n : Nat} {k : Option (Int32 × Mm)} (h : Al k P) : Al (ck i n k) P := fun v ν e => h v ν (ck_some e).2
theorem Al_bd {α : Type} {x : α} {k : α → Option (Int32 × Mm)} (h : Al (k x) P) : Al (bd x k) P := h
theorem Al_bi {α : Type} {x : Option α} {k : α → Option (Int32 × Mm)} (h : ∀ v, Al (k v) P) : Al (x.bind k) P := fun v ν e => by
  obtain ⟨y, -, e2⟩ := bi_some e
  exact h y v ν e2
theorem Al_ite {c : Prop} {d : Decidable c} {a b : Option (Int32 × Mm)} (h1 : Al a P) (h2 : Al b P) : Al (@ite _ c d a b) P := fun v ν e => by
  by_cases q : c
  · rw [if_pos q] at e; exact h1 v ν e
  · rw [if_neg q] at e; exact h2 v ν e
theorem Al_bn {x : Option (Int32 × Mm)} {Q : Mm → Prop} {k : Int32 → Mm → Option (Int32 × Mm)} (hx : Al x Q) (h : ∀ v ν, Q ν → Al (k v ν) P) : Al (bn x k) P := fun v ν e => by
  obtain ⟨y, ξ, e1, e2⟩ := bn_some e
  exact h y ξ (hx y ξ e1) v ν e2
end ALL
section ADD
variable {μ0 μ : Mm}
theorem alE_addScope (h : frE μ0 μ) (x : Int32) : Al (X4_addScope x μ) (frE μ0) := by
  unfold X4_addScope X4_addScope_j29
  with_reducible
    repeat' first
      | exact h
      | apply Al_ck
      | apply Al_bd
      | apply Al_ite
      | (apply Al_bi; intro _)
      | apply Al_some
      | apply frE_46
      | apply frE_0
      | apply frE_4
theorem alE_declare (h : frE μ0 μ) (x y p : Int32) : Al (X4_declare x y p μ) (frE μ0) := by
  unfold X4_declare X4_declare_j30 X4_declare_j50
  with_reducible
    repeat' first
      | exact h
      | apply Al_ck
      | apply Al_bd
      | apply Al_ite
      | (apply Al_bi; intro _)
      | apply Al_some
      | apply frE_46
      | apply frE_0
      | apply frE_4
theorem alE_use (h : frE μ0 μ) (x y : Int32) : Al (X4_use x y μ) (frE μ0) := by
  unfold X4_use X4_use_j40
  with_reducible
    repeat' first
      | exact h
      | apply Al_ck
      | apply Al_bd
      | apply Al_ite
      | (apply Al_bi; intro _)
      | apply Al_some
      | apply frE_46
      | apply frE_0
      | apply frE_4
theorem alE_addImport (h : frE μ0 μ) (a b c d e g : Int32) : Al (X4_addImport a b c d e g μ) (frE μ0) := by
  unfold X4_addImport
  with_reducible
    repeat' first
      | exact h
      | apply Al_ck
      | apply Al_bd
      | apply Al_ite
      | (apply Al_bi; intro _)
      | apply Al_some
      | apply frE_46
      | apply frE_0
      | apply frE_4
theorem alE_impTail (h : frE μ0 μ) {s0 a b c d e g : Int32} : Al (bd (setI μ 45 0 s0) fun μ5 => (if (μ5.1 45 0) ≤ 0 then (bn (X4_addImport a b c d e g μ5) fun q7 μ8 => some (q7, μ8)) else some (0, μ5))) (frE μ0) := by
  apply Al_bd
  apply Al_ite
  · exact Al_bn (alE_addImport (frE_0 h) _ _ _ _ _ _) (fun v ν hq => Al_some hq)
  · exact Al_some (frE_0 h)
theorem alE_importAll (h : frE μ0 μ) (x y v p : Int32) : Al (X4_importAll x y v p μ) (frE μ0) := by
  unfold X4_importAll
  apply Al_bi; intro _
  apply Al_bi; intro _
  exact alE_impTail h
theorem alE_importOne (h : frE μ0 μ) (x y s l p : Int32) : Al (X4_importOne x y s l p μ) (frE μ0) := by
  unfold X4_importOne X4_importOne_j23 X4_importOne_j24
  apply Al_bi; intro _
  apply Al_ite
  · apply Al_bi; intro _
    exact alE_impTail h
  · apply Al_bi; intro _
    apply Al_bi; intro _
    exact alE_impTail h
end ADD
