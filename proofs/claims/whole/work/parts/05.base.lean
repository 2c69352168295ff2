/-! ===== the abstract memory: 55 cells by their places; ints by place and index; now, other; the long h; the long out[0] ===== -/
abbrev vwCl : List vw_C := [(RX0, TX0, 18), (RX1, TX1, 6), (RX2, TX2, 2), (RX3, TX3, 3), (RX4, TX4, 26)]
abbrev Mm : Type := (Nat → Nat → Int32) × (Nat × Nat) × (Int64 × Int64)
def mNow (μ : Mm) : Nat := μ.2.1.1
def mOth (μ : Mm) : Nat := μ.2.1.2
def mH (μ : Mm) : Int64 := μ.2.2.1
def mOut (μ : Mm) : Int64 := μ.2.2.2
def setA (μ : Mm) (a : Nat) (f : Nat → Int32) : Mm := (fun b => if b = a then f else μ.1 b, μ.2)
def setI (μ : Mm) (a k : Nat) (v : Int32) : Mm := setA μ a (upd (μ.1 a) k v)
def setNow (μ : Mm) (x : Nat) : Mm := (μ.1, (x, μ.2.1.2), μ.2.2)
def setOth (μ : Mm) (x : Nat) : Mm := (μ.1, (μ.2.1.1, x), μ.2.2)
def setH (μ : Mm) (x : Int64) : Mm := (μ.1, μ.2.1, (x, μ.2.2.2))
def setOut (μ : Mm) (x : Int64) : Mm := (μ.1, μ.2.1, (μ.2.2.1, x))
def isF (a : Nat) : Prop := a = 3 ∨ a = 24
def isL (a : Nat) : Prop := a = 17 ∨ a = 38
def WF (μ : Mm) : Prop := isF (mNow μ) ∧ isF (mOth μ)
/-- what lies at a place: (0, n) ints, n of them; (1, c) an object of the class c; (2, 1) the long row -/
def kdL : List (Nat × Nat) := [(1, 3), (1, 2), (0, 50),
  (1, 0), (0, 16), (0, 30), (0, 30), (0, 30), (0, 20), (0, 20), (0, 20), (0, 20), (0, 20), (0, 20), (0, 30), (0, 30), (0, 20), (1, 1), (0, 416), (0, 416), (0, 416), (0, 416), (0, 16), (0, 16),
  (1, 0), (0, 16), (0, 30), (0, 30), (0, 30), (0, 20), (0, 20), (0, 20), (0, 20), (0, 20), (0, 20), (0, 30), (0, 30), (0, 20), (1, 1), (0, 416), (0, 416), (0, 416), (0, 416), (0, 16), (0, 16),
  (1, 4), (0, 290), (0, 290), (0, 416), (0, 50), (0, 48), (0, 48), (0, 48), (0, 30), (2, 1)]
def kd (a : Nat) : Nat × Nat := kdL.getD a (9, 0)
def alen (a : Nat) : Nat := (kd a).2
def flM (ad : Nat → Nat) (μ : Mm) (ci a : Nat) : List Value := match ci with
  | 0 => [.int (μ.1 a 0), .ref (ad (a + 1)), .int (μ.1 a 2), .ref (ad (a + 2)), .ref (ad (a + 3)), .ref (ad (a + 4)), .int (μ.1 a 6), .ref (ad (a + 5)), .ref (ad (a + 6)), .ref (ad (a + 7)), .ref (ad (a + 8)), .ref (ad (a + 9)), .ref (ad (a + 10)), .int (μ.1 a 13), .ref (ad (a + 11)), .ref (ad (a + 12)), .ref (ad (a + 13)), .ref (ad (a + 14))]
  | 1 => [.ref (ad (a + 1)), .ref (ad (a + 2)), .ref (ad (a + 3)), .ref (ad (a + 4)), .ref (ad (a + 5)), .ref (ad (a + 6))]
  | 2 => [.ref (ad (a + 1)), .int (μ.1 a 1)]
  | 3 => [.ref (ad (a + 1)), .ref (ad (mNow μ)), .ref (ad (mOth μ))]
  | _ => [.int (μ.1 a 0), .ref (ad (a + 1)), .ref (ad (a + 2)), .ref (ad (a + 3)), .int (μ.1 a 4), .int (μ.1 a 5), .ref (ad (a + 4)), .int (μ.1 a 7), .ref (ad (a + 5)), .ref (ad (a + 6)), .ref (ad (a + 7)), .ref (ad (a + 8)), .int (μ.1 a 12), .int (μ.1 a 13), .int (μ.1 a 14), .int (μ.1 a 15), .int (μ.1 a 16), .int (μ.1 a 17), .int (μ.1 a 18), .int (μ.1 a 19), .int (μ.1 a 20), .int (μ.1 a 21), .int (μ.1 a 22), .int (μ.1 a 23), .int (μ.1 a 24), .long (mH μ)]
def ceM (cI cL : ClassId) (ad : Nat → Nat) (μ : Mm) (a : Nat) : va_E := if (kd a).1 = 0 then .inl (cI, (kd a).2, .inl (μ.1 a)) else if (kd a).1 = 1 then .inr ((kd a).2, flM ad μ (kd a).2 a) else .inl (cL, 1, .inr (.inl (fun j => if j = 0 then mOut μ else 0)))
def wsM (cI cL : ClassId) (ad : Nat → Nat) (μ : Mm) : va_W := (List.range 55).map (fun a => (ad a, ceM cI cL ad μ a))
theorem kd_lt {a : Nat} {p : Nat × Nat} (h : kd a = p) (hp : p.1 < 9) : a < 55 := by
  rcases Nat.lt_or_ge a 55 with q | q
  · exact q
  · have h1 : kd a = (9, 0) := by
      unfold kd
      rw [List.getD_eq_getElem?_getD, List.getElem?_eq_none (by show 55 ≤ a; exact q)]
      rfl
    rw [h1] at h
    subst h
    exact absurd hp (by decide)
theorem wsM_at {cI cL : ClassId} {ad : Nat → Nat} {μ : Mm} {a : Nat} (h : a < 55) : (wsM cI cL ad μ)[a]? = some (ad a, ceM cI cL ad μ a) := by
  simp [wsM, h]
theorem wsM_none {cI cL : ClassId} {ad : Nat → Nat} {μ : Mm} {a : Nat} (h : ¬ a < 55) : (wsM cI cL ad μ)[a]? = none := by
  simp [wsM]; omega
theorem wsM_get {cI cL : ClassId} {ad : Nat → Nat} {μ : Mm} {a : Nat} {q : Nat × va_E} (h : (wsM cI cL ad μ)[a]? = some q) : a < 55 ∧ q = (ad a, ceM cI cL ad μ a) := by
  by_cases ha : a < 55
  · rw [wsM_at ha] at h
    exact ⟨ha, (Option.some.inj h).symm⟩
  · rw [wsM_none ha] at h
    cases h
theorem ce_arr {cI cL : ClassId} {ad : Nat → Nat} {μ : Mm} {a n : Nat} (h : kd a = (0, n)) : ceM cI cL ad μ a = .inl (cI, n, .inl (μ.1 a)) := by simp [ceM, h]
theorem ce_obj {cI cL : ClassId} {ad : Nat → Nat} {μ : Mm} {a ci : Nat} (h : kd a = (1, ci)) : ceM cI cL ad μ a = .inr (ci, flM ad μ ci a) := by simp [ceM, h]
theorem ce_lng {cI cL : ClassId} {ad : Nat → Nat} {μ : Mm} {a n : Nat} (h : kd a = (2, n)) : ceM cI cL ad μ a = .inl (cL, 1, .inr (.inl (fun j => if j = 0 then mOut μ else 0))) := by simp [ceM, h]
theorem ws_arr {cI cL : ClassId} {ad : Nat → Nat} {μ : Mm} {a n : Nat} (h : kd a = (0, n)) : (wsM cI cL ad μ)[a]? = some (ad a, .inl (cI, n, .inl (μ.1 a))) := by rw [wsM_at (kd_lt h (show 0 < 9 by decide)), ce_arr h]
theorem ws_obj {cI cL : ClassId} {ad : Nat → Nat} {μ : Mm} {a ci : Nat} (h : kd a = (1, ci)) : (wsM cI cL ad μ)[a]? = some (ad a, .inr (ci, flM ad μ ci a)) := by rw [wsM_at (kd_lt h (show 1 < 9 by decide)), ce_obj h]
theorem ws_lng {cI cL : ClassId} {ad : Nat → Nat} {μ : Mm} {a n : Nat} (h : kd a = (2, n)) : (wsM cI cL ad μ)[a]? = some (ad a, .inl (cL, 1, .inr (.inl (fun j => if j = 0 then mOut μ else 0)))) := by rw [wsM_at (kd_lt h (show 2 < 9 by decide)), ce_lng h]
theorem wsM_upd {cI cL : ClassId} {ad : Nat → Nat} {μ μ' : Mm} {a : Nat} {e : va_E} (ha : a < 55) (he : e = ceM cI cL ad μ' a) (h : ∀ b, b < 55 → b ≠ a → ceM cI cL ad μ' b = ceM cI cL ad μ b) : (wsM cI cL ad μ).set a (ad a, e) = wsM cI cL ad μ' := by
  subst he
  apply List.ext_getElem?
  intro i
  by_cases hi : i < 55
  · rw [wsM_at hi]
    by_cases hia : i = a
    · subst hia
      rw [List.getElem?_set_self (by simp [wsM]; exact hi)]
    · rw [List.getElem?_set_ne (Ne.symm hia), wsM_at hi, h i hi hia]
  · rw [wsM_none hi]
    have : ¬ i < ((wsM cI cL ad μ).set a (ad a, ceM cI cL ad μ' a)).length := by simp [wsM]; omega
    exact List.getElem?_eq_none (Nat.le_of_not_lt this)
theorem setA_1 (μ : Mm) (a : Nat) (f : Nat → Int32) : (setA μ a f).1 a = f := by simp [setA]
theorem setA_ne (μ : Mm) {a b : Nat} (f : Nat → Int32) (h : b ≠ a) : (setA μ a f).1 b = μ.1 b := by simp [setA, h]
theorem fl_congr {ad : Nat → Nat} {μ μ' : Mm} {ci a : Nat} (h1 : μ'.1 a = μ.1 a) (h2 : μ'.2 = μ.2) : flM ad μ' ci a = flM ad μ ci a := by
  unfold flM mNow mOth mH
  rw [h1, h2]
theorem ce_congr {cI cL : ClassId} {ad : Nat → Nat} {μ μ' : Mm} {a : Nat} (h1 : μ'.1 a = μ.1 a) (h2 : μ'.2 = μ.2) : ceM cI cL ad μ' a = ceM cI cL ad μ a := by
  unfold ceM mOut
  rw [h1, h2, fl_congr h1 h2]
theorem ws_setA {cI cL : ClassId} {ad : Nat → Nat} {μ : Mm} {a n : Nat} {f : Nat → Int32} (h : kd a = (0, n)) : (wsM cI cL ad μ).set a (ad a, .inl (cI, n, .inl f)) = wsM cI cL ad (setA μ a f) :=
  wsM_upd (kd_lt h (show 0 < 9 by decide)) (by rw [ce_arr h, setA_1]) (fun b _ hb => ce_congr (setA_ne μ f hb) rfl)
theorem ws_setF {cI cL : ClassId} {ad : Nat → Nat} {μ : Mm} {a ci k : Nat} {v : Int32} (h : kd a = (1, ci)) (hf : flM ad (setI μ a k v) ci a = (flM ad μ ci a).set k (.int v)) : (wsM cI cL ad μ).set a (ad a, .inr (ci, (flM ad μ ci a).set k (.int v))) = wsM cI cL ad (setI μ a k v) :=
  wsM_upd (kd_lt h (show 1 < 9 by decide)) (by rw [ce_obj h, hf]) (fun b _ hb => ce_congr (setA_ne μ _ hb) rfl)
theorem ce_other {cI cL : ClassId} {ad : Nat → Nat} {μ μ' : Mm} {a : Nat} (hc : ∀ b c, kd b = (1, c) → b ≠ a → flM ad μ' c b = flM ad μ c b) (h1 : μ'.1 = μ.1) (h2 : mOut μ' = mOut μ) : ∀ b, b < 55 → b ≠ a → ceM cI cL ad μ' b = ceM cI cL ad μ b := by
  intro b _ hb
  unfold ceM
  rw [h1, h2]
  by_cases q0 : (kd b).1 = 0
  · rw [if_pos q0, if_pos q0]
  · rw [if_neg q0, if_neg q0]
    by_cases q1 : (kd b).1 = 1
    · rw [if_pos q1, if_pos q1, hc b (kd b).2 (by rw [← q1]) hb]
    · rw [if_neg q1, if_neg q1]
theorem kd_3 : ∀ b, b < 55 → (kd b).1 = 1 → (kd b).2 = 3 → b = 0 := by decide +kernel
theorem kd_4 : ∀ b, b < 55 → (kd b).1 = 1 → 4 ≤ (kd b).2 → b = 45 := by decide +kernel
theorem kd_5 : ∀ b, b < 55 → (kd b).1 = 1 → (kd b).2 ≤ 4 := by decide +kernel
theorem kd_6 : ∀ b, b < 55 → (kd b).1 = 2 → b = 54 := by decide +kernel
theorem kdF {a : Nat} (h : isF a) : kd a = (1, 0) := by rcases h with rfl | rfl <;> rfl
theorem kdL_ {a : Nat} (h : isL a) : kd a = (1, 1) := by rcases h with rfl | rfl <;> rfl
theorem kdFk {a k n : Nat} (h : isF a) (h3 : kd (3 + k) = (0, n)) (h24 : kd (24 + k) = (0, n)) : kd (a + k) = (0, n) := by
  rcases h with rfl | rfl
  · exact h3
  · exact h24
theorem kdLk {a k n : Nat} (h : isL a) (h3 : kd (17 + k) = (0, n)) (h24 : kd (38 + k) = (0, n)) : kd (a + k) = (0, n) := by
  rcases h with rfl | rfl
  · exact h3
  · exact h24
theorem isFL {a : Nat} (h : isF a) : isL (a + 14) := by
  rcases h with rfl | rfl
  · exact Or.inl rfl
  · exact Or.inr rfl
/-- the words that go along with every contract -/
def WS : List Cond := lw_tbl.filter goodWord
theorem memT {w : Cond} (i : Nat) (h : tables_1[i]? = some w) (g : goodWord w = true) : w ∈ WS := List.mem_filter.mpr ⟨List.mem_append_right _ (List.mem_of_getElem? h), g⟩
theorem memP {w : Cond} (i : Nat) (h : (k2_sels lw_privs)[i]? = some w) (g : goodWord w = true) : w ∈ WS := List.mem_filter.mpr ⟨List.mem_append_left _ (List.mem_of_getElem? h), g⟩
theorem good_WS {w : Cond} (h : w ∈ WS) : (w.onTables && w.keeps) = true ∨ ∃ ty, w = .arrayClass ty := good_of_word (List.mem_filter.mp h).2
theorem goodIn_WS {ws : List Cond} (h : ∀ w ∈ ws, w ∈ WS) : GoodIn WS ws := fun w hw => ⟨h w hw, good_WS (h w hw)⟩
/-- the words that need premises of their own -/
def isNw (w : Cond) : Bool := match w with
  | .fieldLinkNest .. => true
  | .methodLinkNest .. => true
  | .castable .. => true
  | .declares .. => true
  | _ => false
def NW : List Cond := tables_1.filter isNw
theorem memN {w : Cond} (i : Nat) (h : tables_1[i]? = some w) (g : isNw w = true) : w ∈ NW := List.mem_filter.mpr ⟨List.mem_of_getElem? h, g⟩
theorem Nw_on {w : Cond} (h : w ∈ NW) : w.onTables = true := by
  have := (List.mem_filter.mp h).2
  cases w <;> first | rfl | simp [isNw] at this
theorem Nw_warm {w : Cond} (h : w ∈ NW) {s U : State} (hW : s.WarmedH U.vm) (hs : va_Nw w s) : va_Nw w U := by
  have := (List.mem_filter.mp h).2
  cases w <;> first | exact va_Nw.warmF hW hs | exact va_Nw.warmM hW hs | exact va_Nw.warmC hW hs | exact va_Nw.warmD hW hs | simp [isNw] at this
def SW : List (String × Nat × String) := tables_1.filterMap (fun w => match w with
  | .stringRef a b c => some (a, b, c)
  | _ => none)
def GL (A : Nat → Prop) (U : State) (H : Heap) : Prop := (∀ w ∈ NW, va_Nw w U) ∧ (∀ q ∈ SW, ∃ sa, vk_R q.1 q.2.1 q.2.2 sa U) ∧ vx_Zq Bundle.tN "UNASSIGNED_STACK" Bundle.steD A U H ∧ vx_Zq Bundle.tN "SUPPRESSED_SENTINEL" Bundle.listD A U H
theorem GL.warm {A : Nat → Prop} {s U : State} {H : Heap} (hW : s.WarmedH U.vm) (h : GL A s H) : GL A U H :=
  ⟨fun w hw => Nw_warm hw hW (h.1 w hw), fun q hq => by obtain ⟨sa, h1⟩ := h.2.1 q hq; exact ⟨sa, vk_R.warm hW h1⟩, vx_Zq.moved hW.alike h.2.2.1, vx_Zq.moved hW.alike h.2.2.2⟩
theorem GL.same {A : Nat → Prop} {s U : State} {H : Heap} (hv : s.vm = U.vm) (h : GL A s H) : GL A U H :=
  ⟨fun w hw => va_Nw.same (Nw_on hw) hv (h.1 w hw), fun q hq => by obtain ⟨sa, h1⟩ := h.2.1 q hq; exact ⟨sa, vk_R.same hv.symm h1⟩, vx_Zq.moved (by rw [hv]; exact Vm.Alike.refl _) h.2.2.1, vx_Zq.moved (by rw [hv]; exact Vm.Alike.refl _) h.2.2.2⟩
theorem GL.kept {A : Nat → Prop} {s : State} {H H1 : Heap} (hq : ∀ a : Nat, a < H.size → ¬ A a → H1[a]? = H[a]?) (h : GL A s H) : GL A s H1 := ⟨h.1, h.2.1, vx_Zq.kept h.2.2.1 hq, vx_Zq.kept h.2.2.2 hq⟩
theorem GL.narrow {A B : Nat → Prop} {s : State} {H : Heap} (hAB : ∀ q, B q → A q) (h : GL A s H) : GL B s H := ⟨h.1, h.2.1, vx_Zq.narrow h.2.2.1 hAB, vx_Zq.narrow h.2.2.2 hAB⟩
/-- the cells that a method may change -/
def AA (ad : Nat → Nat) (sz : Nat) : Nat → Prop := fun q => (∃ k, k < 55 ∧ q = ad k) ∨ sz ≤ q
