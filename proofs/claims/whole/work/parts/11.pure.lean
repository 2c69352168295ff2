/-! ===== the words of the pure functions that the printed bytecode is tied to ===== -/
abbrev xI : String := "java/lang/IndexOutOfBoundsException"
abbrev xA : String := "java/lang/IllegalArgumentException"
abbrev xS : String := "java/lang/IllegalStateException"
def bd {α β : Type} (x : α) (k : α → Option β) : Option β := k x
theorem bd_some {α β : Type} {x : α} {k : α → Option β} {r : β} (h : bd x k = some r) : ∃ y, y = x ∧ k y = some r := ⟨x, rfl, h⟩
def inb (i : Int32) (n : Nat) : Bool := decide (0 ≤ i.toInt) && decide (i.toInt < n)
def ck {β : Type} (i : Int32) (n : Nat) (k : Option β) : Option β := if inb i n = true then k else none
theorem ck_some {β : Type} {i : Int32} {n : Nat} {k : Option β} {r : β} (h : ck i n k = some r) : vp_in i n ∧ k = some r := by
  unfold ck at h
  by_cases q : inb i n = true
  · rw [if_pos q] at h
    unfold inb at q
    rw [Bool.and_eq_true, decide_eq_true_eq, decide_eq_true_eq] at q
    exact ⟨vp_in_iff.mpr q, h⟩
  · rw [if_neg q] at h
    cases h
def rz {β : Type} (v : Int32) (k : Option β) : Option β := if v = 0 ∨ v = 1 then k else none
def b01 (v : Int32) : Prop := v = 0 ∨ v = 1
theorem b01_0 : b01 0 := Or.inl rfl
theorem b01_1 : b01 1 := Or.inr rfl
theorem b01_ite {c : Prop} {dc : Decidable c} {a b : Int32} (ha : b01 a) (hb : b01 b) : b01 (@ite _ c dc a b) := by
  by_cases h : c
  · rw [if_pos h]; exact ha
  · rw [if_neg h]; exact hb
theorem b01_nar {v : Int32} (h : b01 v) : narrow .boolean (.int v) = .int v := by rcases h with rfl | rfl <;> decide
theorem b01_fit {v : Int32} (h : b01 v) : fits .boolean (.int v) = true := by rcases h with rfl | rfl <;> decide
theorem rz_some {β : Type} {v : Int32} {k : Option β} {r : β} (h : rz v k = some r) : b01 v ∧ k = some r := by
  unfold rz at h
  by_cases q : v = 0 ∨ v = 1
  · rw [if_pos q] at h; exact ⟨q, h⟩
  · rw [if_neg q] at h; cases h
def cg {β : Type} (sp dp n : Int32) (n0 n1 : Nat) (k : Option β) : Option β := if ¬ sp < 0 ∧ ¬ dp < 0 ∧ ¬ n < 0 ∧ sp.toNatClampNeg + n.toNatClampNeg ≤ n0 ∧ dp.toNatClampNeg + n.toNatClampNeg ≤ n1 then k else none
theorem cg_some {β : Type} {sp dp n : Int32} {n0 n1 : Nat} {k : Option β} {r : β} (h : cg sp dp n n0 n1 k = some r) : (¬ sp < 0 ∧ ¬ dp < 0 ∧ ¬ n < 0 ∧ sp.toNatClampNeg + n.toNatClampNeg ≤ n0 ∧ dp.toNatClampNeg + n.toNatClampNeg ≤ n1) ∧ k = some r := by
  unfold cg at h
  by_cases q : ¬ sp < 0 ∧ ¬ dp < 0 ∧ ¬ n < 0 ∧ sp.toNatClampNeg + n.toNatClampNeg ≤ n0 ∧ dp.toNatClampNeg + n.toNatClampNeg ≤ n1
  · rw [if_pos q] at h; exact ⟨q, h⟩
  · rw [if_neg q] at h; cases h
/-- no NaN: what a double's answer must be -/
def nn {β : Type} (x : UInt64) (k : Option β) : Option β := if x &&& 0x7fffffffffffffff ≤ 0x7ff0000000000000 then k else none
theorem nn_some {β : Type} {x : UInt64} {k : Option β} {r : β} (h : nn x k = some r) : vf_n64 x ∧ k = some r := by
  unfold nn at h
  by_cases q : x &&& 0x7fffffffffffffff ≤ 0x7ff0000000000000
  · rw [if_pos q] at h; exact ⟨q, h⟩
  · rw [if_neg q] at h; cases h
def thr {α β : Type} (x : String ⊕ α) (f : String → Option β) (g : α → Option β) : Option β := match x with
  | .inl e => f e
  | .inr v => g v
theorem thr_l {α β : Type} {e : String} {f : String → Option β} {g : α → Option β} : thr (.inl e) f g = f e := rfl
theorem thr_r {α β : Type} {v : α} {f : String → Option β} {g : α → Option β} : thr (.inr v) f g = g v := rfl
def bn {α β : Type} (x : Option (α × Mm)) (k : α → Mm → Option β) : Option β := match x with
  | some (v, μ) => k v μ
  | none => none
theorem bn_some {α β : Type} {x : Option (α × Mm)} {k : α → Mm → Option β} {r : β} (h : bn x k = some r) : ∃ v μ, x = some (v, μ) ∧ k v μ = some r := by
  match x, h with
  | some (v, μ), h => exact ⟨v, μ, rfl, h⟩
theorem bi_some {α β : Type} {x : Option α} {k : α → Option β} {r : β} (h : x.bind k = some r) : ∃ v, x = some v ∧ k v = some r := by
  match x, h with
  | some v, h => exact ⟨v, rfl, h⟩
def itr {α : Type} (F : α → α) (bot : α) (n : Nat) : α := Nat.rec bot (fun _ k => F k) n
theorem itr_0 {α : Type} {F : α → α} {bot : α} : itr F bot 0 = bot := rfl
theorem itr_s {α : Type} {F : α → α} {bot : α} {n : Nat} : itr F bot (n + 1) = F (itr F bot n) := rfl
/-- how often a loop may turn: far beyond what any run needs -/
def big : Nat := 99999
def rsI (x : String ⊕ Int32) : Rs := match x with
  | .inl e => .inl e
  | .inr v => .inr (some (.int v))
def rsU (x : String ⊕ Unit) : Rs := match x with
  | .inl e => .inl e
  | .inr _ => .inr none
def rsL (x : String ⊕ Int64) : Rs := match x with
  | .inl e => .inl e
  | .inr v => .inr (some (.long v))
def rsD (x : String ⊕ UInt64) : Rs := match x with
  | .inl e => .inl e
  | .inr v => .inr (some (.double v))
theorem isArr_of {a n : Nat} (h : kd a = (0, n)) : kd a = (0, alen a) := by unfold alen; rw [h]
abbrev AV (l : Launch) (p : Program) (e : Env) (s : State) (m : MethodId) (args : Array Value) (below : List Frame) (meth : Method) (c : Code) (D : va_G) (cI cL : ClassId) (ad : Nat → Nat) (d nL : Nat) (r : Rs) (μ' : Mm) (pc : Nat) (lv : List (Nat × Value)) (st : List Value) (μ : Mm) : Prop :=
  AW p l e (rmA d (mcR r) (msR r)) s m args below meth c nL D cI cL ad (AA ad s.heap.size) 0 0 (QX D cI cL ad r μ' below args s) pc lv st μ
theorem CX.tr {p : Program} {l : Launch} {s : State} {m : MethodId} {args : Array Value} {meth : Method} {c : Code} {own : String} {b : ByteArray} {nL : Nat} {ret : Option FieldType} {D : va_G} {cI cL : ClassId} {A : Nat → Prop} (C : CX p l s m args meth c own b nL ret D cI cL A) : l.stackTraces = false := C.2.2.2.2.2.2.2.2.2.2
theorem ite_T {α : Type} {c : Prop} {dc : Decidable c} {a b r : α} (h : (@ite _ c dc a b) = r) (q : c) : a = r := by rw [if_pos q] at h; exact h
theorem ite_F {α : Type} {c : Prop} {dc : Decidable c} {a b r : α} (h : (@ite _ c dc a b) = r) (q : ¬ c) : b = r := by rw [if_neg q] at h; exact h
theorem inX0 : ∀ w ∈ u_ws RX0 TX0 18, w ∈ WS := by decide +kernel
theorem inX1 : ∀ w ∈ u_ws RX1 TX1 6, w ∈ WS := by decide +kernel
theorem inX2 : ∀ w ∈ u_ws RX2 TX2 2, w ∈ WS := by decide +kernel
theorem inX4 : ∀ w ∈ u_ws RX4 TX4 26, w ∈ WS := by decide +kernel
theorem sw_ne {x k : Int32} {i : Int} (h : ¬ x = k) (hk : k.toInt = i) : ¬ x.toInt = i := fun q => h (Int32.toInt_inj.mp (q.trans hk.symm))
