/-! ===== contracts over the abstract memory, and one row an instruction ===== -/
def RepA (D : va_G) (cI cL : ClassId) (ad : Nat → Nat) (A : Nat → Prop) (H0 : Heap) (μ : Mm) (H : Heap) (locs : List Loc) : Prop := va_P D vwCl (wsM cI cL ad μ) H ∧ va_D A (wsM cI cL ad μ) ∧ va_S A H0 H locs ∧ WF μ
def AW (p : Program) (l : Launch) (e : Env) (R : Room) (s : State) (m : MethodId) (args : Array Value) (below : List Frame) (meth : Method) (c : Code) (nL : Nat) (D : va_G) (cI cL : ClassId) (ad : Nat → Nat) (A : Nat → Prop) (cs sl : Nat) (Q : State → Prop) (pc : Nat) (lv : List (Nat × Value)) (st : List Value) (μ : Mm) : Prop :=
  ∀ (H : Heap) (locs : List Loc) (ls : Array Slot), RepA D cI cL ad A s.heap μ H locs → lv_has ls nL lv → W p l e R s m args below meth c H locs cs sl Q (F0 m pc ls st)
def CX (p : Program) (l : Launch) (s : State) (m : MethodId) (args : Array Value) (meth : Method) (c : Code) (own : String) (b : ByteArray) (nL : Nat) (ret : Option FieldType) (D : va_G) (cI cL : ClassId) (A : Nat → Prop) : Prop :=
  p.tables.exec = Jvm.exec ∧ c.code = b ∧ c.maxLocals = nL ∧ s.vm.findClass own = some m.cls ∧ (∀ w ∈ WS, w.before args s = true) ∧ meth.locks = false ∧ meth.sig.returnType = ret ∧ va_K D vwCl [(cI, .int), (cL, .long)] s ∧ GL A s s.heap ∧ (∀ q, s.heap.size ≤ q → A q) ∧ l.stackTraces = false
def rmA (d mc ms : Nat) : Room := { frames := d, cells := mc, slots := ms, locals := 31 * d }
abbrev Rs : Type := String ⊕ Option Value
def mcR (r : Rs) : Nat := match r with
  | .inl _ => 1
  | .inr _ => 0
def msR (r : Rs) : Nat := match r with
  | .inl _ => 6
  | .inr _ => 0
def WSy (y : MethodName) (b : ByteArray) (nL : Nat) (ret : Option FieldType) : List Cond := Cond.code y b nL ret :: WS
def PcA (D : va_G) (cI cL : ClassId) (ad : Nat → Nat) (As : List Value) (μ : Mm) (sz : Nat) : Array Value → State → Prop :=
  va_Pc As (fun U => U.heap.size = sz ∧ va_P D vwCl (wsM cI cL ad μ) U.heap ∧ va_K D vwCl [(cI, .int), (cL, .long)] U ∧ va_D (AA ad sz) (wsM cI cL ad μ) ∧ WF μ ∧ GL (AA ad sz) U U.heap)
def QcX (D : va_G) (cI cL : ClassId) (ad : Nat → Nat) (r : Rs) (μ' : Mm) (sz : Nat) : Array Value → State → Outcome → State → Prop := fun _ st o t =>
  ∃ v, r = .inr v ∧ o = .returned v ∧ va_P D vwCl (wsM cI cL ad μ') t.heap ∧ WF μ' ∧ va_F (AA ad sz) st t
def XcX (D : va_G) (cI cL : ClassId) (ad : Nat → Nat) (r : Rs) (μ' : Mm) (sz : Nat) : String → State → State → Prop := fun E st t =>
  r = .inl E ∧ va_P D vwCl (wsM cI cL ad μ') t.heap ∧ WF μ' ∧ va_F (AA ad sz) st t
def QX (D : va_G) (cI cL : ClassId) (ad : Nat → Nat) (r : Rs) (μ' : Mm) (below : List Frame) (args : Array Value) (s : State) : State → Prop :=
  vx_MQ below (QcX D cI cL ad r μ' s.heap.size) (XcX D cI cL ad r μ' s.heap.size) args s (mcR r) (msR r) (AA ad s.heap.size)
def MetX (l : Launch) (y : MethodName) (b : ByteArray) (nL : Nat) (ret : Option FieldType) (d : Nat) (As : (Nat → Nat) → List Value) (μ : Mm) (r : Rs) (μ' : Mm) : Prop :=
  ∀ (D : va_G) (cI cL : ClassId) (ad : Nat → Nat) (sz : Nat), vx_Met l y (WSy y b nL ret) (rmA d (mcR r) (msR r)) (PcA D cI cL ad (As ad) μ sz) (QcX D cI cL ad r μ' sz) (XcX D cI cL ad r μ' sz) (mcR r) (msR r) (AA ad sz)
theorem D_wsM {A : Nat → Prop} {cI cL : ClassId} {ad : Nat → Nat} {μ μ' : Mm} (h : va_D A (wsM cI cL ad μ)) : va_D A (wsM cI cL ad μ') := by
  refine ⟨fun i j p q hp hq he => ?_, fun k q hq => ?_⟩
  · obtain ⟨h1, rfl⟩ := wsM_get hp
    obtain ⟨h2, rfl⟩ := wsM_get hq
    exact h.1 i j _ _ (wsM_at h1) (wsM_at h2) he
  · obtain ⟨h1, rfl⟩ := wsM_get hq
    exact h.2 k (ad k, ceM cI cL ad μ k) (wsM_at h1)
theorem D_AA {A : Nat → Prop} {cI cL : ClassId} {ad : Nat → Nat} {μ : Mm} {sz : Nat} (h : va_D A (wsM cI cL ad μ)) : va_D (AA ad sz) (wsM cI cL ad μ) := by
  refine ⟨h.1, fun k q hq => ?_⟩
  obtain ⟨h1, rfl⟩ := wsM_get hq
  exact Or.inl ⟨k, h1, rfl⟩
theorem AA_sub {A : Nat → Prop} {cI cL : ClassId} {ad : Nat → Nat} {μ : Mm} {sz sz' : Nat} (h : va_D A (wsM cI cL ad μ)) (hA : ∀ q, sz ≤ q → A q) (hz : sz ≤ sz') : ∀ q, AA ad sz' q → A q := by
  intro q hq
  rcases hq with ⟨k, hk, rfl⟩ | hq
  · exact h.2 k _ (wsM_at hk)
  · exact hA q (Nat.le_trans hz hq)
theorem PcA_blind {D : va_G} {cI cL : ClassId} {ad : Nat → Nat} {As : List Value} {μ : Mm} {sz : Nat} : FrameBlind (PcA D cI cL ad As μ sz) := fun a U g mk q => by
  obtain ⟨q0, q1, q2, q3, q4, q5, q6⟩ := q
  exact ⟨q0, q1, q2, va_K.moved (u := U) (U := U.calling g mk a) (Vm.Alike.refl U.vm) q3, q4, q5, GL.same (s := U) (U := U.calling g mk a) rfl q6⟩
section AWS
variable {p : Program} {l : Launch} {e : Env} {R : Room} {s : State} {m : MethodId} {args : Array Value} {below : List Frame} {meth : Method} {c : Code} {nL : Nat} {D : va_G} {cI cL : ClassId} {ad : Nat → Nat} {A : Nat → Prop} {cs sl : Nat} {Q : State → Prop} {pc : Nat} {lv lv' : List (Nat × Value)} {st : List Value} {μ : Mm} {own : String} {b : ByteArray} {ret : Option FieldType}
theorem pre_call (C : CX p l s m args meth c own b nL ret D cI cL A) {H : Heap} {locs : List Loc} (hR : RepA D cI cL ad A s.heap μ H locs) {As : List Value} : ∀ U : State, U.heap = H → s.WarmedH U.vm → PcA D cI cL ad As μ H.size As.toArray U := by
  obtain ⟨-, -, -, -, -, -, -, hK, hG, hA, -⟩ := C
  obtain ⟨hP, hD, hS, hw⟩ := hR
  intro U hU hW
  refine ⟨rfl, by rw [hU], by rw [hU]; exact hP, va_K.moved hW.alike hK, D_AA hD, hw, ?_⟩
  rw [hU]
  exact GL.warm hW (GL.narrow (AA_sub hD hA hS.1) (GL.kept hS.2.1 hG))
theorem aw_run (C : CX p l s m args meth c own b nL ret D cI cL A) {μ' : Mm} {v : Option Value} {rest : List Value} {a9 : Array Value}
    (hr : ∀ H locs ls, RepA D cI cL ad A s.heap μ H locs → lv_has ls nL lv → vx_Run p l e R s m args below meth c H locs cs sl 0 0 (F0 m pc ls st) rest (QcX D cI cL ad (.inr v) μ' H.size a9) (XcX D cI cL ad (.inr v) μ' H.size) (AA ad H.size))
    (kk : AW p l e R s m args below meth c nL D cI cL ad A cs sl Q (pc + 3) lv (v.toList ++ rest) μ') : AW p l e R s m args below meth c nL D cI cL ad A cs sl Q pc lv st μ := by
  obtain ⟨-, -, -, -, -, -, -, hK, hG, hA, -⟩ := C
  intro H locs ls hR hl T hT X
  rcases hr H locs ls hR hl T hT X with ⟨v', st₀, t, T', L, h0, X', hL, e1, e2, ⟨v2, hv2, hv, hP1, hwf, hz, hk⟩, st⟩ | ⟨q, st₀, t, T', L, E, ce, h0, X', hL, e1, e2, ⟨hh, -⟩, -⟩
  · cases hv2
    cases hv
    rw [h0] at hz hk
    obtain ⟨hP, hD, hS, hw⟩ := hR
    have hsub := AA_sub hD hA hS.1
    obtain ⟨t2, a1, b1⟩ := kk T'.heap (locs ++ L) ls ⟨by rw [e1]; exact hP1, D_wsM hD, ⟨Nat.le_trans hS.1 (by rw [e1]; exact hz), fun q h1 h2 => by rw [e1, hk q (Nat.lt_of_lt_of_le h1 hS.1) (fun z => h2 (hsub q z))]; exact hS.2.1 q h1 h2, fun q hq => by
      rcases List.mem_append.mp hq with h | h
      · exact hS.2.2 q h
      · exact hsub _ (hL q h)⟩, hwf⟩ hl T' rfl X'
    exact ⟨t2, st t2 a1, b1⟩
  · cases hh
end AWS
def OKV (y : MethodName) (Cn : String) (b : ByteArray) (nY : Nat) (r : Option FieldType) (n : Nat) : Prop := (Cond.instanceMethod y ∈ WS ∧ Cond.selects Cn y y ∈ WS ∧ Cond.initialized Cn ∈ WS ∧ Cond.code y b nY r ∈ WS) ∧ (y.cls = Cn ∧ y.cls ≠ "java/lang/invoke/MethodHandle" ∧ y.cls ≠ "java/lang/invoke/VarHandle" ∧ (parseMethodDescriptor y.desc).map (fun d => d.parameters.length) = some n)
def OKS (y : MethodName) (b : ByteArray) (nY : Nat) (r : Option FieldType) (n : Nat) : Prop := (Cond.static y ∈ WS ∧ Cond.initialized y.cls ∈ WS ∧ Cond.code y b nY r ∈ WS) ∧ (y.cls ≠ "java/lang/invoke/MethodHandle" ∧ y.cls ≠ "java/lang/invoke/VarHandle" ∧ (parseMethodDescriptor y.desc).map (fun d => d.parameters.length) = some n)
theorem WSy_sub {y : MethodName} {b : ByteArray} {nY : Nat} {r : Option FieldType} (h : Cond.code y b nY r ∈ WS) : ∀ w ∈ WSy y b nY r, w ∈ WS := fun w hw => (List.mem_cons.mp hw).elim (fun q => by rw [q]; exact h) id
section AWC
variable {p : Program} {l : Launch} {e : Env} {R : Room} {s : State} {m : MethodId} {args : Array Value} {below : List Frame} {meth : Method} {c : Code} {nL : Nat} {D : va_G} {cI cL : ClassId} {ad : Nat → Nat} {A : Nat → Prop} {cs sl : Nat} {Q : State → Prop} {pc : Nat} {lv lv' : List (Nat × Value)} {rest : List Value} {μ μ' : Mm} {own : String} {b : ByteArray} {ret : Option FieldType}
variable {y : MethodName} {Cn : String} {bY : ByteArray} {nY n idx dY a : Nat} {rY : Option FieldType} {As : (Nat → Nat) → List Value} {Bs : List Value} {v : Option Value} {r : Rs}
theorem run_V (C : CX p l s m args meth c own b nL ret D cI cL A) (hM : MetX l y bY nY rY dY As μ r μ') (ok : OKV y Cn bY nY rY n) (hlk : Cond.methodLink own idx y ∈ WS) {ci : Nat} {Tc : u_T} {Nc : Nat} (hk : kd a = (1, ci)) (hc : vwCl[ci]? = some (Cn, Tc, Nc)) (hAs : As ad = .ref (ad a) :: Bs) (hn : Bs.length = n)
    (hst : (rest.map fun v => v.category).sum ≤ 8) (hd : decode b pc = .ok (.invokevirtual idx, 3)) (hR : dY + 1 ≤ R.frames ∧ 8 + (nY + 11) + 31 * dY ≤ R.locals) (hf : cs + mcR r ≤ R.cells ∧ sl + msR r ≤ R.slots) :
    ∀ H locs ls, RepA D cI cL ad A s.heap μ H locs → lv_has ls nL lv → vx_Run p l e R s m args below meth c H locs cs sl (mcR r) (msR r) (F0 m pc ls (Bs.reverse ++ .ref (ad a) :: rest)) rest (QcX D cI cL ad r μ' H.size (Value.ref (ad a) :: Bs).toArray) (XcX D cI cL ad r μ' H.size) (AA ad H.size) := by
  intro H locs ls hRp hl
  obtain ⟨hx, hb, hml, hown, hts, hlo, hrt, hK, hG, hA, htr⟩ := id C
  obtain ⟨⟨o1, o2, o3, o4⟩, od⟩ := ok
  have hM' := hM D cI cL ad H.size
  rw [hAs] at hM'
  refine vx_runV (Ts := WS) (C := Cn) (n := n) ⟨hx, hb, hml, hown, hts⟩ hM' (cwV n hts (goodIn_WS (fun w hw => ?_)) rfl rfl rfl od hR) ⟨PcA_blind, va_recv hK hRp.1 hc (ws_obj hk), pre_call C hRp⟩ rfl hn hl.1 rfl (lv_room hst) hd hf
  rcases List.mem_append.mp hw with h | h
  · simp only [List.mem_cons, List.not_mem_nil, or_false] at h
    rcases h with rfl | rfl | rfl | rfl
    · exact hlk
    · exact o1
    · exact o2
    · exact o3
  · exact WSy_sub o4 w h
theorem run_S (C : CX p l s m args meth c own b nL ret D cI cL A) (hM : MetX l y bY nY rY dY As μ r μ') (ok : OKS y bY nY rY n) (hlk : Cond.methodLink own idx y ∈ WS) (hAs : As ad = Bs) (hn : Bs.length = n)
    (hst : (rest.map fun v => v.category).sum ≤ 8) (hd : decode b pc = .ok (.invokestatic idx, 3)) (hR : dY + 1 ≤ R.frames ∧ 8 + (nY + 11) + 31 * dY ≤ R.locals) (hf : cs + mcR r ≤ R.cells ∧ sl + msR r ≤ R.slots) :
    ∀ H locs ls, RepA D cI cL ad A s.heap μ H locs → lv_has ls nL lv → vx_Run p l e R s m args below meth c H locs cs sl (mcR r) (msR r) (F0 m pc ls (Bs.reverse ++ rest)) rest (QcX D cI cL ad r μ' H.size Bs.toArray) (XcX D cI cL ad r μ' H.size) (AA ad H.size) := by
  intro H locs ls hRp hl
  obtain ⟨hx, hb, hml, hown, hts, hlo, hrt, hK, hG, hA, htr⟩ := id C
  obtain ⟨⟨o1, o2, o3⟩, od⟩ := ok
  have hM' := hM D cI cL ad H.size
  rw [hAs] at hM'
  refine vx_runS (Ts := WS) (n := n) ⟨hx, hb, hml, hown, hts⟩ hM' (va_cwS n hts (goodIn_WS (fun w hw => ?_)) rfl rfl rfl od hR) ⟨PcA_blind, pre_call C hRp⟩ rfl hn hl.1 rfl (lv_room hst) hd hf
  rcases List.mem_append.mp hw with h | h
  · simp only [List.mem_cons, List.not_mem_nil, or_false] at h
    rcases h with rfl | rfl | rfl
    · exact hlk
    · exact o1
    · exact o2
  · exact WSy_sub o3 w h
/-- a call that returns -/
theorem aw_callV (C : CX p l s m args meth c own b nL ret D cI cL A) (hM : MetX l y bY nY rY dY As μ (.inr v) μ') (ok : OKV y Cn bY nY rY n) (hlk : Cond.methodLink own idx y ∈ WS) {ci : Nat} {Tc : u_T} {Nc : Nat} (hk : kd a = (1, ci)) (hc : vwCl[ci]? = some (Cn, Tc, Nc)) (hAs : As ad = .ref (ad a) :: Bs) (hn : Bs.length = n)
    (hst : (rest.map fun v => v.category).sum ≤ 8) (hd : decode b pc = .ok (.invokevirtual idx, 3)) (hR : dY + 1 ≤ R.frames ∧ 8 + (nY + 11) + 31 * dY ≤ R.locals) (hf : cs ≤ R.cells ∧ sl ≤ R.slots) {st0 : List Value} (hs0 : st0 = Bs.reverse ++ .ref (ad a) :: rest)
    (kk : AW p l e R s m args below meth c nL D cI cL ad A cs sl Q (pc + 3) lv (v.toList ++ rest) μ') : AW p l e R s m args below meth c nL D cI cL ad A cs sl Q pc lv st0 μ := by
  subst hs0
  exact aw_run C (run_V C hM ok hlk hk hc hAs hn hst hd hR hf) kk
theorem aw_callS (C : CX p l s m args meth c own b nL ret D cI cL A) (hM : MetX l y bY nY rY dY As μ (.inr v) μ') (ok : OKS y bY nY rY n) (hlk : Cond.methodLink own idx y ∈ WS) (hAs : As ad = Bs) (hn : Bs.length = n)
    (hst : (rest.map fun v => v.category).sum ≤ 8) (hd : decode b pc = .ok (.invokestatic idx, 3)) (hR : dY + 1 ≤ R.frames ∧ 8 + (nY + 11) + 31 * dY ≤ R.locals) (hf : cs ≤ R.cells ∧ sl ≤ R.slots) {st0 : List Value} (hs0 : st0 = Bs.reverse ++ rest)
    (kk : AW p l e R s m args below meth c nL D cI cL ad A cs sl Q (pc + 3) lv (v.toList ++ rest) μ') : AW p l e R s m args below meth c nL D cI cL ad A cs sl Q pc lv st0 μ := by
  subst hs0
  exact aw_run C (run_S C hM ok hlk hAs hn hst hd hR hf) kk
end AWC
