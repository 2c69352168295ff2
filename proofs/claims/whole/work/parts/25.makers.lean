section ACT
variable {p : Program} {l : Launch} {e : Env} {R : Room} {s : State} {m : MethodId} {args : Array Value} {below : List Frame} {meth : Method} {c : Code} {nL : Nat} {D : va_G} {cI cL : ClassId} {A : Nat → Prop} {cs sl : Nat} {Q : State → Prop} {pc : Nat} {lv lv' : List (Nat × Value)} {st rest : List Value} {ws ws' : va_W} {own : String} {b : ByteArray} {ret : Option FieldType}
variable {y : MethodName} {bY : ByteArray} {dY mcY msY ci q idx : Nat} {fs : List Value} {wN : ClassId → (Nat → Nat) → va_W} {pre : va_W}
def OKI (y : MethodName) (bY : ByteArray) : Prop := (Cond.instanceMethod y ∈ WS ∧ Cond.initialized y.cls ∈ WS ∧ Cond.code y bY 1 none ∈ WS) ∧ y.name = "<init>" ∧ (y.cls ≠ "java/lang/invoke/MethodHandle" ∧ y.cls ≠ "java/lang/invoke/VarHandle" ∧ (parseMethodDescriptor y.desc).map (fun d => d.parameters.length) = some 0)
theorem ac_run (C : CY p l s m args meth c own b nL ret D cI cL A) (hr : ∀ H locs ls, va_P D vwCl (pre ++ [(q, .inr (ci, fs))]) H → va_D A (pre ++ [(q, .inr (ci, fs))]) → lv_has ls nL lv → va_Run p l e R s m args below meth c H locs cs sl mcY msY (F0 m pc ls (.ref q :: rest)) rest (QcC D cI q H.size wN #[.ref q]) (AH q H.size))
    (kk : ∀ ad : Nat → Nat, ad 0 = q → AC p l e R s m args below meth c nL D A (cs + mcY) (sl + msY) Q (pc + 3) lv rest (pre ++ wN cI ad)) : AC p l e R s m args below meth c nL D A cs sl Q pc lv (.ref q :: rest) (pre ++ [(q, .inr (ci, fs))]) := by
  obtain ⟨-, -, -, -, -, -, -, hK, hG, hA⟩ := C
  intro H locs ls hP hD hS hl T hT X
  obtain ⟨v', st₀, t, T', L, h0, X', hL, e1, e2, ⟨hv, ⟨ad, had, hP1, hD1⟩, hz, hk⟩, st⟩ := hr H locs ls hP hD hl T hT X
  cases hv
  rw [h0] at hz hk
  have hAz : ∀ z, H.size ≤ z → A z := fun z h => hA z (Nat.le_trans hS.1 h)
  have hAq : A q := hD.2 pre.length (q, .inr (ci, fs)) (by simp)
  have hsub : ∀ z, AH q H.size z → A z := fun z h => h.elim (fun e => by rw [e]; exact hAq) (hAz z)
  obtain ⟨hPj, hDj⟩ := join_end hP hD hAz hk hP1 hD1
  obtain ⟨t2, a1, b1⟩ := kk ad had T'.heap (locs ++ L) ls (by rw [e1]; exact hPj) hDj ⟨Nat.le_trans hS.1 (by rw [e1]; exact hz), fun z h1 h2 => by rw [e1, hk z (Nat.lt_of_lt_of_le h1 hS.1) (fun w => h2 (hsub z w))]; exact hS.2.1 z h1 h2, fun z hz' => by
    rcases List.mem_append.mp hz' with h | h
    · exact hS.2.2 z h
    · exact hsub _ (hL z h)⟩ hl T' rfl X'
  exact ⟨t2, st t2 a1, b1⟩
theorem pre_ctor (C : CY p l s m args meth c own b nL ret D cI cL A) {H : Heap} (hP : va_P D vwCl (pre ++ [(q, .inr (ci, fs))]) H) : PreS s H (PcC D cI cL q H.size ci fs) (.ref q :: []) := by
  obtain ⟨-, -, -, -, -, -, -, hK, hG, hA⟩ := C
  refine ⟨PcC_blind, fun U hU hW => ⟨rfl, by rw [hU], ?_, va_K.moved hW.alike hK, ⟨fun i j a b ha hb he => ?_, fun _ _ _ => trivial⟩, fun w hw => Nw_warm hw hW (hG w hw)⟩⟩
  · rw [hU]
    intro k z hz
    have hk : k < 1 := (List.getElem?_eq_some_iff.mp hz).1
    rw [show k = 0 by omega] at hz
    cases hz
    exact hP pre.length _ (by simp)
  · have h1 : i < 1 := (List.getElem?_eq_some_iff.mp ha).1
    have h2 : j < 1 := (List.getElem?_eq_some_iff.mp hb).1
    omega
theorem ac_ctor (C : CY p l s m args meth c own b nL ret D cI cL A) (hM : MetC l y bY dY mcY msY ci fs wN) (ok : OKI y bY) (hlk : Cond.methodLink own idx y ∈ WS) (hst : (rest.map fun v => v.category).sum ≤ 8) (hd : decode b pc = .ok (.invokespecial idx, 3)) (hR : dY + 1 ≤ R.frames ∧ 8 + (1 + 11) + 31 * dY ≤ R.locals) (hf : cs + mcY ≤ R.cells ∧ sl + msY ≤ R.slots) (hws : ws = pre ++ [(q, .inr (ci, fs))])
    (kk : ∀ ad : Nat → Nat, ad 0 = q → AC p l e R s m args below meth c nL D A (cs + mcY) (sl + msY) Q (pc + 3) lv rest (pre ++ wN cI ad)) : AC p l e R s m args below meth c nL D A cs sl Q pc lv (.ref q :: rest) ws := by
  subst hws
  refine ac_run C (fun H locs ls hP hD hl => ?_) kk
  obtain ⟨hx, hb, hml, hown, hts, -, -, hK, hG, hA⟩ := id C
  obtain ⟨⟨o1, o2, o3⟩, on, od⟩ := ok
  exact va_runI (As := []) (Ts := WS) ⟨hx, hb, hml, hown, hts⟩ (hM D cI cL q H.size) (cwI 0 hts (goodIn_WS (WSy_sub o3)) rfl rfl rfl (hts _ o2) (hts _ hlk) (hts _ o1) on od hR) (pre_ctor C hP) rfl rfl hl.1 rfl (lv_room hst) hd hf
theorem ac_ctorN (C : CY p l s m args meth c own b nL ret D cI cL A) {host : String} (hM : MetC l y bY dY mcY msY ci fs wN) (ok : OKI y bY) (hlk : Cond.methodLinkNest own idx y host ∈ NW) (hst : (rest.map fun v => v.category).sum ≤ 8) (hd : decode b pc = .ok (.invokespecial idx, 3)) (hR : dY + 1 ≤ R.frames ∧ 8 + (1 + 11) + 31 * dY ≤ R.locals) (hf : cs + mcY ≤ R.cells ∧ sl + msY ≤ R.slots) (hws : ws = pre ++ [(q, .inr (ci, fs))])
    (kk : ∀ ad : Nat → Nat, ad 0 = q → AC p l e R s m args below meth c nL D A (cs + mcY) (sl + msY) Q (pc + 3) lv rest (pre ++ wN cI ad)) : AC p l e R s m args below meth c nL D A cs sl Q pc lv (.ref q :: rest) ws := by
  subst hws
  refine ac_run C (fun H locs ls hP hD hl => ?_) kk
  obtain ⟨hx, hb, hml, hown, hts, -, -, hK, hG, hA⟩ := id C
  obtain ⟨⟨o1, o2, o3⟩, on, od⟩ := ok
  exact va_runIN (As := []) (Ts := WS) ⟨hx, hb, hml, hown, hts⟩ (hM D cI cL q H.size) ⟨va_cnB 0 hts (goodIn_WS (WSy_sub o3)) rfl rfl rfl (hG _ hlk) (hts _ o2) od hR, on, hts _ o1⟩ (pre_ctor C hP) rfl rfl hl.1 rfl (lv_room hst) hd hf
end ACT
theorem MetC.of {l : Launch} {y : MethodName} {b : ByteArray} {d mc ms ci : Nat} {fs : List Value} {wN : ClassId → (Nat → Nat) → va_W} {own : String} (hy : plainName y.cls = true) (ho : y.cls = own)
    (body : ∀ (p : Program) (e : Env) (s : State) (m : MethodId) (args : Array Value) (below : List Frame) (meth : Method) (c : Code) (D : va_G) (cI cL : ClassId) (h0 : Nat), CY p l s m args meth c own b 1 none D cI cL (AH h0 s.heap.size) → (y.name = "<init>" → meth.name = "<init>") →
      AC p l e (rmA d mc ms) s m args below meth c 1 D (AH h0 s.heap.size) 0 0 (MQ below (QcC D cI h0 s.heap.size wN) args s mc ms (AH h0 s.heap.size)) 0 [(0, .ref h0)] [] [(h0, .inr (ci, fs))]) : MetC l y b d mc ms ci fs wN := by
  intro D cI cL h0 sz
  refine Met.ofW (cc := b) (maxL := 1) (ret := none) hy rfl ?_
  intro p e s m args below meth c s₁ B hml hv
  obtain ⟨rfl, hsz, hP, hK, hD, hG⟩ := hv
  subst hsz
  have hts := atoms_spec (ws := WSy y b 1 none) B.pre
  have hown : s.vm.findClass own = some m.cls := by rw [← ho]; exact findClass_of_methodNamed B.named
  have C : CY p l s m ([Value.ref h0] : List Value).toArray meth c own b 1 none D cI cL (AH h0 s.heap.size) := ⟨B.exec, B.bytes, hml, hown, fun w h => hts w (List.mem_cons_of_mem _ h), B.notSynchronized, B.returns, hK, hG, fun q h => Or.inr h⟩
  have hl0 := lv_entry ([Value.ref h0] : List Value) (n := 1) (Nat.le_of_ble_eq_true rfl)
  rw [lg_entry_eq]
  refine body p e s m _ below meth c D cI cL h0 C (fun hi => ((name_of_methodNamed B.named B.method).1).trans hi) s.heap [] _ hP ⟨hD.1, fun k z hz => ?_⟩ va_S.rf hl0
  have hk : k < 1 := (List.getElem?_eq_some_iff.mp hz).1
  rw [show k = 0 by omega] at hz
  cases hz
  exact Or.inl rfl
theorem ac_end {p : Program} {l : Launch} {e : Env} {R : Room} {s : State} {m : MethodId} {args : Array Value} {below : List Frame} {meth : Method} {c : Code} {D : va_G} {cI cL : ClassId} {pc h0 mc ms nL : Nat} {lv : List (Nat × Value)} {own : String} {b : ByteArray} {wN : ClassId → (Nat → Nat) → va_W} {ws : va_W} (C : CY p l s m args meth c own b nL none D cI cL (AH h0 s.heap.size)) (ad : Nat → Nat) (had : ad 0 = h0) (hw : ws = wN cI ad) (hd : decode b pc = .ok (.return_, 1)) :
    AC p l e R s m args below meth c nL D (AH h0 s.heap.size) mc ms (MQ below (QcC D cI h0 s.heap.size wN) args s mc ms (AH h0 s.heap.size)) pc lv [] ws := by
  subst hw
  intro H locs ls hP hD hS hl
  exact W.vret C.1 C.2.1 C.2.2.2.2.2.2.1 (fun t ht hW => ⟨rfl, ⟨ad, had, by rw [ht]; exact hP, hD⟩, hS.F ht⟩) hS.2.2 hd C.2.2.2.2.2.1
