/-! ===== the law's own helpers: a try round one call; the law's walk over the script ===== -/
def ncs : List (String × String) := [(xI, xA), (xI, xS), (xA, xI), (xA, xS), (xS, xI), (xS, xA)]
def NcX (U : State) : Prop := ∀ q ∈ ncs, va_Nc q.1 q.2 U
theorem NcX.moved {u U : State} (hvm : u.vm.Alike U.vm) (h : NcX u) : NcX U := fun q hq => va_Nc.moved hvm (h q hq)
def PcW (D : va_G) (cI cL : ClassId) (ad : Nat → Nat) (As : List Value) (μ : Mm) (sz : Nat) : Array Value → State → Prop := fun a U => PcA D cI cL ad As μ sz a U ∧ NcX U
theorem PcW_blind {D : va_G} {cI cL : ClassId} {ad : Nat → Nat} {As : List Value} {μ : Mm} {sz : Nat} : FrameBlind (PcW D cI cL ad As μ sz) := fun a U g mk q => ⟨PcA_blind a U g mk q.1, NcX.moved (u := U) (U := U.calling g mk a) (Vm.Alike.refl U.vm) q.2⟩
def MetW (l : Launch) (y : MethodName) (b : ByteArray) (nL : Nat) (hh : List (Nat × Nat × Nat × Nat)) (d : Nat) (As : (Nat → Nat) → List Value) (μ : Mm) (k : Int32) (μ' : Mm) : Prop :=
  ∀ (D : va_G) (cI cL : ClassId) (ad : Nat → Nat) (sz : Nat), Met l y (Cond.codeWith y b nL (some .int) hh :: WS) (rmA d 1 6) (PcW D cI cL ad (As ad) μ sz) (QcX D cI cL ad (.inr (some (.int k))) μ' sz) 1 6 (AA ad sz)
def QW (D : va_G) (cI cL : ClassId) (ad : Nat → Nat) (k : Int32) (μ' : Mm) (below : List Frame) (args : Array Value) (s : State) : State → Prop :=
  vx_MQ below (QcX D cI cL ad (.inr (some (.int k))) μ' s.heap.size) (XcX D cI cL ad (.inr (some (.int k))) μ' s.heap.size) args s 1 6 (AA ad s.heap.size)
def OKW (y : MethodName) (b : ByteArray) (nY : Nat) (hh : List (Nat × Nat × Nat × Nat)) (n : Nat) : Prop := (Cond.static y ∈ WS ∧ Cond.initialized y.cls ∈ WS ∧ Cond.codeWith y b nY (some .int) hh ∈ WS) ∧ (y.cls ≠ "java/lang/invoke/MethodHandle" ∧ y.cls ≠ "java/lang/invoke/VarHandle" ∧ (parseMethodDescriptor y.desc).map (fun d => d.parameters.length) = some n)
section AWW
variable {p : Program} {l : Launch} {e : Env} {R : Room} {s : State} {m : MethodId} {args : Array Value} {below : List Frame} {meth : Method} {c : Code} {nL : Nat} {D : va_G} {cI cL : ClassId} {ad : Nat → Nat} {A : Nat → Prop} {cs sl : Nat} {Q : State → Prop} {pc : Nat} {lv lv' : List (Nat × Value)} {st rest : List Value} {μ μ' : Mm} {own : String} {b : ByteArray} {ret : Option FieldType}
variable {y : MethodName} {Cn : String} {bY : ByteArray} {nY n idx dY a : Nat} {rY : Option FieldType} {As : (Nat → Nat) → List Value} {Bs : List Value} {hh : List (Nat × Nat × Nat × Nat)}
theorem aw_widen (k n : Nat) (h1 : cs ≤ k) (h2 : sl ≤ n) (kk : AW p l e R s m args below meth c nL D cI cL ad A k n Q pc lv st μ) : AW p l e R s m args below meth c nL D cI cL ad A cs sl Q pc lv st μ := fun H locs ls hR hl => W.widen h1 h2 (kk H locs ls hR hl)
theorem aw_iretW (C : CX p l s m args meth c own b nL (some .int) D cI cL (AA ad s.heap.size)) {k : Int32} (hd : decode b pc = .ok (.ireturn, 1)) : AW p l e R s m args below meth c nL D cI cL ad (AA ad s.heap.size) 1 6 (QW D cI cL ad k μ below args s) pc lv [.int k] μ := fun H locs ls hR hl => vx_ret (W.iret C.1 C.2.1 C.2.2.2.2.2.2.1 (fun t ht hW => ⟨_, rfl, rfl, by rw [ht]; exact hR.1, hR.2.2.2, hR.2.2.1.F ht⟩) hR.2.2.1.2.2 hd C.2.2.2.2.2.1)
theorem aw_catchV (C : CX p l s m args meth c own b nL ret D cI cL (AA ad s.heap.size)) {E : String} (hM : MetX l y bY nY rY dY As μ (.inl E) μ') (ok : OKV y Cn bY nY rY n) (hlk : Cond.methodLink own idx y ∈ WS) {ci : Nat} {Tc : u_T} {Nc : Nat} (hk : kd a = (1, ci)) (hc : vwCl[ci]? = some (Cn, Tc, Nc)) (hAs : As ad = .ref (ad a) :: Bs) (hn : Bs.length = n)
    (hst : (rest.map fun v => v.category).sum ≤ 8) (hd : decode b pc = .ok (.invokevirtual idx, 3)) (hR : dY + 1 ≤ R.frames ∧ 8 + (nY + 11) + 31 * dY ≤ R.locals) (hf : 1 ≤ R.cells ∧ 6 ≤ R.slots) {st0 : List Value} (hs0 : st0 = Bs.reverse ++ .ref (ad a) :: rest)
    (pre : List ExceptionTableEntry) (x : ExceptionTableEntry) (suf : List ExceptionTableEntry) (hsplit : c.exceptionTable.toList = pre ++ x :: suf)
    (hpass : ∀ z ∈ pre, covers z pc = false ∨ (z.catchType ≠ 0 ∧ ∃ nm : String, (Cond.classLink own z.catchType nm).before args s = true ∧ va_Nc E nm s)) (hx : covers x pc = true) (h0 : x.catchType ≠ 0)
    (hlink : Cond.classLink own x.catchType E ∈ WS) (hcast : Cond.castable E E ∈ NW) {hpc : Nat} (hh9 : x.handlerPc = hpc)
    (kk : ∀ q : Nat, AW p l e R s m args below meth c nL D cI cL ad (AA ad s.heap.size) 1 6 Q hpc lv [.ref q] μ') : AW p l e R s m args below meth c nL D cI cL ad (AA ad s.heap.size) 0 0 Q pc lv st0 μ := by
  subst hs0
  have hr := run_V (e := e) (R := R) (below := below) (lv := lv) (cs := 0) (sl := 0) (rest := rest) C hM ok hlk hk hc hAs hn hst hd hR ⟨by show 0 + 1 ≤ _; omega, by show 0 + 6 ≤ _; omega⟩
  obtain ⟨-, -, -, hown, hts, hlk9, -, hK, hG, hA, -⟩ := id C
  intro H locs ls hRp hl T hT X
  rcases hr H locs ls hRp hl T hT X with ⟨v', st₀, t, T', L, h0', X', hL, e1, e2, ⟨v2, hv2, -⟩, -⟩ | ⟨q, st₀, t, T', L, E', ce, h0', X', hL, e1, e2, ⟨hh', hP1, hwf, hF⟩, hce, hcv, hcl, st⟩
  · cases hv2
  · cases hh'
    obtain ⟨hP, hD, hS, hw⟩ := hRp
    have hsub := AA_sub hD hA hS.1
    obtain ⟨k1, k2, k3⟩ := vx_keep h0' e1 hS (fun q _ h => hsub q h) hsub hL hF
    have hkk : W p l e R s m args below meth c T'.heap (locs ++ L) (0 + 1) (0 + 6) Q (F0 m x.handlerPc ls [.ref q]) := by
      rw [hh9]
      exact kk q T'.heap (locs ++ L) ls ⟨by rw [e1]; exact hP1, D_wsM hD, k3, hwf⟩ hl
    obtain ⟨t2, a1, b1⟩ := vx_catch (rest := rest) hown pre x suf hsplit hpass hx h0 (hts _ hlink) (va_Nw.use (Nw_on hcast) (hG.1 _ hcast)) (by rw [e1]; exact hce) hcv hcl hkk T' rfl X'
    exact ⟨t2, st.trans a1, b1⟩
theorem MetW.of {k : Int32} {d : Nat} (htr : l.stackTraces = false) (hy : plainName y.cls = true) (ho : y.cls = own) (hlen : ∀ ad, (lg_sl (As ad)).length ≤ nL)
    (body : ∀ (p : Program) (e : Env) (s : State) (m : MethodId) (args : Array Value) (below : List Frame) (meth : Method) (c : Code) (D : va_G) (cI cL : ClassId) (ad : Nat → Nat), CX p l s m args meth c own b nL (some .int) D cI cL (AA ad s.heap.size) → c.exceptionTable.toList = tableOf hh → NcX s →
      AW p l e (rmA d 1 6) s m args below meth c nL D cI cL ad (AA ad s.heap.size) 0 0 (QW D cI cL ad k μ' below args s) 0 (lv_args 0 (As ad)) [] μ) : MetW l y b nL hh d As μ k μ' := by
  intro D cI cL ad sz
  refine metx_met (XC := XcX D cI cL ad (.inr (some (.int k))) μ' sz) ?_ (fun E st t h => by obtain ⟨h1, -⟩ := h; cases h1)
  refine vx_ofWH (cc := b) (maxL := nL) (ret := some .int) (hh := hh) hy rfl ?_
  intro p e s m args below meth c s₁ B hml hv
  obtain ⟨⟨rfl, hsz, hP, hK, hD, hw, hG⟩, hN⟩ := hv
  subst hsz
  have hts := atoms_spec (ws := Cond.codeWith y b nL (some .int) hh :: WS) B.pre
  have hown : s.vm.findClass own = some m.cls := by rw [← ho]; exact findClass_of_methodNamed B.named
  have C : CX p l s m (As ad).toArray meth c own b nL (some .int) D cI cL (AA ad s.heap.size) := ⟨B.exec, B.bytes, hml, hown, fun w h => hts w (List.mem_cons_of_mem _ h), B.notSynchronized, B.returns, hK, hG, fun q h => Or.inr h, htr⟩
  have hl0 := lv_entry (As ad) (n := nL) (hlen ad)
  rw [lg_entry_eq]
  exact body p e s m _ below meth c D cI cL ad C (vx_table (x := y) B (hts _ List.mem_cons_self)) hN s.heap [] _ ⟨hP, hD, va_S.rf, hw⟩ hl0
/-- the law's call of a helper -/
theorem aw_W (C : CX p l s m args meth c own b nL ret D cI cL A) {k : Int32} (hN : NcX s) (hM : MetW l y bY nY hh dY As μ k μ') (ok : OKW y bY nY hh n) (hlk : Cond.methodLink own idx y ∈ WS) (hAs : As ad = Bs) (hn : Bs.length = n) (hd : decode b pc = .ok (.invokestatic idx, 3)) (hR : dY + 1 ≤ R.frames ∧ 8 + (nY + 11) + 31 * dY ≤ R.locals) (hf : cs + 1 ≤ R.cells ∧ sl + 6 ≤ R.slots) (rest : List Value) (hst : (rest.map fun v => v.category).sum ≤ 8) {st0 : List Value} (hs0 : st0 = Bs.reverse ++ rest)
    (kk : AW p l e R s m args below meth c nL D cI cL ad A (cs + 1) (sl + 6) Q (pc + 3) lv (.int k :: rest) μ') : AW p l e R s m args below meth c nL D cI cL ad A cs sl Q pc lv st0 μ := by
  subst hs0
  intro H locs ls hRp hl
  obtain ⟨hx, hb, hml, hown, hts, hlo, hrt, hK, hG, hA, htr⟩ := id C
  obtain ⟨⟨o1, o2, o3⟩, od⟩ := ok
  have hM' := hM D cI cL ad H.size
  rw [hAs] at hM'
  have hrun := vx_runSW (p := p) (e := e) (R := R) (H := H) (locs := locs) (cells := cs) (slots := sl) (below := below) (meth := meth) (Ts := WS) (n := n) (g := F0 m pc ls (Bs.reverse ++ rest)) (rest := rest) ⟨hx, hb, hml, hown, hts⟩ hM' (vx_cwSW n hts (goodIn_WS (fun w hw => by
    rcases List.mem_append.mp hw with h | h
    · simp only [List.mem_cons, List.not_mem_nil, or_false] at h
      rcases h with rfl | rfl | rfl
      · exact hlk
      · exact o1
      · exact o2
    · exact (List.mem_cons.mp h).elim (fun q => by rw [q]; exact o3) id)) rfl rfl rfl od hR) ⟨PcW_blind, fun U hU hW => ⟨pre_call C hRp U hU hW, NcX.moved hW.alike hN⟩⟩ rfl hn hl.1 rfl (lv_room hst) hd hf
  intro T hT X
  obtain ⟨v', st₀, t, T', L, h0, X', hL, e1, e2, ⟨v2, hv2, hv, hP1, hwf, hz, hk⟩, st⟩ := hrun T hT X
  cases hv2
  cases hv
  rw [h0] at hz hk
  obtain ⟨hP, hD, hS, hw⟩ := hRp
  have hsub := AA_sub hD hA hS.1
  obtain ⟨t2, a1, b1⟩ := kk T'.heap (locs ++ L) ls ⟨by rw [e1]; exact hP1, D_wsM hD, ⟨Nat.le_trans hS.1 (by rw [e1]; exact hz), fun q h1 h2 => by rw [e1, hk q (Nat.lt_of_lt_of_le h1 hS.1) (fun z => h2 (hsub q z))]; exact hS.2.1 q h1 h2, fun q hq => by
    rcases List.mem_append.mp hq with h | h
    · exact hS.2.2 q h
    · exact hsub _ (hL q h)⟩, hwf⟩ hl T' rfl X'
  exact ⟨t2, st t2 a1, b1⟩
theorem aw_sld (C : CX p l s m args meth c own b nL ret D cI cL A) {bS L : Nat} {xs : Nat → Int32} (hX : va_X bS L xs s s.heap) (hbl : bS < s.heap.size) (hbA : ¬ A bS) {i : Int32} (hin : vp_in i L) (hd : decode b pc = .ok (.iaload, 1)) (kk : AW p l e R s m args below meth c nL D cI cL ad A cs sl Q (pc + 1) lv (.int (xs i.toNatClampNeg) :: st) μ) : AW p l e R s m args below meth c nL D cI cL ad A cs sl Q pc lv (.int i :: .ref bS :: st) μ := fun H locs ls hR hl => va_sld C.1 C.2.1 hX hbl hbA hR.2.2.1 hin hd (kk H locs ls hR hl)
theorem aw_slen (C : CX p l s m args meth c own b nL ret D cI cL A) {bS L : Nat} {xs : Nat → Int32} (hX : va_X bS L xs s s.heap) (hbl : bS < s.heap.size) (hbA : ¬ A bS) (hd : decode b pc = .ok (.arraylength, 1)) (kk : AW p l e R s m args below meth c nL D cI cL ad A cs sl Q (pc + 1) lv (.int (nI L) :: st) μ) : AW p l e R s m args below meth c nL D cI cL ad A cs sl Q pc lv (.ref bS :: st) μ := fun H locs ls hR hl => va_slen C.1 C.2.1 hX hbl hbA hR.2.2.1 hd (kk H locs ls hR hl)
end AWW
