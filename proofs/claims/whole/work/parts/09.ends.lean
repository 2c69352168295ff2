section AWK
variable {p : Program} {l : Launch} {e : Env} {R : Room} {s : State} {m : MethodId} {args : Array Value} {below : List Frame} {meth : Method} {c : Code} {nL : Nat} {D : va_G} {cI cL : ClassId} {ad : Nat → Nat} {A : Nat → Prop} {cs sl : Nat} {Q : State → Prop} {pc : Nat} {lv lv' : List (Nat × Value)} {st rest : List Value} {μ μ' : Mm} {own : String} {b : ByteArray} {ret : Option FieldType}
variable {y : MethodName} {Cn : String} {bY : ByteArray} {nY n idx dY a : Nat} {rY : Option FieldType} {As : (Nat → Nat) → List Value} {Bs : List Value} {v : Option Value} {r : Rs}
def nmE : List String := ["java/lang/RuntimeException", "java/lang/Exception"]
def OKT (own : String) (ik is ic : Nat) (cls text : String) : Prop := Bundle.fit cls = true ∧ Cond.classLink own ik cls ∈ WS ∧ Cond.initialized cls ∈ WS ∧ (own, is, text) ∈ SW ∧ (∀ w ∈ vx_atS own ic cls nmE, w ∈ WS ∨ w ∈ NW) ∧ (∀ w ∈ Cond.classLink own ik cls :: Cond.initialized cls :: vx_atS own ic cls nmE, vx_ot w = true)
theorem aw_throw (C : CX p l s m args meth c own b nL ret D cI cL (AA ad s.heap.size)) {cls text : String} {ik is ic : Nat} (hex : ∀ x ∈ c.exceptionTable.toList, False) (ok : OKT own ik is ic cls text)
    (d0 : decode b pc = .ok (.new ik, 3)) (d3 : decode b (pc + 3) = .ok (.dup, 1)) (d4 : decode b (pc + 4) = .ok (.ldc is, 2)) (d6 : decode b (pc + 6) = .ok (.invokespecial ic, 3)) (d9 : decode b (pc + 9) = .ok (.athrow, 1))
    (hf : 5 < R.frames) (hlo : (st.map fun v => v.category).sum + 82 ≤ R.locals) (hc : 1 ≤ R.cells) (hsl : 6 ≤ R.slots) :
    AW p l e R s m args below meth c nL D cI cL ad (AA ad s.heap.size) 0 0 (QX D cI cL ad (.inl cls) μ below args s) pc lv st μ := by
  obtain ⟨hx, hb, hml, hown, hts, hlk, hrt, hK, hG, hA, htr⟩ := id C
  obtain ⟨o1, o2, o3, o4, o5, o6⟩ := ok
  obtain ⟨sa, hsa⟩ := hG.2.1 _ o4
  intro H locs ls hR hl
  refine vx_throwS (names := nmE) (sa := sa) (A := AA ad s.heap.size) hx hb htr hown o1 (by decide) (hts _ o2) (hts _ o3) hsa (fun w hw => (o5 w hw).elim (hts w) (fun h => va_Nw.use (Nw_on h) (hG.1 w h))) o6 hG.2.2.1 hG.2.2.2 hR.2.2.1 (hl.1.trans hml.symm) d0 d3 d4 d6 d9 (fun x hx => (hex x hx).elim) hf hlo (by omega) (by omega) hlk (fun t ht hz hk => ⟨rfl, fun k q hq => (hR.1 k q hq).kept (hk q.1 (hR.1 k q hq).lt), hR.2.2.2, Nat.le_trans hR.2.2.1.1 hz, fun q h1 h2 => ?_⟩) hR.2.2.1.2.2 (Nat.le_refl _) (Nat.le_refl _)
  rw [hk q (Nat.lt_of_lt_of_le h1 hR.2.2.1.1)]
  exact hR.2.2.1.2.1 q h1 h2
theorem aw_throwW (C : CX p l s m args meth c own b nL ret D cI cL (AA ad s.heap.size)) {cls text : String} {ik is ic : Nat} (hex : ∀ x ∈ c.exceptionTable.toList, False) (ok : OKT own ik is ic cls text)
    (d0 : decode b pc = .ok (.new ik, 3)) (d3 : decode b (pc + 3) = .ok (.dup, 1)) (d4 : decode b (pc + 4) = .ok (.ldc_w is, 3)) (d6 : decode b (pc + 7) = .ok (.invokespecial ic, 3)) (d9 : decode b (pc + 10) = .ok (.athrow, 1))
    (hf : 5 < R.frames) (hlo : (st.map fun v => v.category).sum + 82 ≤ R.locals) (hc : 1 ≤ R.cells) (hsl : 6 ≤ R.slots) :
    AW p l e R s m args below meth c nL D cI cL ad (AA ad s.heap.size) 0 0 (QX D cI cL ad (.inl cls) μ below args s) pc lv st μ := by
  obtain ⟨hx, hb, hml, hown, hts, hlk, hrt, hK, hG, hA, htr⟩ := id C
  obtain ⟨o1, o2, o3, o4, o5, o6⟩ := ok
  obtain ⟨sa, hsa⟩ := hG.2.1 _ o4
  intro H locs ls hR hl
  refine vx_throwSW (names := nmE) (sa := sa) (A := AA ad s.heap.size) hx hb htr hown o1 (by decide) (hts _ o2) (hts _ o3) hsa (fun w hw => (o5 w hw).elim (hts w) (fun h => va_Nw.use (Nw_on h) (hG.1 w h))) o6 hG.2.2.1 hG.2.2.2 hR.2.2.1 (hl.1.trans hml.symm) d0 d3 d4 d6 d9 (fun x hx => (hex x hx).elim) hf hlo (by omega) (by omega) hlk (fun t ht hz hk => ⟨rfl, fun k q hq => (hR.1 k q hq).kept (hk q.1 (hR.1 k q hq).lt), hR.2.2.2, Nat.le_trans hR.2.2.1.1 hz, fun q h1 h2 => ?_⟩) hR.2.2.1.2.2 (Nat.le_refl _) (Nat.le_refl _)
  rw [hk q (Nat.lt_of_lt_of_le h1 hR.2.2.1.1)]
  exact hR.2.2.1.2.1 q h1 h2
theorem aw_out (C : CX p l s m args meth c own b nL ret D cI cL (AA ad s.heap.size)) {E : String} {a9 : Array Value} (hex : ∀ x ∈ c.exceptionTable.toList, False)
    (hr : ∀ H locs ls, RepA D cI cL ad (AA ad s.heap.size) s.heap μ H locs → lv_has ls nL lv → vx_Run p l e R s m args below meth c H locs 0 0 1 6 (F0 m pc ls st) rest (QcX D cI cL ad (.inl E) μ' H.size a9) (XcX D cI cL ad (.inl E) μ' H.size) (AA ad H.size)) :
    AW p l e R s m args below meth c nL D cI cL ad (AA ad s.heap.size) 0 0 (QX D cI cL ad (.inl E) μ' below args s) pc lv st μ := by
  obtain ⟨-, -, -, -, -, hlk, -, hK, hG, hA, -⟩ := id C
  intro H locs ls hR hl T hT X
  rcases hr H locs ls hR hl T hT X with ⟨v', st₀, t, T', L, h0, X', hL, e1, e2, ⟨v2, hv2, -⟩, -⟩ | ⟨q, st₀, t, T', L, E', ce, h0, X', hL, e1, e2, ⟨hh, hP1, hwf, hF⟩, hce, hcv, hcl, st⟩
  · cases hv2
  · cases hh
    obtain ⟨hP, hD, hS, hw⟩ := hR
    have hsub := AA_sub hD hA hS.1
    obtain ⟨k1, k2, k3⟩ := vx_keep h0 e1 hS (fun q _ h => hsub q h) hsub hL hF
    obtain ⟨t2, a1, b1⟩ := vx_out (p := p) (l := l) (e := e) (R := R) (s := s) (m := m) (args := args) (below := below) (meth := meth) (c := c) (H := T'.heap) (locs := locs ++ L) (cells := 0 + 1) (slots := 0 + 6) (ls := ls) (rest := rest) (pc := pc) (free := AA ad s.heap.size) (Qc := QcX D cI cL ad (.inl E) μ' s.heap.size) (XC := XcX D cI cL ad (.inl E) μ' s.heap.size) (mc := 1) (ms := 6) (fun x hx => (hex x hx).elim) hlk (by rw [e1]; exact hce) hcv hcl (fun t9 h9 hv9 => ⟨rfl, by rw [h9, e1]; exact hP1, hwf, k3.F h9⟩) k3.2.2 (Nat.le_refl _) (Nat.le_refl _) T' rfl X'
    exact ⟨t2, st.trans a1, b1⟩
theorem aw_callVT (C : CX p l s m args meth c own b nL ret D cI cL (AA ad s.heap.size)) {E : String} (hex : ∀ x ∈ c.exceptionTable.toList, False) (hM : MetX l y bY nY rY dY As μ (.inl E) μ') (ok : OKV y Cn bY nY rY n) (hlk : Cond.methodLink own idx y ∈ WS) {ci : Nat} {Tc : u_T} {Nc : Nat} (hk : kd a = (1, ci)) (hc : vwCl[ci]? = some (Cn, Tc, Nc)) (hAs : As ad = .ref (ad a) :: Bs) (hn : Bs.length = n)
    (hst : (rest.map fun v => v.category).sum ≤ 8) (hd : decode b pc = .ok (.invokevirtual idx, 3)) (hR : dY + 1 ≤ R.frames ∧ 8 + (nY + 11) + 31 * dY ≤ R.locals) (hf : 1 ≤ R.cells ∧ 6 ≤ R.slots) {st0 : List Value} (hs0 : st0 = Bs.reverse ++ .ref (ad a) :: rest) :
    AW p l e R s m args below meth c nL D cI cL ad (AA ad s.heap.size) 0 0 (QX D cI cL ad (.inl E) μ' below args s) pc lv st0 μ := by
  subst hs0
  exact aw_out C hex (run_V C hM ok hlk hk hc hAs hn hst hd hR ⟨by show 0 + 1 ≤ _; omega, by show 0 + 6 ≤ _; omega⟩)
theorem aw_callST (C : CX p l s m args meth c own b nL ret D cI cL (AA ad s.heap.size)) {E : String} (hex : ∀ x ∈ c.exceptionTable.toList, False) (hM : MetX l y bY nY rY dY As μ (.inl E) μ') (ok : OKS y bY nY rY n) (hlk : Cond.methodLink own idx y ∈ WS) (hAs : As ad = Bs) (hn : Bs.length = n)
    (hst : (rest.map fun v => v.category).sum ≤ 8) (hd : decode b pc = .ok (.invokestatic idx, 3)) (hR : dY + 1 ≤ R.frames ∧ 8 + (nY + 11) + 31 * dY ≤ R.locals) (hf : 1 ≤ R.cells ∧ 6 ≤ R.slots) {st0 : List Value} (hs0 : st0 = Bs.reverse ++ rest) :
    AW p l e R s m args below meth c nL D cI cL ad (AA ad s.heap.size) 0 0 (QX D cI cL ad (.inl E) μ' below args s) pc lv st0 μ := by
  subst hs0
  exact aw_out C hex (run_S C hM ok hlk hAs hn hst hd hR ⟨by show 0 + 1 ≤ _; omega, by show 0 + 6 ≤ _; omega⟩)
end AWK
theorem MetX.of {l : Launch} {y : MethodName} {b : ByteArray} {nL : Nat} {ret : Option FieldType} {d : Nat} {As : (Nat → Nat) → List Value} {μ μ' : Mm} {r : Rs} {own : String} (htr : l.stackTraces = false) (hy : plainName y.cls = true) (ho : y.cls = own) (hlen : ∀ ad, (lg_sl (As ad)).length ≤ nL)
    (body : ∀ (p : Program) (e : Env) (s : State) (m : MethodId) (args : Array Value) (below : List Frame) (meth : Method) (c : Code) (D : va_G) (cI cL : ClassId) (ad : Nat → Nat), CX p l s m args meth c own b nL ret D cI cL (AA ad s.heap.size) → (∀ x ∈ c.exceptionTable.toList, False) → WF μ →
      AW p l e (rmA d (mcR r) (msR r)) s m args below meth c nL D cI cL ad (AA ad s.heap.size) 0 0 (QX D cI cL ad r μ' below args s) 0 (lv_args 0 (As ad)) [] μ) : MetX l y b nL ret d As μ r μ' := by
  intro D cI cL ad sz
  refine vx_ofW (cc := b) (maxL := nL) (ret := ret) hy rfl ?_
  intro p e s m args below meth c s₁ B hml hex hv
  obtain ⟨rfl, hsz, hP, hK, hD, hw, hG⟩ := hv
  subst hsz
  have hts := atoms_spec (ws := WSy y b nL ret) B.pre
  have hown : s.vm.findClass own = some m.cls := by rw [← ho]; exact findClass_of_methodNamed B.named
  have C : CX p l s m (As ad).toArray meth c own b nL ret D cI cL (AA ad s.heap.size) := ⟨B.exec, B.bytes, hml, hown, fun w h => hts w (List.mem_cons_of_mem _ h), B.notSynchronized, B.returns, hK, hG, fun q h => Or.inr h, htr⟩
  have hl0 := lv_entry (As ad) (n := nL) (hlen ad)
  rw [lg_entry_eq]
  exact body p e s m _ below meth c D cI cL ad C hex hw s.heap [] _ ⟨hP, hD, va_S.rf, hw⟩ hl0
