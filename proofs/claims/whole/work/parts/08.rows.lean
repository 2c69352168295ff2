theorem kd_7 : ∀ b, b < 55 → ¬ (kd b).1 = 0 → ¬ (kd b).1 = 1 → (kd b).1 = 2 := by decide +kernel
theorem fl_0_0 {ad : Nat → Nat} {μ : Mm} {a : Nat} {v : Int32} : flM ad (setI μ a 0 v) 0 a = (flM ad μ 0 a).set 0 (.int v) := by simp [flM, setI, setA, upd, mNow, mOth, mH]
theorem fl_0_2 {ad : Nat → Nat} {μ : Mm} {a : Nat} {v : Int32} : flM ad (setI μ a 2 v) 0 a = (flM ad μ 0 a).set 2 (.int v) := by simp [flM, setI, setA, upd, mNow, mOth, mH]
theorem fl_0_6 {ad : Nat → Nat} {μ : Mm} {a : Nat} {v : Int32} : flM ad (setI μ a 6 v) 0 a = (flM ad μ 0 a).set 6 (.int v) := by simp [flM, setI, setA, upd, mNow, mOth, mH]
theorem fl_0_13 {ad : Nat → Nat} {μ : Mm} {a : Nat} {v : Int32} : flM ad (setI μ a 13 v) 0 a = (flM ad μ 0 a).set 13 (.int v) := by simp [flM, setI, setA, upd, mNow, mOth, mH]
theorem fl_2_1 {ad : Nat → Nat} {μ : Mm} {a : Nat} {v : Int32} : flM ad (setI μ a 1 v) 2 a = (flM ad μ 2 a).set 1 (.int v) := by simp [flM, setI, setA, upd, mNow, mOth, mH]
theorem fl_4_0 {ad : Nat → Nat} {μ : Mm} {a : Nat} {v : Int32} : flM ad (setI μ a 0 v) 4 a = (flM ad μ 4 a).set 0 (.int v) := by simp [flM, setI, setA, upd, mNow, mOth, mH]
theorem fl_4_4 {ad : Nat → Nat} {μ : Mm} {a : Nat} {v : Int32} : flM ad (setI μ a 4 v) 4 a = (flM ad μ 4 a).set 4 (.int v) := by simp [flM, setI, setA, upd, mNow, mOth, mH]
theorem fl_4_5 {ad : Nat → Nat} {μ : Mm} {a : Nat} {v : Int32} : flM ad (setI μ a 5 v) 4 a = (flM ad μ 4 a).set 5 (.int v) := by simp [flM, setI, setA, upd, mNow, mOth, mH]
theorem fl_4_7 {ad : Nat → Nat} {μ : Mm} {a : Nat} {v : Int32} : flM ad (setI μ a 7 v) 4 a = (flM ad μ 4 a).set 7 (.int v) := by simp [flM, setI, setA, upd, mNow, mOth, mH]
theorem fl_4_12 {ad : Nat → Nat} {μ : Mm} {a : Nat} {v : Int32} : flM ad (setI μ a 12 v) 4 a = (flM ad μ 4 a).set 12 (.int v) := by simp [flM, setI, setA, upd, mNow, mOth, mH]
theorem fl_4_13 {ad : Nat → Nat} {μ : Mm} {a : Nat} {v : Int32} : flM ad (setI μ a 13 v) 4 a = (flM ad μ 4 a).set 13 (.int v) := by simp [flM, setI, setA, upd, mNow, mOth, mH]
theorem fl_4_14 {ad : Nat → Nat} {μ : Mm} {a : Nat} {v : Int32} : flM ad (setI μ a 14 v) 4 a = (flM ad μ 4 a).set 14 (.int v) := by simp [flM, setI, setA, upd, mNow, mOth, mH]
theorem fl_4_15 {ad : Nat → Nat} {μ : Mm} {a : Nat} {v : Int32} : flM ad (setI μ a 15 v) 4 a = (flM ad μ 4 a).set 15 (.int v) := by simp [flM, setI, setA, upd, mNow, mOth, mH]
theorem fl_4_16 {ad : Nat → Nat} {μ : Mm} {a : Nat} {v : Int32} : flM ad (setI μ a 16 v) 4 a = (flM ad μ 4 a).set 16 (.int v) := by simp [flM, setI, setA, upd, mNow, mOth, mH]
theorem fl_4_17 {ad : Nat → Nat} {μ : Mm} {a : Nat} {v : Int32} : flM ad (setI μ a 17 v) 4 a = (flM ad μ 4 a).set 17 (.int v) := by simp [flM, setI, setA, upd, mNow, mOth, mH]
theorem fl_4_18 {ad : Nat → Nat} {μ : Mm} {a : Nat} {v : Int32} : flM ad (setI μ a 18 v) 4 a = (flM ad μ 4 a).set 18 (.int v) := by simp [flM, setI, setA, upd, mNow, mOth, mH]
theorem fl_4_19 {ad : Nat → Nat} {μ : Mm} {a : Nat} {v : Int32} : flM ad (setI μ a 19 v) 4 a = (flM ad μ 4 a).set 19 (.int v) := by simp [flM, setI, setA, upd, mNow, mOth, mH]
theorem fl_4_20 {ad : Nat → Nat} {μ : Mm} {a : Nat} {v : Int32} : flM ad (setI μ a 20 v) 4 a = (flM ad μ 4 a).set 20 (.int v) := by simp [flM, setI, setA, upd, mNow, mOth, mH]
theorem fl_4_21 {ad : Nat → Nat} {μ : Mm} {a : Nat} {v : Int32} : flM ad (setI μ a 21 v) 4 a = (flM ad μ 4 a).set 21 (.int v) := by simp [flM, setI, setA, upd, mNow, mOth, mH]
theorem fl_4_22 {ad : Nat → Nat} {μ : Mm} {a : Nat} {v : Int32} : flM ad (setI μ a 22 v) 4 a = (flM ad μ 4 a).set 22 (.int v) := by simp [flM, setI, setA, upd, mNow, mOth, mH]
theorem fl_4_23 {ad : Nat → Nat} {μ : Mm} {a : Nat} {v : Int32} : flM ad (setI μ a 23 v) 4 a = (flM ad μ 4 a).set 23 (.int v) := by simp [flM, setI, setA, upd, mNow, mOth, mH]
theorem fl_4_24 {ad : Nat → Nat} {μ : Mm} {a : Nat} {v : Int32} : flM ad (setI μ a 24 v) 4 a = (flM ad μ 4 a).set 24 (.int v) := by simp [flM, setI, setA, upd, mNow, mOth, mH]
theorem fl_now {ad : Nat → Nat} {μ : Mm} {x b : Nat} : ∀ {c : Nat}, c ≠ 3 → flM ad (setNow μ x) c b = flM ad μ c b
  | 0, _ => rfl
  | 1, _ => rfl
  | 2, _ => rfl
  | 3, h => absurd rfl h
  | _ + 4, _ => rfl
theorem fl_oth {ad : Nat → Nat} {μ : Mm} {x b : Nat} : ∀ {c : Nat}, c ≠ 3 → flM ad (setOth μ x) c b = flM ad μ c b
  | 0, _ => rfl
  | 1, _ => rfl
  | 2, _ => rfl
  | 3, h => absurd rfl h
  | _ + 4, _ => rfl
theorem fl_h {ad : Nat → Nat} {μ : Mm} {x : Int64} {b : Nat} : ∀ {c : Nat}, c < 4 → flM ad (setH μ x) c b = flM ad μ c b
  | 0, _ => rfl
  | 1, _ => rfl
  | 2, _ => rfl
  | 3, _ => rfl
  | n + 4, h => absurd h (by omega)
theorem fl_out {ad : Nat → Nat} {μ : Mm} {x : Int64} {b : Nat} : ∀ {c : Nat}, flM ad (setOut μ x) c b = flM ad μ c b
  | 0 => rfl
  | 1 => rfl
  | 2 => rfl
  | 3 => rfl
  | _ + 4 => rfl
theorem ws_now {cI cL : ClassId} {ad : Nat → Nat} {μ : Mm} {x : Nat} : (wsM cI cL ad μ).set 0 (ad 0, .inr (3, (flM ad μ 3 0).set 1 (.ref (ad x)))) = wsM cI cL ad (setNow μ x) :=
  wsM_upd (by decide) (by rw [ce_obj (ci := 3) rfl]; rfl) (ce_other (fun b c hb hne => fl_now (fun h => hne (kd_3 b (kd_lt hb (show 1 < 9 by decide)) (by rw [hb]) (by rw [hb]; exact h)))) rfl rfl)
theorem ws_oth {cI cL : ClassId} {ad : Nat → Nat} {μ : Mm} {x : Nat} : (wsM cI cL ad μ).set 0 (ad 0, .inr (3, (flM ad μ 3 0).set 2 (.ref (ad x)))) = wsM cI cL ad (setOth μ x) :=
  wsM_upd (by decide) (by rw [ce_obj (ci := 3) rfl]; rfl) (ce_other (fun b c hb hne => fl_oth (fun h => hne (kd_3 b (kd_lt hb (show 1 < 9 by decide)) (by rw [hb]) (by rw [hb]; exact h)))) rfl rfl)
theorem ws_h {cI cL : ClassId} {ad : Nat → Nat} {μ : Mm} {x : Int64} : (wsM cI cL ad μ).set 45 (ad 45, .inr (4, (flM ad μ 4 45).set 25 (.long x))) = wsM cI cL ad (setH μ x) :=
  wsM_upd (by decide) (by rw [ce_obj (ci := 4) rfl]; rfl) (ce_other (fun b c hb hne => fl_h (Nat.lt_of_not_le (fun h => hne (kd_4 b (kd_lt hb (show 1 < 9 by decide)) (by rw [hb]) (by rw [hb]; exact h))))) rfl rfl)
theorem ws_out {cI cL : ClassId} {ad : Nat → Nat} {μ : Mm} {x : Int64} {f : Nat → Int64} (hf : ∀ j, f j = if j = 0 then x else 0) : (wsM cI cL ad μ).set 54 (ad 54, .inl (cL, 1, .inr (.inl f))) = wsM cI cL ad (setOut μ x) := by
  have hf' : f = fun j => if j = 0 then x else 0 := funext hf
  subst hf'
  refine wsM_upd (by decide) (by rw [ce_lng (n := 1) rfl]; rfl) (fun b hb hne => ?_)
  unfold ceM
  by_cases q0 : (kd b).1 = 0
  · rw [if_pos q0, if_pos q0]; rfl
  · rw [if_neg q0, if_neg q0]
    by_cases q1 : (kd b).1 = 1
    · rw [if_pos q1, if_pos q1, fl_out]
    · exact absurd (kd_6 b hb (kd_7 b hb q0 q1)) hne
theorem updL_0 {o x : Int64} {j : Nat} : vp_updL (fun j => if j = 0 then o else 0) (Int32.toNatClampNeg 0) x j = if j = 0 then x else 0 := by
  unfold vp_updL
  by_cases q : j = 0
  · subst q
    rfl
  · rw [if_neg (show ¬ j = Int32.toNatClampNeg 0 from q), if_neg q]
    exact if_neg q
section AWJ
variable {p : Program} {l : Launch} {e : Env} {R : Room} {s : State} {m : MethodId} {args : Array Value} {below : List Frame} {meth : Method} {c : Code} {nL : Nat} {D : va_G} {cI cL : ClassId} {ad : Nat → Nat} {A : Nat → Prop} {cs sl : Nat} {Q : State → Prop} {pc : Nat} {lv lv' : List (Nat × Value)} {st : List Value} {μ μ' : Mm} {own : String} {b : ByteArray} {ret : Option FieldType}
theorem aw_putI (C : CX p l s m args meth c own b nL ret D cI cL A) {Cn : String} {Tc : u_T} {Nc ci idx a k : Nat} {v : Int32} {ty : FieldType} (hin : ∀ w ∈ u_ws Cn Tc Nc, w ∈ WS) (ty0 : Nat → FieldType) (hty : ∀ k, k < Nc → parseFieldDescriptor (Tc k).2.2.1 = some (ty0 k)) (hnm : ∀ a, a < Nc → ∀ b, b < Nc → a ≠ b → (Tc a).2.1 ≠ (Tc b).2.1) (hk : kd a = (1, ci)) (hc : vwCl[ci]? = some (Cn, Tc, Nc)) (hN : k < Nc) (hlk : Cond.fieldLink own idx (Tc k).1 (Tc k).2.1 (Tc k).2.2.1 ∈ WS) (hfin : (Tc k).2.2.2 = false) (hdsc : parseFieldDescriptor (Tc k).2.2.1 = some ty) (hnar : narrow ty (.int v) = .int v) (hfit : fits ty (.int v) = true) (hlen : k < (flM ad μ ci a).length) (hd : decode b pc = .ok (.putfield idx, 3)) (hfl : flM ad (setI μ a k v) ci a = (flM ad μ ci a).set k (.int v)) (hm : μ' = setI μ a k v) (kk : AW p l e R s m args below meth c nL D cI cL ad A cs sl Q (pc + 3) lv st μ') : AW p l e R s m args below meth c nL D cI cL ad A cs sl Q pc lv (.int v :: .ref (ad a) :: st) μ := aw_putV C hin ty0 hty hnm hk hc hN hlk hfin hdsc hnar hfit hlen hd (fun h => by subst hm; exact h) (by subst hm; exact ws_setF hk hfl) kk
theorem aw_putIN (C : CX p l s m args meth c own b nL ret D cI cL A) {host : String} {Cn : String} {Tc : u_T} {Nc ci idx a k : Nat} {v : Int32} {ty : FieldType} (hin : ∀ w ∈ u_ws Cn Tc Nc, w ∈ WS) (ty0 : Nat → FieldType) (hty : ∀ k, k < Nc → parseFieldDescriptor (Tc k).2.2.1 = some (ty0 k)) (hnm : ∀ a, a < Nc → ∀ b, b < Nc → a ≠ b → (Tc a).2.1 ≠ (Tc b).2.1) (hk : kd a = (1, ci)) (hc : vwCl[ci]? = some (Cn, Tc, Nc)) (hN : k < Nc) (hlk : Cond.fieldLinkNest own idx (Tc k).1 (Tc k).2.1 (Tc k).2.2.1 host ∈ NW) (hfin : (Tc k).2.2.2 = false) (hdsc : parseFieldDescriptor (Tc k).2.2.1 = some ty) (hnar : narrow ty (.int v) = .int v) (hfit : fits ty (.int v) = true) (hlen : k < (flM ad μ ci a).length) (hd : decode b pc = .ok (.putfield idx, 3)) (hfl : flM ad (setI μ a k v) ci a = (flM ad μ ci a).set k (.int v)) (hm : μ' = setI μ a k v) (kk : AW p l e R s m args below meth c nL D cI cL ad A cs sl Q (pc + 3) lv st μ') : AW p l e R s m args below meth c nL D cI cL ad A cs sl Q pc lv (.int v :: .ref (ad a) :: st) μ := aw_putVN C hin ty0 hty hnm hk hc hN hlk hfin hdsc hnar hfit hlen hd (fun h => by subst hm; exact h) (by subst hm; exact ws_setF hk hfl) kk
theorem aw_lastore (C : CX p l s m args meth c own b nL ret D cI cL A) {i : Int32} {x : Int64} (hi : i = 0) (hd : decode b pc = .ok (.lastore, 1)) (hm : μ' = setOut μ x) (kk : AW p l e R s m args below meth c nL D cI cL ad A cs sl Q (pc + 1) lv st μ') : AW p l e R s m args below meth c nL D cI cL ad A cs sl Q pc lv (.long x :: .int i :: .ref (ad 54) :: st) μ := fun H locs ls hR hl => va_last C.1 C.2.1 C.2.2.2.2.2.2.2.1 hR.1 hR.2.1 hR.2.2.1 54 1 (ws_lng (n := 1) rfl) rfl (by subst hi; exact vp_in_0) hd (fun H1 locs1 hP hD hS => by rw [ws_out (x := x) (fun j => by subst hi; exact updL_0)] at hP hD; subst hm; exact kk H1 locs1 ls ⟨hP, hD, hS, hR.2.2.2⟩ hl)
theorem aw_iret (C : CX p l s m args meth c own b nL (some .int) D cI cL (AA ad s.heap.size)) {v : Int32} (hd : decode b pc = .ok (.ireturn, 1)) : AW p l e R s m args below meth c nL D cI cL ad (AA ad s.heap.size) 0 0 (QX D cI cL ad (.inr (some (.int v))) μ below args s) pc lv [.int v] μ := fun H locs ls hR hl => vx_ret (W.iret C.1 C.2.1 C.2.2.2.2.2.2.1 (fun t ht hW => ⟨_, rfl, rfl, by rw [ht]; exact hR.1, hR.2.2.2, hR.2.2.1.F ht⟩) hR.2.2.1.2.2 hd C.2.2.2.2.2.1)
theorem aw_zret (C : CX p l s m args meth c own b nL (some .boolean) D cI cL (AA ad s.heap.size)) {v : Int32} (hn : narrow .boolean (.int v) = .int v) (hd : decode b pc = .ok (.ireturn, 1)) : AW p l e R s m args below meth c nL D cI cL ad (AA ad s.heap.size) 0 0 (QX D cI cL ad (.inr (some (.int v))) μ below args s) pc lv [.int v] μ := fun H locs ls hR hl => vx_ret (W.zret C.1 C.2.1 C.2.2.2.2.2.2.1 hn (fun t ht hW => ⟨_, rfl, rfl, by rw [ht]; exact hR.1, hR.2.2.2, hR.2.2.1.F ht⟩) hR.2.2.1.2.2 hd C.2.2.2.2.2.1)
theorem aw_vret (C : CX p l s m args meth c own b nL none D cI cL (AA ad s.heap.size)) (hd : decode b pc = .ok (.return_, 1)) : AW p l e R s m args below meth c nL D cI cL ad (AA ad s.heap.size) 0 0 (QX D cI cL ad (.inr none) μ below args s) pc lv [] μ := fun H locs ls hR hl => vx_ret (W.vret C.1 C.2.1 C.2.2.2.2.2.2.1 (fun t ht hW => ⟨_, rfl, rfl, by rw [ht]; exact hR.1, hR.2.2.2, hR.2.2.1.F ht⟩) hR.2.2.1.2.2 hd C.2.2.2.2.2.1)
theorem aw_lret (C : CX p l s m args meth c own b nL (some .long) D cI cL (AA ad s.heap.size)) {v : Int64} (hd : decode b pc = .ok (.lreturn, 1)) : AW p l e R s m args below meth c nL D cI cL ad (AA ad s.heap.size) 0 0 (QX D cI cL ad (.inr (some (.long v))) μ below args s) pc lv [.long v] μ := fun H locs ls hR hl => vx_ret (W.lret C.1 C.2.1 C.2.2.2.2.2.2.1 (fun t ht hW => ⟨_, rfl, rfl, by rw [ht]; exact hR.1, hR.2.2.2, hR.2.2.1.F ht⟩) hR.2.2.1.2.2 hd C.2.2.2.2.2.1)
theorem aw_dret (C : CX p l s m args meth c own b nL (some .double) D cI cL (AA ad s.heap.size)) {v : UInt64} (hd : decode b pc = .ok (.dreturn, 1)) : AW p l e R s m args below meth c nL D cI cL ad (AA ad s.heap.size) 0 0 (QX D cI cL ad (.inr (some (.double v))) μ below args s) pc lv [.double v] μ := fun H locs ls hR hl => vx_ret (W.dret C.1 C.2.1 C.2.2.2.2.2.2.1 (fun t ht hW => ⟨_, rfl, rfl, by rw [ht]; exact hR.1, hR.2.2.2, hR.2.2.1.F ht⟩) hR.2.2.1.2.2 hd C.2.2.2.2.2.1)
end AWJ
