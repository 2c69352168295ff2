theorem q16 : Cond.classLink RL 8 RX3 ∈ WS := memT 16 (by decide +kernel) (by decide +kernel)
theorem q17 : Cond.instantiable RX3 3 ∈ WS := memT 17 (by decide +kernel) (by decide +kernel)
theorem q730 : Cond.classLink RL 85 RX4 ∈ WS := memT 730 (by decide +kernel) (by decide +kernel)
theorem q731 : Cond.instantiable RX4 26 ∈ WS := memT 731 (by decide +kernel) (by decide +kernel)
theorem q19 : Cond.instanceMethod yX3_init ∈ WS := memT 19 (by decide +kernel) (by decide +kernel)
theorem q20 : Cond.code yX3_init cX3_init 1 none ∈ WS := memT 20 (by decide +kernel) (by decide +kernel)
theorem q733 : Cond.instanceMethod yX4_init ∈ WS := memT 733 (by decide +kernel) (by decide +kernel)
theorem q734 : Cond.code yX4_init cX4_init 1 none ∈ WS := memT 734 (by decide +kernel) (by decide +kernel)
theorem q18 : Cond.methodLink RL 84 yX3_init ∈ WS := memT 18 (by decide +kernel) (by decide +kernel)
theorem q732 : Cond.methodLink RL 87 yX4_init ∈ WS := memT 732 (by decide +kernel) (by decide +kernel)
theorem q1167 : Cond.arrayClass .long ∈ WS := memT 1167 (by decide +kernel) (by decide +kernel)
theorem ki_X3_init : OKI yX3_init cX3_init := ⟨⟨q19, q1, q20⟩, rfl, by decide +kernel⟩
theorem ki_X4_init : OKI yX4_init cX4_init := ⟨⟨q733, q5, q734⟩, rfl, by decide +kernel⟩
def adG (ad1 ad2 : Nat → Nat) (qo : Nat) : Nat → Nat := fun k => if k < 45 then ad1 k else if k < 54 then ad2 (k - 45) else qo
def μ0 : Mm := (fun a => match a with
  | 3 => upd (fun _ => 0) 0 1
  | 4 => upd (fun _ => 0) 0 (-1)
  | 24 => upd (fun _ => 0) 0 1
  | 25 => upd (fun _ => 0) 0 (-1)
  | 46 => upd (upd (fun _ => 0) 0 1) 4 (-1)
  | _ => fun _ => 0, (3, 24), (0, 0))
theorem ws0_out : (fun _ : Nat => (0 : Int64)) = (fun j => if j = 0 then mOut μ0 else 0) := funext fun j => by
  by_cases h : j = 0
  · rw [if_pos h]; rfl
  · rw [if_neg h]
set_option maxRecDepth 100000 in
set_option maxHeartbeats 4000000 in
theorem ws0 (cI cL : ClassId) (ad1 ad2 : Nat → Nat) (qo : Nat) : wNs cI ad1 ++ wMo cI ad2 ++ [(qo, .inl (cL, 1, .inr (.inl (fun _ => 0))))] = wsM cI cL (adG ad1 ad2 qo) μ0 := by
  rw [ws0_out]
  rfl
theorem WF0 : WF μ0 := ⟨Or.inl rfl, Or.inr rfl⟩
/-! THE CLAIM OUT OF ONE WALK OF THE LAW'S BODY. Your part is whole_start (and what it stands on); all else here is the same for every law, but numbers. -/
def R_law : String := "NameScopesLaw"
def lw_P (b : Addr) (xs : List Int32) (args : Array Value) (s : State) : Prop := args = #[.ref b] ∧ s.IntsAt b xs ∧ xs.length ≤ 3072 ∧ (Jvm.Cond.and given_1 narrow_1).before args s = true
/-- what a walk over the start with the record d0 says of its end, said of the start itself -/
theorem lw_closed {s t : State} {o : Outcome} {d0 : Drawn} {L : List Loc} {k n : Nat} (hd0 : s.drawn.sameBut d0 lw_cs) (hv : ∃ v, o = .returned v) (hW : (s.setDrawn d0).WarmedH t.vm) (hs : (s.setDrawn d0).sameButNew ({ t with vm := s.vm } : State) L k n) : State.butDraws s t lw_cs (fun t1 => Framed s o t1 L k n) := by
  have h2 : t.drawn = d0 := congrArg State.drawn hs.1
  refine ⟨⟨hv, hW, State.sameButNew.setDrawn hs s.drawn⟩, ?_, by decide⟩
  rw [h2]
  exact hd0
def lw_Q (_ : Array Value) (s : State) (o : Outcome) (t : State) : Prop := o = .returned (some (.int 1)) ∧ State.butDraws s t lw_cs (fun t1 => Framed s o t1 [] 1088 13600)
def lw_Z (below : List Frame) (a : Array Value) (s : State) : State → Prop := fun t => ∃ o, t.status = .running ∧ Ended t below o ∧ lw_Q a s o t
/-- the law's own end, with 1 on the stack, nothing written that was there before, its room as the claim has it; d0: the record of draws at this point (at the entry s.drawn: begin with 'refine W.base ?_' and 'have hd0 := Drawn.sameBut.refl s.drawn lw_cs') -/
theorem lw_ret {p : Program} {l : Launch} {e : Env} {s : State} {m : MethodId} {below : List Frame} {meth : Method} {c : Code} {b : Nat} {d0 : Drawn} (hd0 : s.drawn.sameBut d0 lw_cs) (hx : p.tables.exec = Jvm.exec) (hb : c.code = code) (hr : meth.sig.returnType = ret) (hlocks : meth.locks = false) {pc : Nat} {H : Heap} {ls : Array Slot} (hdg : decode code pc = .ok (.ireturn, 1)) : W p l e room_1 (s.setDrawn d0) m #[Value.ref b] below meth c H [] 1088 13600 (lw_Z below #[Value.ref b] s) (F0 m pc ls [.int 1]) := by
  intro T hT X
  obtain ⟨fs, hret, hrun, hended, hW, hframe⟩ := X.leave (v := some (.int 1)) (hlocks := hlocks) (fun h => by rw [hr] at h; cases h)
  have hmeth' : T.vm.method? m = some meth := X.method'
  refine ⟨T.setFrames fs, ?_, .returned (some (.int 1)), hrun, hended, rfl, lw_closed hd0 ⟨_, rfl⟩ hW hframe⟩
  jvm_step X.here [X.here.top, hx, hb, hdg, hmeth', hr, ret, narrow_b1]
  (try refine ⟨rfl, ?_⟩); (try refine ⟨rfl, ?_⟩)
  first | (intro acts; rw [hret _ acts rfl rfl rfl]) | rw [hret _ _ rfl rfl rfl]
  exact Steps.refl _
/-- what holds at the law's entry: the machine, the code, the tables' words (any of lw_tbl by 'hts w (by decide +kernel)'), the script of L ints xs at the cell b, what the Statement gives of the start (any of its parts by flat_of_before) -/
def lw_At (p : Program) (s : State) (m : MethodId) (meth : Method) (c : Code) (b L : Nat) (xs : Nat → Int32) : Prop :=
  p.tables.exec = Jvm.exec ∧ c.code = code ∧ meth.sig.returnType = ret ∧ c.maxLocals = 9 ∧ s.vm.findClass R_law = some m.cls ∧ (∀ w ∈ lw_tbl, w.before #[Value.ref b] s = true) ∧ va_X b L xs s s.heap ∧ b < s.heap.size ∧ meth.locks = false ∧ (Jvm.Cond.and given_1 narrow_1).before #[Value.ref b] s = true

section LOOP
variable {p : Program} {l : Launch} {e : Env} {s : State} {m : MethodId} {args : Array Value} {below : List Frame} {meth : Method} {c : Code} {D : va_G} {cI cL : ClassId} {ad : Nat → Nat} {A : Nat → Prop} {Q : State → Prop} {bS L : Nat} {xs : Nat → Int32} {ret9 : Option FieldType}
set_option maxRecDepth 100000 in
/-- the law's loop, over what a step keeps -/
theorem law_loop (C : CX p l s m args meth c RL cL_law 9 ret9 D cI cL A) (hN : NcX s) (hX : va_X bS L xs s s.heap) (hbl : bS < s.heap.size) (hbA : ¬ A bS) (hL : L ≤ 3072) (Inv : Mm → Prop)
    (hstep : ∀ (j : Nat) (μ : Mm), Inv μ → 6 * j + 6 ≤ L → ∃ μ', L_step xs L (nI (6 * j)) μ = some μ' ∧ Inv μ')
    (hend : ∀ (μ : Mm) (k : Int32), AW p l e room_1 s m args below meth c 9 D cI cL ad A 1088 13600 Q 1716 [(0, .ref bS), (1, .ref (ad 0)), (2, .ref (ad 45)), (3, .ref (ad 54)), (4, .int k)] [] μ) :
    ∀ (n j : Nat) (μ : Mm) (cs sl : Nat), L + 6 ≤ 6 * j + 6 * n → j ≤ 512 → Inv μ → cs ≤ 55 + j → sl ≤ 5354 + 6 * j → AW p l e room_1 s m args below meth c 9 D cI cL ad A cs sl Q 23 [(0, .ref bS), (1, .ref (ad 0)), (2, .ref (ad 45)), (3, .ref (ad 54)), (4, .int (nI (6 * j)))] [] μ := by
  intro n
  induction n with
  | zero =>
    intro j μ cs sl hn hj hI hcs hsl
    refine aw_iload (pc := 23) C dL_law_23 4 rfl ?_
    refine aw_aload_n (pc := 25) C dL_law_25 rfl 0 rfl ?_
    refine aw_slen (pc := 26) C hX hbl hbA dL_law_26 ?_
    refine aw_bipush (pc := 27) C (v := 6) dL_law_27 rfl ?_
    refine aw_isub (pc := 29) C dL_law_29 ?_
    refine aw_icmp_gt (pc := 30) C 1716 dL_law_30 rfl (fun _ => ?_) (fun h => ?_)
    · exact aw_widen 1088 13600 (by omega) (by omega) (hend μ _)
    · exfalso
      apply h
      rw [Int32.lt_iff_toInt_lt, show (6 : Int32) = nI 6 from rfl, pk_sub_toInt (by omega) (by omega), nI_toInt (by omega)]
      omega
  | succ n ih =>
    intro j μ cs sl hn hj hI hcs hsl
    refine aw_iload (pc := 23) C dL_law_23 4 rfl ?_
    refine aw_aload_n (pc := 25) C dL_law_25 rfl 0 rfl ?_
    refine aw_slen (pc := 26) C hX hbl hbA dL_law_26 ?_
    refine aw_bipush (pc := 27) C (v := 6) dL_law_27 rfl ?_
    refine aw_isub (pc := 29) C dL_law_29 ?_
    refine aw_icmp_gt (pc := 30) C 1716 dL_law_30 rfl (fun _ => ?_) (fun h => ?_)
    · exact aw_widen 1088 13600 (by omega) (by omega) (hend μ _)
    · have hlt : 6 * j + 6 ≤ L := by
        rw [Int32.lt_iff_toInt_lt, show (6 : Int32) = nI 6 from rfl, pk_sub_toInt (by omega) (by omega), nI_toInt (by omega)] at h
        omega
      obtain ⟨μ', h1, h2⟩ := hstep j μ hI hlt
      refine ok_L_step C ⟨hN, hX, hbl, hbA, by omega, by omega⟩ ?_ h1
      refine aw_iinc (pc := 1710) C (v := nI (6 * (j + 1))) (lv' := [(4, .int (nI (6 * (j + 1)))), (0, .ref bS), (1, .ref (ad 0)), (2, .ref (ad 45)), (3, .ref (ad 54))]) dL_law_1710 4 rfl (by decide) ?_ rfl ?_
      · rw [show Int32.ofInt 6 = nI 6 from rfl, nI_add, Nat.mul_add]
      · refine aw_goto (pc := 1713) C 23 dL_law_1713 rfl ?_
        exact aw_sub [1, 2, 3, 4, 0] rfl (ih (j + 1) μ' (cs + 1) (sl + 6) (by omega) (by omega) h2 (by omega) (by omega))
end LOOP
theorem arr_known {args : Array Value} {s : State} {ty : FieldType} (hp : (∀ C, ty ≠ .object C)) (h : (Cond.arrayClass ty).before args s = true) : ∃ cA, ArrOfT s cA ty ∧ va_RA s cA ty := by
  obtain ⟨c, k, comp, h1, h2, h3⟩ := Cond.arrayClass_spec h
  refine ⟨c, fun n z => ⟨fun k h => (by cases h), k, h2, comp, h3⟩, ?_⟩
  cases ty <;> first | exact h1 | exact absurd rfl (hp _)
theorem sw_ok : ∀ q ∈ SW, Cond.exactly (.string q.1 q.2.1) "java/lang/String" ∈ flatC (Jvm.Cond.and given_1 narrow_1) := by decide +kernel
theorem nc_ok : ∀ q ∈ ncs, Cond.not (.castable q.1 q.2) ∈ flatC (Jvm.Cond.and given_1 narrow_1) := by decide +kernel
theorem sw_mem : ∀ q ∈ SW, Cond.stringRef q.1 q.2.1 q.2.2 ∈ tables_1 := by
  intro q hq
  obtain ⟨w, hw, he⟩ := List.mem_filterMap.mp hq
  cases w <;> simp at he
  subst he
  exact hw
set_option maxHeartbeats 4000000 in
set_option maxRecDepth 100000 in
/-- THE LAW, from its entry, out of what a step keeps -/
theorem whole_open (Inv : Mm → Prop) (h0 : Inv μ0) (hstep : ∀ (xs : Nat → Int32) (L j : Nat) (μ : Mm), L ≤ 3072 → Inv μ → 6 * j + 6 ≤ L → ∃ μ', L_step xs L (nI (6 * j)) μ = some μ' ∧ Inv μ')
    {p : Program} {e : Env} {s : State} {m : MethodId} {below : List Frame} {meth : Method} {c : Code} (l : Launch) (hflags : l.flags = flags0) {b L : Nat} {xs : Nat → Int32} (hL : L ≤ 3072) (C0 : lw_At p s m meth c b L xs) : W p l e room_1 s m #[Value.ref b] below meth c s.heap [] 0 0 (lw_Z below #[Value.ref b] s) (entryFrame m ([Value.ref b] : List Value).toArray 9) := by
  obtain ⟨hx, hb, hr, hml, hown, hts0, hX, hbl, hlocks, hgv⟩ := id C0
  have hgs := flat_of_before _ hgv
  have hts : ∀ w ∈ WS, w.before #[Value.ref b] s = true := fun w h => hts0 w (List.mem_filter.mp h).1
  have htb : ∀ w ∈ tables_1, w.before #[Value.ref b] s = true := fun w h => hts0 w (List.mem_append_right _ h)
  have htr : l.stackTraces = false := by unfold Launch.stackTraces; rw [hflags]; decide +kernel
  have hA : ∀ q : Nat, s.heap.size ≤ q → (fun q : Nat => s.heap.size ≤ q) q := fun _ h => h
  have hbA : ¬ (fun q : Nat => s.heap.size ≤ q) b := Nat.not_le.mpr hbl
  have hnA : ∀ a : Nat, a < s.heap.size → ¬ (fun q : Nat => s.heap.size ≤ q) a := fun a h => Nat.not_le.mpr h
  obtain ⟨c0, i0, hK0⟩ := u_known (C := RX0) (T := TX0) (N := 18) (n := 18) hts inX0 (htb (.instantiable RX0 18) (by decide +kernel))
  obtain ⟨c1, i1, hK1⟩ := u_known (C := RX1) (T := TX1) (N := 6) (n := 6) hts inX1 (htb (.instantiable RX1 6) (by decide +kernel))
  obtain ⟨c2, i2, hK2⟩ := u_known (C := RX2) (T := TX2) (N := 2) (n := 2) hts inX2 (htb (.instantiable RX2 2) (by decide +kernel))
  obtain ⟨c3, i3, hK3⟩ := u_known (C := RX3) (T := TX3) (N := 3) (n := 3) hts inX3 (htb (.instantiable RX3 3) (by decide +kernel))
  obtain ⟨c4, i4, hK4⟩ := u_known (C := RX4) (T := TX4) (N := 26) (n := 26) hts inX4 (htb (.instantiable RX4 26) (by decide +kernel))
  obtain ⟨D, hKc⟩ : ∃ D : va_G, ∀ (k : Nat) (q : vw_C), vwCl[k]? = some q → u_Kn s q.1 q.2.1 q.2.2 (D.1 k) (D.2 k) := by
    refine ⟨(fun k => if k = 0 then c0 else if k = 1 then c1 else if k = 2 then c2 else if k = 3 then c3 else c4, fun k => if k = 0 then i0 else if k = 1 then i1 else if k = 2 then i2 else if k = 3 then i3 else i4), ?_⟩
    intro k q hq
    match k, hq with
    | 0, hq => cases hq; exact hK0
    | 1, hq => cases hq; exact hK1
    | 2, hq => cases hq; exact hK2
    | 3, hq => cases hq; exact hK3
    | 4, hq => cases hq; exact hK4
    | k + 5, hq => simp [vwCl] at hq
  obtain ⟨cI, hcI⟩ := arr_known (ty := .int) (fun C h => by cases h) (hts _ q38)
  obtain ⟨cL, hcL⟩ := arr_known (ty := .long) (fun C h => by cases h) (hts _ q1167)
  have hK : va_K D vwCl [(cI, .int), (cL, .long)] s := ⟨hKc, fun k q h => by
    match k, h with
    | 0, h => cases h; exact hcI
    | 1, h => cases h; exact hcL
    | k + 2, h => simp at h⟩
  have hNW : ∀ w ∈ NW, va_Nw w s := fun w hw => va_Nw.of (Nw_on hw) (htb w (List.mem_filter.mp hw).1)
  have hNc : NcX s := fun q hq => va_Nc.of (hgs _ (nc_ok q hq))
  have hGL : GL (fun q : Nat => s.heap.size ≤ q) s s.heap := by
    refine ⟨hNW, fun q hq => ?_, vx_Zqof (htb _ (by decide +kernel)) (htb _ (by decide +kernel)) (hgs _ (by decide +kernel)) hnA, vx_Zqof (htb _ (by decide +kernel)) (htb _ (by decide +kernel)) (hgs _ (by decide +kernel)) hnA⟩
    obtain ⟨a, -, -, -, ha, -⟩ := Cond.exactly_spec (hgs _ (sw_ok q hq))
    exact ⟨a, vk_R.of (htb _ (sw_mem q hq)) ha⟩
  refine W.base ?_
  have hl := lv_entry ([.ref b]) (n := 9) (Nat.le_of_ble_eq_true rfl)
  rw [lg_entry_eq]
  have CY0 : CY p l (s.setDrawn s.drawn) m #[Value.ref b] meth c RL cL_law 9 ret D cI cL (fun q : Nat => s.heap.size ≤ q) := ⟨hx, hb, hml, hown, fun w h => dr_words hts _ w h, hlocks, hr, hK, hNW, hA⟩
  have CX0 : CX p l (s.setDrawn s.drawn) m #[Value.ref b] meth c RL cL_law 9 ret D cI cL (fun q : Nat => s.heap.size ≤ q) := ⟨hx, hb, hml, hown, fun w h => dr_words hts _ w h, hlocks, hr, hK, hGL, hA, htr⟩
  suffices K : AC p l e room_1 (s.setDrawn s.drawn) m #[Value.ref b] below meth c 9 D (fun q : Nat => s.heap.size ≤ q) 0 0 (lw_Z below #[Value.ref b] s) 0 [(0, .ref b)] [] [] from
    K s.heap [] _ (fun k q h => by simp at h) ⟨fun i j p q h => by simp at h, fun k q h => by simp at h⟩ va_S.rf hl
  refine ac_new (pc := 0) CY0 (ci := 3) (fs := [.null, .null, .null]) inX3 tyX3 tyX3_ok q16 q17 q1 rfl (fun j hj => dfl_X3 j hj) (Nat.le_of_ble_eq_true rfl) (Nat.le_of_ble_eq_true rfl) dL_law_0 (fun u1 => ?_)
  refine ac_dup (pc := 3) CY0 dL_law_3 rfl ?_
  refine ac_ctor (pc := 4) CY0 (pre := []) (q := u1) (m_X3_init l) ki_X3_init q18 (Nat.le_of_ble_eq_true rfl) dL_law_4 ⟨(show 4 ≤ 15 by decide), (show 113 ≤ 578 by decide)⟩ ⟨Nat.le_of_ble_eq_true rfl, Nat.le_of_ble_eq_true rfl⟩ rfl (fun ad1 had => ?_)
  subst had
  refine ac_astore_n (pc := 7) CY0 (x := ad1 0) (lv' := [(1, .ref (ad1 0)), (0, .ref b)]) dL_law_7 rfl (by decide) rfl ?_
  refine ac_new (pc := 8) CY0 (ci := 4) (fs := [.int 0, .null, .null, .null, .int 0, .int 0, .null, .int 0, .null, .null, .null, .null, .int 0, .int 0, .int 0, .int 0, .int 0, .int 0, .int 0, .int 0, .int 0, .int 0, .int 0, .int 0, .int 0, .long 0]) inX4 tyX4 tyX4_ok q730 q731 q5 rfl (fun j hj => dfl_X4 j hj) (Nat.le_of_ble_eq_true rfl) (Nat.le_of_ble_eq_true rfl) dL_law_8 (fun u2 => ?_)
  refine ac_dup (pc := 11) CY0 dL_law_11 rfl ?_
  refine ac_ctor (pc := 12) CY0 (pre := [] ++ wNs cI ad1) (q := u2) (m_X4_init l) ki_X4_init q732 (Nat.le_of_ble_eq_true rfl) dL_law_12 ⟨(show 2 ≤ 15 by decide), (show 51 ≤ 578 by decide)⟩ ⟨Nat.le_of_ble_eq_true rfl, Nat.le_of_ble_eq_true rfl⟩ rfl (fun ad2 had => ?_)
  subst had
  refine ac_astore_n (pc := 15) CY0 (x := ad2 0) (lv' := [(2, .ref (ad2 0)), (1, .ref (ad1 0)), (0, .ref b)]) dL_law_15 rfl (by decide) rfl ?_
  refine ac_iconst (pc := 16) CY0 (v := 1) dL_law_16 rfl ?_
  refine ac_newl (pc := 17) CY0 (N := 1) q1167 (by decide) rfl (by decide) (Nat.le_of_ble_eq_true rfl) (Nat.le_of_ble_eq_true rfl) dL_law_17 (fun qo => ?_)
  refine ac_astore_n (pc := 19) CY0 (x := qo) (lv' := [(3, .ref qo), (2, .ref (ad2 0)), (1, .ref (ad1 0)), (0, .ref b)]) dL_law_19 rfl (by decide) rfl ?_
  refine ac_iconst (pc := 20) CY0 (v := 0) dL_law_20 rfl ?_
  refine ac_istore (pc := 21) CY0 (x := 0) (lv' := [(4, .int 0), (3, .ref qo), (2, .ref (ad2 0)), (1, .ref (ad1 0)), (0, .ref b)]) dL_law_21 (by decide) rfl ?_
  refine ac_sub [4, 3, 2, 1, 0] rfl ?_
  refine ac_widen 55 5354 (Nat.le_of_ble_eq_true rfl) (Nat.le_of_ble_eq_true rfl) ?_
  have K2 : AW p l e room_1 (s.setDrawn s.drawn) m #[Value.ref b] below meth c 9 D cI cL (adG ad1 ad2 qo) (fun q : Nat => s.heap.size ≤ q) 55 5354 (lw_Z below #[Value.ref b] s) 23 [(0, .ref b), (1, .ref (ad1 0)), (2, .ref (ad2 0)), (3, .ref qo), (4, .int 0)] [] μ0 := by
    refine law_loop (ad := adG ad1 ad2 qo) CX0 hNc hX hbl hbA hL Inv (fun j μ => hstep xs L j μ hL) (fun μ k => ?_) (L + 1) 0 μ0 55 5354 (by omega) (by omega) h0 (Nat.le_refl _) (Nat.le_refl _)
    refine aw_iconst (pc := 1716) CX0 (v := 1) dL_law_1716 rfl ?_
    intro H locs ls hR hl9
    refine va_forget (fun q hq => hR.2.2.1.2.2 q hq) ?_
    exact lw_ret (Drawn.sameBut.refl s.drawn lw_cs) hx hb hr hlocks dL_law_1717
  intro H locs ls hP hD hS hl9
  have e1 : ([] ++ wNs cI ad1 ++ wMo cI ad2 ++ [(qo, .inl (cL, 1, .inr (.inl (fun _ => 0))))] : va_W) = wsM cI cL (adG ad1 ad2 qo) μ0 := ws0 cI cL ad1 ad2 qo
  rw [e1] at hP hD
  exact K2 H locs ls ⟨hP, hD, hS, WF0⟩ hl9

