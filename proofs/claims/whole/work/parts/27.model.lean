theorem q735 : Cond.methodLink RX4 1 Lib.objectInit ∈ WS := memT 735 (by decide +kernel) (by decide +kernel)
def wMo0 (cI : ClassId) (ad : Nat → Nat) : va_W := [((ad 0), .inr (4, [.int 0, .ref (ad 1), .ref (ad 2), .ref (ad 3), .int 0, .int 0, .ref (ad 4), .int 0, .ref (ad 5), .ref (ad 6), .ref (ad 7), .ref (ad 8), .int 0, .int 0, .int 0, .int 0, .int 0, .int 0, .int 0, .int 0, .int 0, .int 0, .int 0, .int 0, .int 0, .long 0])), ((ad 1), .inl (cI, 290, .inl (fun _ => 0))), ((ad 2), .inl (cI, 290, .inl (fun _ => 0))), ((ad 3), .inl (cI, 416, .inl (fun _ => 0))), ((ad 4), .inl (cI, 50, .inl (fun _ => 0))), ((ad 5), .inl (cI, 48, .inl (fun _ => 0))), ((ad 6), .inl (cI, 48, .inl (fun _ => 0))), ((ad 7), .inl (cI, 48, .inl (fun _ => 0))), ((ad 8), .inl (cI, 30, .inl (fun _ => 0)))]
def AB (ad : Nat → Nat) (n sz : Nat) : Nat → Prop := fun q => (∃ k, k < n ∧ q = ad k) ∨ sz ≤ q
def PcF (D : va_G) (cI cL : ClassId) (ad : Nat → Nat) (sz : Nat) : Array Value → State → Prop := va_Pc [.ref (ad 0)] (fun U => U.heap.size = sz ∧ va_P D vwCl (wMo0 cI ad) U.heap ∧ va_K D vwCl [(cI, .int), (cL, .long)] U ∧ va_D (AB ad 9 sz) (wMo0 cI ad) ∧ (∀ w ∈ NW, va_Nw w U))
def QcF (D : va_G) (cI : ClassId) (ad : Nat → Nat) (sz : Nat) : Array Value → State → Outcome → State → Prop := fun _ st o t => o = .returned none ∧ (va_P D vwCl (wMo cI ad) t.heap ∧ va_D (AB ad 9 sz) (wMo cI ad)) ∧ va_F (AB ad 9 sz) st t
theorem PcF_blind {D : va_G} {cI cL : ClassId} {ad : Nat → Nat} {sz : Nat} : FrameBlind (PcF D cI cL ad sz) := fun a U g mk q => by
  obtain ⟨q0, q1, q2, q3, q4, q5⟩ := q
  exact ⟨q0, q1, q2, va_K.moved (u := U) (U := U.calling g mk a) (Vm.Alike.refl U.vm) q3, q4, fun w hw => va_Nw.same (Nw_on hw) (u := U) (U := U.calling g mk a) rfl (q5 w hw)⟩
set_option maxRecDepth 100000 in
theorem fresh_loop {l : Launch} {p : Program} {e : Env} {R : Room} {s : State} {m : MethodId} {args : Array Value} {below : List Frame} {meth : Method} {c : Code} {D : va_G} {cI cL : ClassId} {ad : Nat → Nat} {A : Nat → Prop} {Q : State → Prop} (C : CY p l s m args meth c RX4 cX4_fresh 2 none D cI cL A)
    (kk : AC p l e R s m args below meth c 2 D A 0 0 Q 22 [(0, .ref (ad 0))] [] (wMo0 cI ad)) : ∀ n k : Nat, k + n = 290 → AC p l e R s m args below meth c 2 D A 0 0 Q 2 [(0, .ref (ad 0)), (1, .int (nI k))] [] (wMo0 cI ad) := by
  intro n
  induction n with
  | zero =>
    intro k hk
    have hk : k = 290 := by omega
    subst hk
    refine ac_iload_n (pc := 2) C dX4_fresh_2 rfl 1 rfl ?_
    refine ac_sipush (pc := 3) C (v := 290) dX4_fresh_3 rfl ?_
    refine ac_icmp_ge (pc := 6) C 22 dX4_fresh_6 rfl (fun _ => ?_) (fun h => absurd (show (290 : Int32) ≤ nI 290 by decide) h)
    exact ac_sub [0] rfl kk
  | succ n ih =>
    intro k hk
    refine ac_iload_n (pc := 2) C dX4_fresh_2 rfl 1 rfl ?_
    refine ac_sipush (pc := 3) C (v := 290) dX4_fresh_3 rfl ?_
    refine ac_icmp_ge (pc := 6) C 22 dX4_fresh_6 rfl (fun h => absurd h (nI_ge (a := k) (b := 290) (by omega) (by decide))) (fun _ => ?_)
    refine ac_aload_n (pc := 9) C dX4_fresh_9 rfl 0 rfl ?_
    refine ac_get (pc := 10) C (k := 1) (v := .ref (ad 1)) inX4 0 rfl rfl (by decide) q741 rfl dX4_fresh_10 ?_
    refine ac_iload_n (pc := 13) C dX4_fresh_13 rfl 1 rfl ?_
    refine ac_iconst (pc := 14) C (v := 0) dX4_fresh_14 rfl ?_
    refine ac_iastore (pc := 15) C (ws' := wMo0 cI ad) 1 rfl (vp_in_nI (by omega) (by decide)) dX4_fresh_15 ?_ ?_
    · rw [show (upd (fun _ => (0 : Int32)) (nI k).toNatClampNeg 0) = (fun _ => 0) from funext fun j => by unfold upd; split <;> rfl]
      rfl
    refine ac_iinc (pc := 16) C (v := nI (k + 1)) (lv' := [(1, .int (nI (k + 1))), (0, .ref (ad 0))]) dX4_fresh_16 1 rfl (by decide) (nI_succ k) rfl ?_
    refine ac_goto (pc := 19) C 2 dX4_fresh_19 rfl ?_
    exact ac_sub [1, 0] rfl (ih (k + 1) (by omega))
set_option maxRecDepth 100000 in
theorem m_fresh (l : Launch) (D : va_G) (cI cL : ClassId) (ad : Nat → Nat) (sz : Nat) : Met l yX4_fresh (WSy yX4_fresh cX4_fresh 2 none) (rmA 0 0 0) (PcF D cI cL ad sz) (QcF D cI ad sz) 0 0 (AB ad 9 sz) := by
  refine Met.ofW (cc := cX4_fresh) (maxL := 2) (ret := none) (by decide) rfl ?_
  intro p e s m args below meth c s₁ B hml hv
  obtain ⟨rfl, hsz, hP, hK, hD, hG⟩ := hv
  subst hsz
  have hts := atoms_spec (ws := WSy yX4_fresh cX4_fresh 2 none) B.pre
  have hown : s.vm.findClass RX4 = some m.cls := findClass_of_methodNamed B.named
  have C : CY p l s m ([Value.ref (ad 0)] : List Value).toArray meth c RX4 cX4_fresh 2 none D cI cL (AB ad 9 s.heap.size) := ⟨B.exec, B.bytes, hml, hown, fun w h => hts w (List.mem_cons_of_mem _ h), B.notSynchronized, B.returns, hK, hG, fun q h => Or.inr h⟩
  have hl0 := lv_entry ([Value.ref (ad 0)] : List Value) (n := 2) (Nat.le_of_ble_eq_true rfl)
  rw [lg_entry_eq]
  suffices K : AC p l e (rmA 0 0 0) s m ([Value.ref (ad 0)] : List Value).toArray below meth c 2 D (AB ad 9 s.heap.size) 0 0 (MQ below (QcF D cI ad s.heap.size) ([Value.ref (ad 0)] : List Value).toArray s 0 0 (AB ad 9 s.heap.size)) 0 [(0, .ref (ad 0))] [] (wMo0 cI ad) from K s.heap [] _ hP hD va_S.rf hl0
  refine ac_iconst (pc := 0) C (v := 0) dX4_fresh_0 rfl ?_
  refine ac_istore_n (pc := 1) C (x := 0) (lv' := [(1, .int 0), (0, .ref (ad 0))]) dX4_fresh_1 rfl (by decide) rfl ?_
  refine ac_sub [1, 0] rfl ?_
  refine fresh_loop C ?_ 290 0 rfl
  refine ac_aload_n (pc := 22) C dX4_fresh_22 rfl 0 rfl ?_
  refine ac_get (pc := 23) C (k := 1) (v := .ref (ad 1)) inX4 0 rfl rfl (by decide) q741 rfl dX4_fresh_23 ?_
  refine ac_iconst (pc := 26) C (v := 0) dX4_fresh_26 rfl ?_
  refine ac_iconst (pc := 27) C (v := 1) dX4_fresh_27 rfl ?_
  refine ac_iastore (pc := 28) C (ws' := [((ad 0), .inr (4, [.int 0, .ref (ad 1), .ref (ad 2), .ref (ad 3), .int 0, .int 0, .ref (ad 4), .int 0, .ref (ad 5), .ref (ad 6), .ref (ad 7), .ref (ad 8), .int 0, .int 0, .int 0, .int 0, .int 0, .int 0, .int 0, .int 0, .int 0, .int 0, .int 0, .int 0, .int 0, .long 0])), ((ad 1), .inl (cI, 290, .inl (upd (fun _ => 0) 0 1))), ((ad 2), .inl (cI, 290, .inl (fun _ => 0))), ((ad 3), .inl (cI, 416, .inl (fun _ => 0))), ((ad 4), .inl (cI, 50, .inl (fun _ => 0))), ((ad 5), .inl (cI, 48, .inl (fun _ => 0))), ((ad 6), .inl (cI, 48, .inl (fun _ => 0))), ((ad 7), .inl (cI, 48, .inl (fun _ => 0))), ((ad 8), .inl (cI, 30, .inl (fun _ => 0)))]) 1 rfl (vp_in_nI (n := 0) (by decide) (by decide)) dX4_fresh_28 rfl ?_
  refine ac_aload_n (pc := 29) C dX4_fresh_29 rfl 0 rfl ?_
  refine ac_get (pc := 30) C (k := 1) (v := .ref (ad 1)) inX4 0 rfl rfl (by decide) q741 rfl dX4_fresh_30 ?_
  refine ac_iconst (pc := 33) C (v := 4) dX4_fresh_33 rfl ?_
  refine ac_iconst (pc := 34) C (v := (-1)) dX4_fresh_34 rfl ?_
  refine ac_iastore (pc := 35) C (ws' := [((ad 0), .inr (4, [.int 0, .ref (ad 1), .ref (ad 2), .ref (ad 3), .int 0, .int 0, .ref (ad 4), .int 0, .ref (ad 5), .ref (ad 6), .ref (ad 7), .ref (ad 8), .int 0, .int 0, .int 0, .int 0, .int 0, .int 0, .int 0, .int 0, .int 0, .int 0, .int 0, .int 0, .int 0, .long 0])), ((ad 1), .inl (cI, 290, .inl (upd (upd (fun _ => 0) 0 1) 4 (-1)))), ((ad 2), .inl (cI, 290, .inl (fun _ => 0))), ((ad 3), .inl (cI, 416, .inl (fun _ => 0))), ((ad 4), .inl (cI, 50, .inl (fun _ => 0))), ((ad 5), .inl (cI, 48, .inl (fun _ => 0))), ((ad 6), .inl (cI, 48, .inl (fun _ => 0))), ((ad 7), .inl (cI, 48, .inl (fun _ => 0))), ((ad 8), .inl (cI, 30, .inl (fun _ => 0)))]) 1 rfl (vp_in_nI (n := 4) (by decide) (by decide)) dX4_fresh_35 rfl ?_
  refine ac_aload_n (pc := 36) C dX4_fresh_36 rfl 0 rfl ?_
  refine ac_iconst (pc := 37) C (v := 0) dX4_fresh_37 rfl ?_
  refine ac_put (pc := 38) C (k := 4) (ty := .boolean) (v := .int 0) (ws' := [((ad 0), .inr (4, [.int 0, .ref (ad 1), .ref (ad 2), .ref (ad 3), .int 0, .int 0, .ref (ad 4), .int 0, .ref (ad 5), .ref (ad 6), .ref (ad 7), .ref (ad 8), .int 0, .int 0, .int 0, .int 0, .int 0, .int 0, .int 0, .int 0, .int 0, .int 0, .int 0, .int 0, .int 0, .long 0])), ((ad 1), .inl (cI, 290, .inl (upd (upd (fun _ => 0) 0 1) 4 (-1)))), ((ad 2), .inl (cI, 290, .inl (fun _ => 0))), ((ad 3), .inl (cI, 416, .inl (fun _ => 0))), ((ad 4), .inl (cI, 50, .inl (fun _ => 0))), ((ad 5), .inl (cI, 48, .inl (fun _ => 0))), ((ad 6), .inl (cI, 48, .inl (fun _ => 0))), ((ad 7), .inl (cI, 48, .inl (fun _ => 0))), ((ad 8), .inl (cI, 30, .inl (fun _ => 0)))]) inX4 tyX4 tyX4_ok nmX4 0 rfl rfl (by decide) q744 rfl (by decide +kernel) (by decide) (by decide) (Nat.le_of_ble_eq_true rfl) dX4_fresh_38 rfl ?_
  intro H locs ls hP hD hS hl
  exact W.vret C.1 C.2.1 C.2.2.2.2.2.2.1 (fun t ht hW => ⟨rfl, ⟨by rw [ht]; exact hP, hD⟩, hS.F ht⟩) hS.2.2 dX4_fresh_41 C.2.2.2.2.2.1
/-- the constructor's last two steps: fresh(), return -/
theorem fresh_end {l : Launch} {p : Program} {e : Env} {s : State} {m : MethodId} {args : Array Value} {below : List Frame} {meth : Method} {c : Code} {D : va_G} {cI cL : ClassId} {h0 : Nat} {ws : va_W} (C : CY p l s m args meth c RX4 cX4_init 1 none D cI cL (AH h0 s.heap.size)) (ad : Nat → Nat) (had : ad 0 = h0 ∧ ws = wMo0 cI ad) :
    AC p l e (rmA 1 8 1220) s m args below meth c 1 D (AH h0 s.heap.size) 8 1220 (MQ below (QcC D cI h0 s.heap.size wMo) args s 8 1220 (AH h0 s.heap.size)) 72 [(0, .ref h0)] [.ref h0] ws := by
  obtain ⟨rfl, rfl⟩ := had
  obtain ⟨hx, hb, hml, hown, hts, hlo, hrt, hK, hG, hA⟩ := id C
  obtain ⟨⟨o1, o2, o3, o4⟩, od⟩ := kv_X4_fresh
  intro H locs ls hP hD hS hl
  have hDc : va_D (AB ad 9 H.size) (wMo0 cI ad) := ⟨hD.1, fun k z hz => by
    have hk : k < 9 := (List.getElem?_eq_some_iff.mp hz).1
    refine Or.inl ⟨k, hk, ?_⟩
    match k, hk, hz with
    | 0, _, hz => cases hz; rfl
    | 1, _, hz => cases hz; rfl
    | 2, _, hz => cases hz; rfl
    | 3, _, hz => cases hz; rfl
    | 4, _, hz => cases hz; rfl
    | 5, _, hz => cases hz; rfl
    | 6, _, hz => cases hz; rfl
    | 7, _, hz => cases hz; rfl
    | 8, _, hz => cases hz; rfl⟩
  have hsub : ∀ q, AB ad 9 H.size q → AH (ad 0) s.heap.size q := by
    intro q hq
    rcases hq with ⟨k, hk, rfl⟩ | hq
    · match k, hk with
      | 0, _ => exact hD.2 0 _ rfl
      | 1, _ => exact hD.2 1 _ rfl
      | 2, _ => exact hD.2 2 _ rfl
      | 3, _ => exact hD.2 3 _ rfl
      | 4, _ => exact hD.2 4 _ rfl
      | 5, _ => exact hD.2 5 _ rfl
      | 6, _ => exact hD.2 6 _ rfl
      | 7, _ => exact hD.2 7 _ rfl
      | 8, _ => exact hD.2 8 _ rfl
    · exact hA q (Nat.le_trans hS.1 hq)
  have hrun := va_runV (p := p) (e := e) (R := rmA 1 8 1220) (H := H) (locs := locs) (cells := 8) (slots := 1220) (below := below) (meth := meth) (Ts := WS) (C := RX4) (n := 0) (As := []) (b := ad 0) (g := F0 m 72 ls [.ref (ad 0)]) (rest := []) ⟨hx, hb, hml, hown, hts⟩ (m_fresh l D cI cL ad H.size) (cwV 0 hts (goodIn_WS (fun w hw => by
    rcases List.mem_append.mp hw with h | h
    · simp only [List.mem_cons, List.not_mem_nil, or_false] at h
      rcases h with rfl | rfl | rfl | rfl
      · exact q736
      · exact o1
      · exact o2
      · exact o3
    · exact WSy_sub o4 w h)) rfl rfl rfl od ⟨(show 1 ≤ 1 by decide), (show 21 ≤ 31 by decide)⟩) ⟨PcF_blind, va_recv hK hP (ci := 4) (q0 := 0) rfl rfl, fun U hU hW => ⟨rfl, by rw [hU], by rw [hU]; exact hP, va_K.moved hW.alike hK, hDc, fun w hw => Nw_warm hw hW (hG w hw)⟩⟩ rfl rfl hl.1 rfl (lv_room (Nat.le_of_ble_eq_true rfl)) dX4_init_72 ⟨Nat.le_refl _, Nat.le_refl _⟩
  intro T hT X
  obtain ⟨v', st₀, t, T', L, h0, X', hL, e1, e2, ⟨hv, ⟨hP1, hD1⟩, hz, hk⟩, st⟩ := hrun T hT X
  cases hv
  rw [h0] at hz hk
  obtain ⟨t2, a1, b1⟩ := ac_end (p := p) (e := e) (R := rmA 1 8 1220) (below := below) (mc := 8) (ms := 1220) (lv := [(0, .ref (ad 0))]) (pc := 75) C (wN := wMo) ad rfl rfl dX4_init_75 T'.heap (locs ++ L) ls (by rw [e1]; exact hP1) (hD1.weaken (fun _ z _ h => hsub z.1 h)) ⟨Nat.le_trans hS.1 (by rw [e1]; exact hz), fun z h1 h2 => by rw [e1, hk z (Nat.lt_of_lt_of_le h1 hS.1) (fun w => h2 (hsub z w))]; exact hS.2.1 z h1 h2, fun z hz' => by
    rcases List.mem_append.mp hz' with h | h
    · exact hS.2.2 z h
    · exact hsub _ (hL z h)⟩ hl T' rfl X'
  exact ⟨t2, st t2 a1, b1⟩
set_option maxRecDepth 100000 in
theorem m_X4_init (l : Launch) : MetC l yX4_init cX4_init 1 8 1220 4 [.int 0, .null, .null, .null, .int 0, .int 0, .null, .int 0, .null, .null, .null, .null, .int 0, .int 0, .int 0, .int 0, .int 0, .int 0, .int 0, .int 0, .int 0, .int 0, .int 0, .int 0, .int 0, .long 0] wMo := by
  refine MetC.of (by decide) rfl (fun p e s m args below meth c D cI cL h0 C hini0 => ?_)
  have hini := hini0 rfl
  refine ac_aload_n (pc := 0) C dX4_init_0 rfl 0 rfl ?_
  refine ac_obj (pc := 1) C q735 q22 q23 dX4_init_1 (Nat.le_of_ble_eq_true rfl) (Nat.le_of_ble_eq_true rfl) ?_
  refine ac_aload_n (pc := 4) C dX4_init_4 rfl 0 rfl ?_
  refine ac_sipush (pc := 5) C (v := 290) dX4_init_5 rfl ?_
  refine ac_newa (pc := 8) C (N := 290) q38 (by decide) rfl (by decide) (Nat.le_of_ble_eq_true rfl) (Nat.le_of_ble_eq_true rfl) dX4_init_8 (fun u1 => ?_)
  refine ac_putF (pc := 10) C (k := 1) (ty := .array .int) (v := .ref u1) (ws' := [(h0, .inr (4, [.int 0, .ref u1, .null, .null, .int 0, .int 0, .null, .int 0, .null, .null, .null, .null, .int 0, .int 0, .int 0, .int 0, .int 0, .int 0, .int 0, .int 0, .int 0, .int 0, .int 0, .int 0, .int 0, .long 0])), (u1, .inl (cI, 290, .inl (fun _ => 0)))]) hini inX4 tyX4 tyX4_ok nmX4 0 rfl rfl (by decide) q741 rfl rfl (by decide +kernel) rfl rfl (Nat.le_of_ble_eq_true rfl) dX4_init_10 rfl ?_
  refine ac_aload_n (pc := 13) C dX4_init_13 rfl 0 rfl ?_
  refine ac_sipush (pc := 14) C (v := 290) dX4_init_14 rfl ?_
  refine ac_newa (pc := 17) C (N := 290) q38 (by decide) rfl (by decide) (Nat.le_of_ble_eq_true rfl) (Nat.le_of_ble_eq_true rfl) dX4_init_17 (fun u2 => ?_)
  refine ac_putF (pc := 19) C (k := 2) (ty := .array .int) (v := .ref u2) (ws' := [(h0, .inr (4, [.int 0, .ref u1, .ref u2, .null, .int 0, .int 0, .null, .int 0, .null, .null, .null, .null, .int 0, .int 0, .int 0, .int 0, .int 0, .int 0, .int 0, .int 0, .int 0, .int 0, .int 0, .int 0, .int 0, .long 0])), (u1, .inl (cI, 290, .inl (fun _ => 0))), (u2, .inl (cI, 290, .inl (fun _ => 0)))]) hini inX4 tyX4 tyX4_ok nmX4 0 rfl rfl (by decide) q742 rfl rfl (by decide +kernel) rfl rfl (Nat.le_of_ble_eq_true rfl) dX4_init_19 rfl ?_
  refine ac_aload_n (pc := 22) C dX4_init_22 rfl 0 rfl ?_
  refine ac_sipush (pc := 23) C (v := 416) dX4_init_23 rfl ?_
  refine ac_newa (pc := 26) C (N := 416) q38 (by decide) rfl (by decide) (Nat.le_of_ble_eq_true rfl) (Nat.le_of_ble_eq_true rfl) dX4_init_26 (fun u3 => ?_)
  refine ac_putF (pc := 28) C (k := 3) (ty := .array .int) (v := .ref u3) (ws' := [(h0, .inr (4, [.int 0, .ref u1, .ref u2, .ref u3, .int 0, .int 0, .null, .int 0, .null, .null, .null, .null, .int 0, .int 0, .int 0, .int 0, .int 0, .int 0, .int 0, .int 0, .int 0, .int 0, .int 0, .int 0, .int 0, .long 0])), (u1, .inl (cI, 290, .inl (fun _ => 0))), (u2, .inl (cI, 290, .inl (fun _ => 0))), (u3, .inl (cI, 416, .inl (fun _ => 0)))]) hini inX4 tyX4 tyX4_ok nmX4 0 rfl rfl (by decide) q743 rfl rfl (by decide +kernel) rfl rfl (Nat.le_of_ble_eq_true rfl) dX4_init_28 rfl ?_
  refine ac_aload_n (pc := 31) C dX4_init_31 rfl 0 rfl ?_
  refine ac_bipush (pc := 32) C (v := 50) dX4_init_32 rfl ?_
  refine ac_newa (pc := 34) C (N := 50) q38 (by decide) rfl (by decide) (Nat.le_of_ble_eq_true rfl) (Nat.le_of_ble_eq_true rfl) dX4_init_34 (fun u4 => ?_)
  refine ac_putF (pc := 36) C (k := 6) (ty := .array .int) (v := .ref u4) (ws' := [(h0, .inr (4, [.int 0, .ref u1, .ref u2, .ref u3, .int 0, .int 0, .ref u4, .int 0, .null, .null, .null, .null, .int 0, .int 0, .int 0, .int 0, .int 0, .int 0, .int 0, .int 0, .int 0, .int 0, .int 0, .int 0, .int 0, .long 0])), (u1, .inl (cI, 290, .inl (fun _ => 0))), (u2, .inl (cI, 290, .inl (fun _ => 0))), (u3, .inl (cI, 416, .inl (fun _ => 0))), (u4, .inl (cI, 50, .inl (fun _ => 0)))]) hini inX4 tyX4 tyX4_ok nmX4 0 rfl rfl (by decide) q746 rfl rfl (by decide +kernel) rfl rfl (Nat.le_of_ble_eq_true rfl) dX4_init_36 rfl ?_
  refine ac_aload_n (pc := 39) C dX4_init_39 rfl 0 rfl ?_
  refine ac_bipush (pc := 40) C (v := 48) dX4_init_40 rfl ?_
  refine ac_newa (pc := 42) C (N := 48) q38 (by decide) rfl (by decide) (Nat.le_of_ble_eq_true rfl) (Nat.le_of_ble_eq_true rfl) dX4_init_42 (fun u5 => ?_)
  refine ac_putF (pc := 44) C (k := 8) (ty := .array .int) (v := .ref u5) (ws' := [(h0, .inr (4, [.int 0, .ref u1, .ref u2, .ref u3, .int 0, .int 0, .ref u4, .int 0, .ref u5, .null, .null, .null, .int 0, .int 0, .int 0, .int 0, .int 0, .int 0, .int 0, .int 0, .int 0, .int 0, .int 0, .int 0, .int 0, .long 0])), (u1, .inl (cI, 290, .inl (fun _ => 0))), (u2, .inl (cI, 290, .inl (fun _ => 0))), (u3, .inl (cI, 416, .inl (fun _ => 0))), (u4, .inl (cI, 50, .inl (fun _ => 0))), (u5, .inl (cI, 48, .inl (fun _ => 0)))]) hini inX4 tyX4 tyX4_ok nmX4 0 rfl rfl (by decide) q748 rfl rfl (by decide +kernel) rfl rfl (Nat.le_of_ble_eq_true rfl) dX4_init_44 rfl ?_
  refine ac_aload_n (pc := 47) C dX4_init_47 rfl 0 rfl ?_
  refine ac_bipush (pc := 48) C (v := 48) dX4_init_48 rfl ?_
  refine ac_newa (pc := 50) C (N := 48) q38 (by decide) rfl (by decide) (Nat.le_of_ble_eq_true rfl) (Nat.le_of_ble_eq_true rfl) dX4_init_50 (fun u6 => ?_)
  refine ac_putF (pc := 52) C (k := 9) (ty := .array .int) (v := .ref u6) (ws' := [(h0, .inr (4, [.int 0, .ref u1, .ref u2, .ref u3, .int 0, .int 0, .ref u4, .int 0, .ref u5, .ref u6, .null, .null, .int 0, .int 0, .int 0, .int 0, .int 0, .int 0, .int 0, .int 0, .int 0, .int 0, .int 0, .int 0, .int 0, .long 0])), (u1, .inl (cI, 290, .inl (fun _ => 0))), (u2, .inl (cI, 290, .inl (fun _ => 0))), (u3, .inl (cI, 416, .inl (fun _ => 0))), (u4, .inl (cI, 50, .inl (fun _ => 0))), (u5, .inl (cI, 48, .inl (fun _ => 0))), (u6, .inl (cI, 48, .inl (fun _ => 0)))]) hini inX4 tyX4 tyX4_ok nmX4 0 rfl rfl (by decide) q749 rfl rfl (by decide +kernel) rfl rfl (Nat.le_of_ble_eq_true rfl) dX4_init_52 rfl ?_
  refine ac_aload_n (pc := 55) C dX4_init_55 rfl 0 rfl ?_
  refine ac_bipush (pc := 56) C (v := 48) dX4_init_56 rfl ?_
  refine ac_newa (pc := 58) C (N := 48) q38 (by decide) rfl (by decide) (Nat.le_of_ble_eq_true rfl) (Nat.le_of_ble_eq_true rfl) dX4_init_58 (fun u7 => ?_)
  refine ac_putF (pc := 60) C (k := 10) (ty := .array .int) (v := .ref u7) (ws' := [(h0, .inr (4, [.int 0, .ref u1, .ref u2, .ref u3, .int 0, .int 0, .ref u4, .int 0, .ref u5, .ref u6, .ref u7, .null, .int 0, .int 0, .int 0, .int 0, .int 0, .int 0, .int 0, .int 0, .int 0, .int 0, .int 0, .int 0, .int 0, .long 0])), (u1, .inl (cI, 290, .inl (fun _ => 0))), (u2, .inl (cI, 290, .inl (fun _ => 0))), (u3, .inl (cI, 416, .inl (fun _ => 0))), (u4, .inl (cI, 50, .inl (fun _ => 0))), (u5, .inl (cI, 48, .inl (fun _ => 0))), (u6, .inl (cI, 48, .inl (fun _ => 0))), (u7, .inl (cI, 48, .inl (fun _ => 0)))]) hini inX4 tyX4 tyX4_ok nmX4 0 rfl rfl (by decide) q750 rfl rfl (by decide +kernel) rfl rfl (Nat.le_of_ble_eq_true rfl) dX4_init_60 rfl ?_
  refine ac_aload_n (pc := 63) C dX4_init_63 rfl 0 rfl ?_
  refine ac_bipush (pc := 64) C (v := 30) dX4_init_64 rfl ?_
  refine ac_newa (pc := 66) C (N := 30) q38 (by decide) rfl (by decide) (Nat.le_of_ble_eq_true rfl) (Nat.le_of_ble_eq_true rfl) dX4_init_66 (fun u8 => ?_)
  refine ac_putF (pc := 68) C (k := 11) (ty := .array .int) (v := .ref u8) (ws' := [(h0, .inr (4, [.int 0, .ref u1, .ref u2, .ref u3, .int 0, .int 0, .ref u4, .int 0, .ref u5, .ref u6, .ref u7, .ref u8, .int 0, .int 0, .int 0, .int 0, .int 0, .int 0, .int 0, .int 0, .int 0, .int 0, .int 0, .int 0, .int 0, .long 0])), (u1, .inl (cI, 290, .inl (fun _ => 0))), (u2, .inl (cI, 290, .inl (fun _ => 0))), (u3, .inl (cI, 416, .inl (fun _ => 0))), (u4, .inl (cI, 50, .inl (fun _ => 0))), (u5, .inl (cI, 48, .inl (fun _ => 0))), (u6, .inl (cI, 48, .inl (fun _ => 0))), (u7, .inl (cI, 48, .inl (fun _ => 0))), (u8, .inl (cI, 30, .inl (fun _ => 0)))]) hini inX4 tyX4 tyX4_ok nmX4 0 rfl rfl (by decide) q751 rfl rfl (by decide +kernel) rfl rfl (Nat.le_of_ble_eq_true rfl) dX4_init_68 rfl ?_
  refine ac_aload_n (pc := 71) C dX4_init_71 rfl 0 rfl ?_
  refine ac_widen 8 1220 (Nat.le_of_ble_eq_true rfl) (Nat.le_of_ble_eq_true rfl) ?_
  exact fresh_end C (fun k => ([h0, u1, u2, u3, u4, u5, u6, u7, u8] : List Nat).getD k 0) ⟨rfl, rfl⟩
