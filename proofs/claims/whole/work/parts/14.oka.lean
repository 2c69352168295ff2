/-! ### java/lang/Integer.bitCount(I)I -/
theorem ok_J6_bitCount_0f7a4 {l : Launch} (htr : l.stackTraces = false) {v0 : Int32} {μ : Mm} {r : Int32}  (h : J6_bitCount_0f7a4 v0 = some r) : MetX l yJ6_bitCount_0f7a4 cJ6_bitCount_0f7a4 1 (some .int) 0 (fun ad => [.int v0]) μ (.inr (some (.int r))) μ := by
  refine MetX.of htr (by decide) rfl (fun ad => Nat.le_of_ble_eq_true rfl) (fun p e s m args below meth c D cI cL ad C hex hw => ?_)
  show AV l p e s m args below meth c D cI cL ad 0 1 (.inr (some (.int r))) μ 0 [(0, .int v0)] [] μ
  unfold J6_bitCount_0f7a4 at h
  refine aw_iload_n (pc := 0) C dJ6_bitCount_0f7a4_0 rfl 0 rfl ?_
  refine aw_iload_n (pc := 1) C dJ6_bitCount_0f7a4_1 rfl 0 rfl ?_
  refine aw_iconst (pc := 2) C (v := 1) dJ6_bitCount_0f7a4_2 rfl ?_
  refine aw_iushr (pc := 3) C dJ6_bitCount_0f7a4_3 ?_
  refine aw_ldc_w (pc := 4) C dJ6_bitCount_0f7a4_4 q248 ?_
  refine aw_iand (pc := 7) C dJ6_bitCount_0f7a4_7 ?_
  refine aw_isub (pc := 8) C dJ6_bitCount_0f7a4_8 ?_
  obtain ⟨x1, ex1, h⟩ := bd_some h
  refine aw_istore_n (pc := 9) C (x := x1) (lv' := [(0, .int x1)]) dJ6_bitCount_0f7a4_9 rfl (by decide) ex1 rfl ?_
  refine aw_iload_n (pc := 10) C dJ6_bitCount_0f7a4_10 rfl 0 rfl ?_
  refine aw_ldc_w (pc := 11) C dJ6_bitCount_0f7a4_11 q249 ?_
  refine aw_iand (pc := 14) C dJ6_bitCount_0f7a4_14 ?_
  refine aw_iload_n (pc := 15) C dJ6_bitCount_0f7a4_15 rfl 0 rfl ?_
  refine aw_iconst (pc := 16) C (v := 2) dJ6_bitCount_0f7a4_16 rfl ?_
  refine aw_iushr (pc := 17) C dJ6_bitCount_0f7a4_17 ?_
  refine aw_ldc_w (pc := 18) C dJ6_bitCount_0f7a4_18 q249 ?_
  refine aw_iand (pc := 21) C dJ6_bitCount_0f7a4_21 ?_
  refine aw_iadd (pc := 22) C dJ6_bitCount_0f7a4_22 ?_
  obtain ⟨x2, ex2, h⟩ := bd_some h
  refine aw_istore_n (pc := 23) C (x := x2) (lv' := [(0, .int x2)]) dJ6_bitCount_0f7a4_23 rfl (by decide) ex2 rfl ?_
  refine aw_iload_n (pc := 24) C dJ6_bitCount_0f7a4_24 rfl 0 rfl ?_
  refine aw_iload_n (pc := 25) C dJ6_bitCount_0f7a4_25 rfl 0 rfl ?_
  refine aw_iconst (pc := 26) C (v := 4) dJ6_bitCount_0f7a4_26 rfl ?_
  refine aw_iushr (pc := 27) C dJ6_bitCount_0f7a4_27 ?_
  refine aw_iadd (pc := 28) C dJ6_bitCount_0f7a4_28 ?_
  refine aw_ldc_w (pc := 29) C dJ6_bitCount_0f7a4_29 q250 ?_
  refine aw_iand (pc := 32) C dJ6_bitCount_0f7a4_32 ?_
  obtain ⟨x3, ex3, h⟩ := bd_some h
  refine aw_istore_n (pc := 33) C (x := x3) (lv' := [(0, .int x3)]) dJ6_bitCount_0f7a4_33 rfl (by decide) ex3 rfl ?_
  refine aw_iload_n (pc := 34) C dJ6_bitCount_0f7a4_34 rfl 0 rfl ?_
  refine aw_iload_n (pc := 35) C dJ6_bitCount_0f7a4_35 rfl 0 rfl ?_
  refine aw_bipush (pc := 36) C (v := 8) dJ6_bitCount_0f7a4_36 rfl ?_
  refine aw_iushr (pc := 38) C dJ6_bitCount_0f7a4_38 ?_
  refine aw_iadd (pc := 39) C dJ6_bitCount_0f7a4_39 ?_
  obtain ⟨x4, ex4, h⟩ := bd_some h
  refine aw_istore_n (pc := 40) C (x := x4) (lv' := [(0, .int x4)]) dJ6_bitCount_0f7a4_40 rfl (by decide) ex4 rfl ?_
  refine aw_iload_n (pc := 41) C dJ6_bitCount_0f7a4_41 rfl 0 rfl ?_
  refine aw_iload_n (pc := 42) C dJ6_bitCount_0f7a4_42 rfl 0 rfl ?_
  refine aw_bipush (pc := 43) C (v := 16) dJ6_bitCount_0f7a4_43 rfl ?_
  refine aw_iushr (pc := 45) C dJ6_bitCount_0f7a4_45 ?_
  refine aw_iadd (pc := 46) C dJ6_bitCount_0f7a4_46 ?_
  obtain ⟨x5, ex5, h⟩ := bd_some h
  refine aw_istore_n (pc := 47) C (x := x5) (lv' := [(0, .int x5)]) dJ6_bitCount_0f7a4_47 rfl (by decide) ex5 rfl ?_
  refine aw_iload_n (pc := 48) C dJ6_bitCount_0f7a4_48 rfl 0 rfl ?_
  refine aw_bipush (pc := 49) C (v := 63) dJ6_bitCount_0f7a4_49 rfl ?_
  refine aw_iand (pc := 51) C dJ6_bitCount_0f7a4_51 ?_
  cases h
  exact aw_iret (pc := 52) C dJ6_bitCount_0f7a4_52
/-! ### java/util/Arrays.fill([II)V -/
theorem ok_J7_fill_53178_l5 {l : Launch} {p : Program} {e : Env} {s : State} {m : MethodId} {args : Array Value} {below : List Frame} {meth : Method} {c : Code} {D : va_G} {cI cL : ClassId} {ad : Nat → Nat} (C : CX p l s m args meth c RJ7 cJ7_fill_53178 4 none D cI cL (AA ad s.heap.size)) (hex : ∀ x ∈ c.exceptionTable.toList, False) {r : Mm} {a0 : Nat} {v1 : Int32} (ha0 : kd a0 = (0, alen a0)) {k5 : Int32 → Int32 → Mm → Option Mm} (hk5 : ∀ (v2 : Int32) (v3 : Int32) (μ : Mm), k5 v2 v3 μ = some r → AV l p e s m args below meth c D cI cL ad 0 4 (.inr none) r 5 [(0, .ref (ad a0)), (1, .int v1), (2, .int v2), (3, .int v3)] [] μ) {v2 : Int32} {v3 : Int32} {μ : Mm}  (h : J7_fill_53178_l5 a0 v1 k5 v2 v3 μ = some r) : AV l p e s m args below meth c D cI cL ad 0 4 (.inr none) r 5 [(0, .ref (ad a0)), (1, .int v1), (2, .int v2), (3, .int v3)] [] μ := by
  unfold J7_fill_53178_l5 at h
  refine aw_iload_n (pc := 5) C dJ7_fill_53178_5 rfl 2 rfl ?_
  refine aw_iload_n (pc := 6) C dJ7_fill_53178_6 rfl 3 rfl ?_
  refine aw_icmp_ge (pc := 7) C 20 dJ7_fill_53178_7 rfl (fun hc => ?_) (fun hc => ?_)
  · replace h := ite_T h hc
    cases h
    exact aw_vret (pc := 20) C dJ7_fill_53178_20
  · replace h := ite_F h hc
    refine aw_aload_n (pc := 10) C dJ7_fill_53178_10 rfl 0 rfl ?_
    refine aw_iload_n (pc := 11) C dJ7_fill_53178_11 rfl 2 rfl ?_
    refine aw_iload_n (pc := 12) C dJ7_fill_53178_12 rfl 1 rfl ?_
    obtain ⟨g2, h⟩ := ck_some h
    obtain ⟨μ3, eμ3, h⟩ := bd_some h
    refine aw_iastore (pc := 13) C (a := a0) ha0 g2 dJ7_fill_53178_13 eμ3 ?_
    refine aw_iinc (pc := 14) C (v := (v2 + 1)) (lv' := [(2, .int (v2 + 1)), (0, .ref (ad a0)), (1, .int v1), (3, .int v3)]) dJ7_fill_53178_14 2 rfl (by decide) rfl rfl ?_
    refine aw_goto (pc := 17) C 5 dJ7_fill_53178_17 rfl ?_
    refine aw_sub [1, 2, 0, 3] rfl ?_
    exact hk5 (v2 + 1) v3 μ3 h
theorem ok_J7_fill_53178_l5_w {l : Launch} {p : Program} {e : Env} {s : State} {m : MethodId} {args : Array Value} {below : List Frame} {meth : Method} {c : Code} {D : va_G} {cI cL : ClassId} {ad : Nat → Nat} (C : CX p l s m args meth c RJ7 cJ7_fill_53178 4 none D cI cL (AA ad s.heap.size)) (hex : ∀ x ∈ c.exceptionTable.toList, False) {r : Mm} {a0 : Nat} {v1 : Int32} (ha0 : kd a0 = (0, alen a0)) : ∀ (n : Nat) (v2 : Int32) (v3 : Int32) (μ : Mm) , itr (J7_fill_53178_l5 a0 v1) (fun _ _ _ => none) n v2 v3 μ = some r → AV l p e s m args below meth c D cI cL ad 0 4 (.inr none) r 5 [(0, .ref (ad a0)), (1, .int v1), (2, .int v2), (3, .int v3)] [] μ := by
  intro n
  induction n with
  | zero => intro v2 v3 μ h; exact nomatch (show (none : Option Mm) = some r from h)
  | succ n ih => intro v2 v3 μ h; exact ok_J7_fill_53178_l5 C hex (a0 := a0) (v1 := v1) ha0 ih h
theorem ok_J7_fill_53178 {l : Launch} (htr : l.stackTraces = false) {a0 : Nat} {v1 : Int32} {μ : Mm} {r : Mm} (ha0 : kd a0 = (0, alen a0)) (h : J7_fill_53178 a0 v1 μ = some r) : MetX l yJ7_fill_53178 cJ7_fill_53178 4 none 0 (fun ad => [.ref (ad a0), .int v1]) μ (.inr none) r := by
  refine MetX.of htr (by decide) rfl (fun ad => Nat.le_of_ble_eq_true rfl) (fun p e s m args below meth c D cI cL ad C hex hw => ?_)
  show AV l p e s m args below meth c D cI cL ad 0 4 (.inr none) r 0 [(0, .ref (ad a0)), (1, .int v1)] [] μ
  unfold J7_fill_53178 at h
  refine aw_iconst (pc := 0) C (v := 0) dJ7_fill_53178_0 rfl ?_
  refine aw_istore_n (pc := 1) C (x := 0) (lv' := [(2, .int 0), (0, .ref (ad a0)), (1, .int v1)]) dJ7_fill_53178_1 rfl (by decide) rfl rfl ?_
  refine aw_aload_n (pc := 2) C dJ7_fill_53178_2 rfl 1 rfl ?_
  refine aw_alen (pc := 3) C (a := a0) ha0 rfl dJ7_fill_53178_3 ?_
  obtain ⟨x1, ex1, h⟩ := bd_some h
  refine aw_istore_n (pc := 4) C (x := x1) (lv' := [(3, .int x1), (2, .int 0), (0, .ref (ad a0)), (1, .int v1)]) dJ7_fill_53178_4 rfl (by decide) ex1 rfl ?_
  refine aw_sub [2, 3, 1, 0] rfl ?_
  exact ok_J7_fill_53178_l5_w C hex ha0 big 0 x1 μ h
/-! ### NameScopes$Facts.closeGap([III)V -/
theorem ok_X0_closeGap {l : Launch} (htr : l.stackTraces = false) {a0 : Nat} {v1 : Int32} {v2 : Int32} {μ : Mm} {r : Mm} (ha0 : kd a0 = (0, alen a0)) (h : X0_closeGap a0 v1 v2 μ = some r) : MetX l yX0_closeGap cX0_closeGap 3 none 2 (fun ad => [.ref (ad a0), .int v1, .int v2]) μ (.inr none) r := by
  refine MetX.of htr (by decide) rfl (fun ad => Nat.le_of_ble_eq_true rfl) (fun p e s m args below meth c D cI cL ad C hex hw => ?_)
  show AV l p e s m args below meth c D cI cL ad 2 3 (.inr none) r 0 [(0, .ref (ad a0)), (1, .int v1), (2, .int v2)] [] μ
  unfold X0_closeGap at h
  refine aw_aload_n (pc := 0) C dX0_closeGap_0 rfl 0 rfl ?_
  refine aw_iload_n (pc := 1) C dX0_closeGap_1 rfl 1 rfl ?_
  refine aw_iconst (pc := 2) C (v := 1) dX0_closeGap_2 rfl ?_
  refine aw_iadd (pc := 3) C dX0_closeGap_3 ?_
  refine aw_aload_n (pc := 4) C dX0_closeGap_4 rfl 0 rfl ?_
  refine aw_iload_n (pc := 5) C dX0_closeGap_5 rfl 1 rfl ?_
  refine aw_iload_n (pc := 6) C dX0_closeGap_6 rfl 2 rfl ?_
  refine aw_iload_n (pc := 7) C dX0_closeGap_7 rfl 1 rfl ?_
  refine aw_isub (pc := 8) C dX0_closeGap_8 ?_
  refine aw_iconst (pc := 9) C (v := 1) dX0_closeGap_9 rfl ?_
  refine aw_isub (pc := 10) C dX0_closeGap_10 ?_
  obtain ⟨g1, h⟩ := cg_some h
  obtain ⟨μ2, eμ2, h⟩ := bd_some h
  refine aw_copy (pc := 11) C (a0 := a0) (a1 := a0) q360 q362 q361 q13 ha0 ha0 g1.1 g1.2.1 g1.2.2.1 g1.2.2.2.1 g1.2.2.2.2 dX0_closeGap_11 (Nat.le_of_ble_eq_true rfl) (Nat.le_of_ble_eq_true rfl) eμ2 ?_
  cases h
  exact aw_vret (pc := 14) C dX0_closeGap_14
/-! ### NameScopes$Facts.copyFrom(LNameScopes$Facts;)V -/
theorem ok_X0_copyFrom {l : Launch} (htr : l.stackTraces = false) {a0 : Nat} {a1 : Nat} {μ : Mm} {r : Mm} (ha0 : isF a0) (ha1 : isF a1) (h : X0_copyFrom a0 a1 μ = some r) : MetX l yX0_copyFrom cX0_copyFrom 2 none 2 (fun ad => [.ref (ad a0), .ref (ad a1)]) μ (.inr none) r := by
  refine MetX.of htr (by decide) rfl (fun ad => Nat.le_of_ble_eq_true rfl) (fun p e s m args below meth c D cI cL ad C hex hw => ?_)
  show AV l p e s m args below meth c D cI cL ad 2 2 (.inr none) r 0 [(0, .ref (ad a0)), (1, .ref (ad a1))] [] μ
  unfold X0_copyFrom at h
  refine aw_aload_n (pc := 0) C dX0_copyFrom_0 rfl 0 rfl ?_
  refine aw_aload_n (pc := 1) C dX0_copyFrom_1 rfl 1 rfl ?_
  refine aw_get (pc := 2) C (a := a1) (k := 0) (v := .int (μ.1 a1 0)) inX0 (kdF ha1) rfl (by decide) q76 dX0_copyFrom_2 rfl ?_
  obtain ⟨μ1, eμ1, h⟩ := bd_some h
  refine aw_putI (pc := 5) C (a := a0) (k := 0) (ty := .int) inX0 tyX0 tyX0_ok nmX0 (kdF ha0) rfl (by decide) q76 rfl (by decide +kernel) rfl rfl (by show 0 < 18; decide) dX0_copyFrom_5 fl_0_0 eμ1 ?_
  refine aw_aload_n (pc := 8) C dX0_copyFrom_8 rfl 1 rfl ?_
  refine aw_get (pc := 9) C (a := a1) (k := 1) (v := .ref (ad (a1 + 1))) inX0 (kdF ha1) rfl (by decide) q78 dX0_copyFrom_9 rfl ?_
  refine aw_iconst (pc := 12) C (v := 0) dX0_copyFrom_12 rfl ?_
  refine aw_aload_n (pc := 13) C dX0_copyFrom_13 rfl 0 rfl ?_
  refine aw_get (pc := 14) C (a := a0) (k := 1) (v := .ref (ad (a0 + 1))) inX0 (kdF ha0) rfl (by decide) q78 dX0_copyFrom_14 rfl ?_
  refine aw_iconst (pc := 17) C (v := 0) dX0_copyFrom_17 rfl ?_
  refine aw_aload_n (pc := 18) C dX0_copyFrom_18 rfl 0 rfl ?_
  refine aw_get (pc := 19) C (a := a0) (k := 0) (v := .int (μ1.1 a0 0)) inX0 (kdF ha0) rfl (by decide) q76 dX0_copyFrom_19 rfl ?_
  obtain ⟨g2, h⟩ := cg_some h
  obtain ⟨μ3, eμ3, h⟩ := bd_some h
  refine aw_copy (pc := 22) C (a0 := (a1 + 1)) (a1 := (a0 + 1)) q360 q362 q361 q13 ((kdFk (k := 1) ha1 rfl rfl)) ((kdFk (k := 1) ha0 rfl rfl)) g2.1 g2.2.1 g2.2.2.1 g2.2.2.2.1 g2.2.2.2.2 dX0_copyFrom_22 (Nat.le_of_ble_eq_true rfl) (Nat.le_of_ble_eq_true rfl) eμ3 ?_
  refine aw_aload_n (pc := 25) C dX0_copyFrom_25 rfl 0 rfl ?_
  refine aw_aload_n (pc := 26) C dX0_copyFrom_26 rfl 1 rfl ?_
  refine aw_get (pc := 27) C (a := a1) (k := 2) (v := .int (μ3.1 a1 2)) inX0 (kdF ha1) rfl (by decide) q80 dX0_copyFrom_27 rfl ?_
  obtain ⟨μ4, eμ4, h⟩ := bd_some h
  refine aw_putI (pc := 30) C (a := a0) (k := 2) (ty := .int) inX0 tyX0 tyX0_ok nmX0 (kdF ha0) rfl (by decide) q80 rfl (by decide +kernel) rfl rfl (by show 2 < 18; decide) dX0_copyFrom_30 fl_0_2 eμ4 ?_
  refine aw_aload_n (pc := 33) C dX0_copyFrom_33 rfl 1 rfl ?_
  refine aw_get (pc := 34) C (a := a1) (k := 3) (v := .ref (ad (a1 + 2))) inX0 (kdF ha1) rfl (by decide) q83 dX0_copyFrom_34 rfl ?_
  refine aw_iconst (pc := 37) C (v := 0) dX0_copyFrom_37 rfl ?_
  refine aw_aload_n (pc := 38) C dX0_copyFrom_38 rfl 0 rfl ?_
  refine aw_get (pc := 39) C (a := a0) (k := 3) (v := .ref (ad (a0 + 2))) inX0 (kdF ha0) rfl (by decide) q83 dX0_copyFrom_39 rfl ?_
  refine aw_iconst (pc := 42) C (v := 0) dX0_copyFrom_42 rfl ?_
  refine aw_aload_n (pc := 43) C dX0_copyFrom_43 rfl 0 rfl ?_
  refine aw_get (pc := 44) C (a := a0) (k := 2) (v := .int (μ4.1 a0 2)) inX0 (kdF ha0) rfl (by decide) q80 dX0_copyFrom_44 rfl ?_
  obtain ⟨g5, h⟩ := cg_some h
  obtain ⟨μ6, eμ6, h⟩ := bd_some h
  refine aw_copy (pc := 47) C (a0 := (a1 + 2)) (a1 := (a0 + 2)) q360 q362 q361 q13 ((kdFk (k := 2) ha1 rfl rfl)) ((kdFk (k := 2) ha0 rfl rfl)) g5.1 g5.2.1 g5.2.2.1 g5.2.2.2.1 g5.2.2.2.2 dX0_copyFrom_47 (Nat.le_of_ble_eq_true rfl) (Nat.le_of_ble_eq_true rfl) eμ6 ?_
  refine aw_aload_n (pc := 50) C dX0_copyFrom_50 rfl 1 rfl ?_
  refine aw_get (pc := 51) C (a := a1) (k := 4) (v := .ref (ad (a1 + 3))) inX0 (kdF ha1) rfl (by decide) q86 dX0_copyFrom_51 rfl ?_
  refine aw_iconst (pc := 54) C (v := 0) dX0_copyFrom_54 rfl ?_
  refine aw_aload_n (pc := 55) C dX0_copyFrom_55 rfl 0 rfl ?_
  refine aw_get (pc := 56) C (a := a0) (k := 4) (v := .ref (ad (a0 + 3))) inX0 (kdF ha0) rfl (by decide) q86 dX0_copyFrom_56 rfl ?_
  refine aw_iconst (pc := 59) C (v := 0) dX0_copyFrom_59 rfl ?_
  refine aw_aload_n (pc := 60) C dX0_copyFrom_60 rfl 0 rfl ?_
  refine aw_get (pc := 61) C (a := a0) (k := 2) (v := .int (μ6.1 a0 2)) inX0 (kdF ha0) rfl (by decide) q80 dX0_copyFrom_61 rfl ?_
  obtain ⟨g7, h⟩ := cg_some h
  obtain ⟨μ8, eμ8, h⟩ := bd_some h
  refine aw_copy (pc := 64) C (a0 := (a1 + 3)) (a1 := (a0 + 3)) q360 q362 q361 q13 ((kdFk (k := 3) ha1 rfl rfl)) ((kdFk (k := 3) ha0 rfl rfl)) g7.1 g7.2.1 g7.2.2.1 g7.2.2.2.1 g7.2.2.2.2 dX0_copyFrom_64 (Nat.le_of_ble_eq_true rfl) (Nat.le_of_ble_eq_true rfl) eμ8 ?_
  refine aw_aload_n (pc := 67) C dX0_copyFrom_67 rfl 1 rfl ?_
  refine aw_get (pc := 68) C (a := a1) (k := 5) (v := .ref (ad (a1 + 4))) inX0 (kdF ha1) rfl (by decide) q89 dX0_copyFrom_68 rfl ?_
  refine aw_iconst (pc := 71) C (v := 0) dX0_copyFrom_71 rfl ?_
  refine aw_aload_n (pc := 72) C dX0_copyFrom_72 rfl 0 rfl ?_
  refine aw_get (pc := 73) C (a := a0) (k := 5) (v := .ref (ad (a0 + 4))) inX0 (kdF ha0) rfl (by decide) q89 dX0_copyFrom_73 rfl ?_
  refine aw_iconst (pc := 76) C (v := 0) dX0_copyFrom_76 rfl ?_
  refine aw_aload_n (pc := 77) C dX0_copyFrom_77 rfl 0 rfl ?_
  refine aw_get (pc := 78) C (a := a0) (k := 2) (v := .int (μ8.1 a0 2)) inX0 (kdF ha0) rfl (by decide) q80 dX0_copyFrom_78 rfl ?_
  obtain ⟨g9, h⟩ := cg_some h
  obtain ⟨μ10, eμ10, h⟩ := bd_some h
  refine aw_copy (pc := 81) C (a0 := (a1 + 4)) (a1 := (a0 + 4)) q360 q362 q361 q13 ((kdFk (k := 4) ha1 rfl rfl)) ((kdFk (k := 4) ha0 rfl rfl)) g9.1 g9.2.1 g9.2.2.1 g9.2.2.2.1 g9.2.2.2.2 dX0_copyFrom_81 (Nat.le_of_ble_eq_true rfl) (Nat.le_of_ble_eq_true rfl) eμ10 ?_
  refine aw_aload_n (pc := 84) C dX0_copyFrom_84 rfl 0 rfl ?_
  refine aw_aload_n (pc := 85) C dX0_copyFrom_85 rfl 1 rfl ?_
  refine aw_get (pc := 86) C (a := a1) (k := 6) (v := .int (μ10.1 a1 6)) inX0 (kdF ha1) rfl (by decide) q92 dX0_copyFrom_86 rfl ?_
  obtain ⟨μ11, eμ11, h⟩ := bd_some h
  refine aw_putI (pc := 89) C (a := a0) (k := 6) (ty := .int) inX0 tyX0 tyX0_ok nmX0 (kdF ha0) rfl (by decide) q92 rfl (by decide +kernel) rfl rfl (by show 6 < 18; decide) dX0_copyFrom_89 fl_0_6 eμ11 ?_
  refine aw_aload_n (pc := 92) C dX0_copyFrom_92 rfl 1 rfl ?_
  refine aw_get (pc := 93) C (a := a1) (k := 7) (v := .ref (ad (a1 + 5))) inX0 (kdF ha1) rfl (by decide) q95 dX0_copyFrom_93 rfl ?_
  refine aw_iconst (pc := 96) C (v := 0) dX0_copyFrom_96 rfl ?_
  refine aw_aload_n (pc := 97) C dX0_copyFrom_97 rfl 0 rfl ?_
  refine aw_get (pc := 98) C (a := a0) (k := 7) (v := .ref (ad (a0 + 5))) inX0 (kdF ha0) rfl (by decide) q95 dX0_copyFrom_98 rfl ?_
  refine aw_iconst (pc := 101) C (v := 0) dX0_copyFrom_101 rfl ?_
  refine aw_aload_n (pc := 102) C dX0_copyFrom_102 rfl 0 rfl ?_
  refine aw_get (pc := 103) C (a := a0) (k := 6) (v := .int (μ11.1 a0 6)) inX0 (kdF ha0) rfl (by decide) q92 dX0_copyFrom_103 rfl ?_
  obtain ⟨g12, h⟩ := cg_some h
  obtain ⟨μ13, eμ13, h⟩ := bd_some h
  refine aw_copy (pc := 106) C (a0 := (a1 + 5)) (a1 := (a0 + 5)) q360 q362 q361 q13 ((kdFk (k := 5) ha1 rfl rfl)) ((kdFk (k := 5) ha0 rfl rfl)) g12.1 g12.2.1 g12.2.2.1 g12.2.2.2.1 g12.2.2.2.2 dX0_copyFrom_106 (Nat.le_of_ble_eq_true rfl) (Nat.le_of_ble_eq_true rfl) eμ13 ?_
  refine aw_aload_n (pc := 109) C dX0_copyFrom_109 rfl 1 rfl ?_
  refine aw_get (pc := 110) C (a := a1) (k := 8) (v := .ref (ad (a1 + 6))) inX0 (kdF ha1) rfl (by decide) q98 dX0_copyFrom_110 rfl ?_
  refine aw_iconst (pc := 113) C (v := 0) dX0_copyFrom_113 rfl ?_
  refine aw_aload_n (pc := 114) C dX0_copyFrom_114 rfl 0 rfl ?_
  refine aw_get (pc := 115) C (a := a0) (k := 8) (v := .ref (ad (a0 + 6))) inX0 (kdF ha0) rfl (by decide) q98 dX0_copyFrom_115 rfl ?_
  refine aw_iconst (pc := 118) C (v := 0) dX0_copyFrom_118 rfl ?_
  refine aw_aload_n (pc := 119) C dX0_copyFrom_119 rfl 0 rfl ?_
  refine aw_get (pc := 120) C (a := a0) (k := 6) (v := .int (μ13.1 a0 6)) inX0 (kdF ha0) rfl (by decide) q92 dX0_copyFrom_120 rfl ?_
  obtain ⟨g14, h⟩ := cg_some h
  obtain ⟨μ15, eμ15, h⟩ := bd_some h
  refine aw_copy (pc := 123) C (a0 := (a1 + 6)) (a1 := (a0 + 6)) q360 q362 q361 q13 ((kdFk (k := 6) ha1 rfl rfl)) ((kdFk (k := 6) ha0 rfl rfl)) g14.1 g14.2.1 g14.2.2.1 g14.2.2.2.1 g14.2.2.2.2 dX0_copyFrom_123 (Nat.le_of_ble_eq_true rfl) (Nat.le_of_ble_eq_true rfl) eμ15 ?_
  refine aw_aload_n (pc := 126) C dX0_copyFrom_126 rfl 1 rfl ?_
  refine aw_get (pc := 127) C (a := a1) (k := 9) (v := .ref (ad (a1 + 7))) inX0 (kdF ha1) rfl (by decide) q101 dX0_copyFrom_127 rfl ?_
  refine aw_iconst (pc := 130) C (v := 0) dX0_copyFrom_130 rfl ?_
  refine aw_aload_n (pc := 131) C dX0_copyFrom_131 rfl 0 rfl ?_
  refine aw_get (pc := 132) C (a := a0) (k := 9) (v := .ref (ad (a0 + 7))) inX0 (kdF ha0) rfl (by decide) q101 dX0_copyFrom_132 rfl ?_
  refine aw_iconst (pc := 135) C (v := 0) dX0_copyFrom_135 rfl ?_
  refine aw_aload_n (pc := 136) C dX0_copyFrom_136 rfl 0 rfl ?_
  refine aw_get (pc := 137) C (a := a0) (k := 6) (v := .int (μ15.1 a0 6)) inX0 (kdF ha0) rfl (by decide) q92 dX0_copyFrom_137 rfl ?_
  obtain ⟨g16, h⟩ := cg_some h
  obtain ⟨μ17, eμ17, h⟩ := bd_some h
  refine aw_copy (pc := 140) C (a0 := (a1 + 7)) (a1 := (a0 + 7)) q360 q362 q361 q13 ((kdFk (k := 7) ha1 rfl rfl)) ((kdFk (k := 7) ha0 rfl rfl)) g16.1 g16.2.1 g16.2.2.1 g16.2.2.2.1 g16.2.2.2.2 dX0_copyFrom_140 (Nat.le_of_ble_eq_true rfl) (Nat.le_of_ble_eq_true rfl) eμ17 ?_
  refine aw_aload_n (pc := 143) C dX0_copyFrom_143 rfl 1 rfl ?_
  refine aw_get (pc := 144) C (a := a1) (k := 10) (v := .ref (ad (a1 + 8))) inX0 (kdF ha1) rfl (by decide) q104 dX0_copyFrom_144 rfl ?_
  refine aw_iconst (pc := 147) C (v := 0) dX0_copyFrom_147 rfl ?_
  refine aw_aload_n (pc := 148) C dX0_copyFrom_148 rfl 0 rfl ?_
  refine aw_get (pc := 149) C (a := a0) (k := 10) (v := .ref (ad (a0 + 8))) inX0 (kdF ha0) rfl (by decide) q104 dX0_copyFrom_149 rfl ?_
  refine aw_iconst (pc := 152) C (v := 0) dX0_copyFrom_152 rfl ?_
  refine aw_aload_n (pc := 153) C dX0_copyFrom_153 rfl 0 rfl ?_
  refine aw_get (pc := 154) C (a := a0) (k := 6) (v := .int (μ17.1 a0 6)) inX0 (kdF ha0) rfl (by decide) q92 dX0_copyFrom_154 rfl ?_
  obtain ⟨g18, h⟩ := cg_some h
  obtain ⟨μ19, eμ19, h⟩ := bd_some h
  refine aw_copy (pc := 157) C (a0 := (a1 + 8)) (a1 := (a0 + 8)) q360 q362 q361 q13 ((kdFk (k := 8) ha1 rfl rfl)) ((kdFk (k := 8) ha0 rfl rfl)) g18.1 g18.2.1 g18.2.2.1 g18.2.2.2.1 g18.2.2.2.2 dX0_copyFrom_157 (Nat.le_of_ble_eq_true rfl) (Nat.le_of_ble_eq_true rfl) eμ19 ?_
  refine aw_aload_n (pc := 160) C dX0_copyFrom_160 rfl 1 rfl ?_
  refine aw_get (pc := 161) C (a := a1) (k := 11) (v := .ref (ad (a1 + 9))) inX0 (kdF ha1) rfl (by decide) q107 dX0_copyFrom_161 rfl ?_
  refine aw_iconst (pc := 164) C (v := 0) dX0_copyFrom_164 rfl ?_
  refine aw_aload_n (pc := 165) C dX0_copyFrom_165 rfl 0 rfl ?_
  refine aw_get (pc := 166) C (a := a0) (k := 11) (v := .ref (ad (a0 + 9))) inX0 (kdF ha0) rfl (by decide) q107 dX0_copyFrom_166 rfl ?_
  refine aw_iconst (pc := 169) C (v := 0) dX0_copyFrom_169 rfl ?_
  refine aw_aload_n (pc := 170) C dX0_copyFrom_170 rfl 0 rfl ?_
  refine aw_get (pc := 171) C (a := a0) (k := 6) (v := .int (μ19.1 a0 6)) inX0 (kdF ha0) rfl (by decide) q92 dX0_copyFrom_171 rfl ?_
  obtain ⟨g20, h⟩ := cg_some h
  obtain ⟨μ21, eμ21, h⟩ := bd_some h
  refine aw_copy (pc := 174) C (a0 := (a1 + 9)) (a1 := (a0 + 9)) q360 q362 q361 q13 ((kdFk (k := 9) ha1 rfl rfl)) ((kdFk (k := 9) ha0 rfl rfl)) g20.1 g20.2.1 g20.2.2.1 g20.2.2.2.1 g20.2.2.2.2 dX0_copyFrom_174 (Nat.le_of_ble_eq_true rfl) (Nat.le_of_ble_eq_true rfl) eμ21 ?_
  refine aw_aload_n (pc := 177) C dX0_copyFrom_177 rfl 1 rfl ?_
  refine aw_get (pc := 178) C (a := a1) (k := 12) (v := .ref (ad (a1 + 10))) inX0 (kdF ha1) rfl (by decide) q110 dX0_copyFrom_178 rfl ?_
  refine aw_iconst (pc := 181) C (v := 0) dX0_copyFrom_181 rfl ?_
  refine aw_aload_n (pc := 182) C dX0_copyFrom_182 rfl 0 rfl ?_
  refine aw_get (pc := 183) C (a := a0) (k := 12) (v := .ref (ad (a0 + 10))) inX0 (kdF ha0) rfl (by decide) q110 dX0_copyFrom_183 rfl ?_
  refine aw_iconst (pc := 186) C (v := 0) dX0_copyFrom_186 rfl ?_
  refine aw_aload_n (pc := 187) C dX0_copyFrom_187 rfl 0 rfl ?_
  refine aw_get (pc := 188) C (a := a0) (k := 6) (v := .int (μ21.1 a0 6)) inX0 (kdF ha0) rfl (by decide) q92 dX0_copyFrom_188 rfl ?_
  obtain ⟨g22, h⟩ := cg_some h
  obtain ⟨μ23, eμ23, h⟩ := bd_some h
  refine aw_copy (pc := 191) C (a0 := (a1 + 10)) (a1 := (a0 + 10)) q360 q362 q361 q13 ((kdFk (k := 10) ha1 rfl rfl)) ((kdFk (k := 10) ha0 rfl rfl)) g22.1 g22.2.1 g22.2.2.1 g22.2.2.2.1 g22.2.2.2.2 dX0_copyFrom_191 (Nat.le_of_ble_eq_true rfl) (Nat.le_of_ble_eq_true rfl) eμ23 ?_
  refine aw_aload_n (pc := 194) C dX0_copyFrom_194 rfl 0 rfl ?_
  refine aw_aload_n (pc := 195) C dX0_copyFrom_195 rfl 1 rfl ?_
  refine aw_get (pc := 196) C (a := a1) (k := 13) (v := .int (μ23.1 a1 13)) inX0 (kdF ha1) rfl (by decide) q113 dX0_copyFrom_196 rfl ?_
  obtain ⟨μ24, eμ24, h⟩ := bd_some h
  refine aw_putI (pc := 199) C (a := a0) (k := 13) (ty := .int) inX0 tyX0 tyX0_ok nmX0 (kdF ha0) rfl (by decide) q113 rfl (by decide +kernel) rfl rfl (by show 13 < 18; decide) dX0_copyFrom_199 fl_0_13 eμ24 ?_
  refine aw_aload_n (pc := 202) C dX0_copyFrom_202 rfl 1 rfl ?_
  refine aw_get (pc := 203) C (a := a1) (k := 14) (v := .ref (ad (a1 + 11))) inX0 (kdF ha1) rfl (by decide) q115 dX0_copyFrom_203 rfl ?_
  refine aw_iconst (pc := 206) C (v := 0) dX0_copyFrom_206 rfl ?_
  refine aw_aload_n (pc := 207) C dX0_copyFrom_207 rfl 0 rfl ?_
  refine aw_get (pc := 208) C (a := a0) (k := 14) (v := .ref (ad (a0 + 11))) inX0 (kdF ha0) rfl (by decide) q115 dX0_copyFrom_208 rfl ?_
  refine aw_iconst (pc := 211) C (v := 0) dX0_copyFrom_211 rfl ?_
  refine aw_aload_n (pc := 212) C dX0_copyFrom_212 rfl 0 rfl ?_
  refine aw_get (pc := 213) C (a := a0) (k := 13) (v := .int (μ24.1 a0 13)) inX0 (kdF ha0) rfl (by decide) q113 dX0_copyFrom_213 rfl ?_
  obtain ⟨g25, h⟩ := cg_some h
  obtain ⟨μ26, eμ26, h⟩ := bd_some h
  refine aw_copy (pc := 216) C (a0 := (a1 + 11)) (a1 := (a0 + 11)) q360 q362 q361 q13 ((kdFk (k := 11) ha1 rfl rfl)) ((kdFk (k := 11) ha0 rfl rfl)) g25.1 g25.2.1 g25.2.2.1 g25.2.2.2.1 g25.2.2.2.2 dX0_copyFrom_216 (Nat.le_of_ble_eq_true rfl) (Nat.le_of_ble_eq_true rfl) eμ26 ?_
  refine aw_aload_n (pc := 219) C dX0_copyFrom_219 rfl 1 rfl ?_
  refine aw_get (pc := 220) C (a := a1) (k := 15) (v := .ref (ad (a1 + 12))) inX0 (kdF ha1) rfl (by decide) q117 dX0_copyFrom_220 rfl ?_
  refine aw_iconst (pc := 223) C (v := 0) dX0_copyFrom_223 rfl ?_
  refine aw_aload_n (pc := 224) C dX0_copyFrom_224 rfl 0 rfl ?_
  refine aw_get (pc := 225) C (a := a0) (k := 15) (v := .ref (ad (a0 + 12))) inX0 (kdF ha0) rfl (by decide) q117 dX0_copyFrom_225 rfl ?_
  refine aw_iconst (pc := 228) C (v := 0) dX0_copyFrom_228 rfl ?_
  refine aw_aload_n (pc := 229) C dX0_copyFrom_229 rfl 0 rfl ?_
  refine aw_get (pc := 230) C (a := a0) (k := 13) (v := .int (μ26.1 a0 13)) inX0 (kdF ha0) rfl (by decide) q113 dX0_copyFrom_230 rfl ?_
  obtain ⟨g27, h⟩ := cg_some h
  obtain ⟨μ28, eμ28, h⟩ := bd_some h
  refine aw_copy (pc := 233) C (a0 := (a1 + 12)) (a1 := (a0 + 12)) q360 q362 q361 q13 ((kdFk (k := 12) ha1 rfl rfl)) ((kdFk (k := 12) ha0 rfl rfl)) g27.1 g27.2.1 g27.2.2.1 g27.2.2.2.1 g27.2.2.2.2 dX0_copyFrom_233 (Nat.le_of_ble_eq_true rfl) (Nat.le_of_ble_eq_true rfl) eμ28 ?_
  cases h
  exact aw_vret (pc := 236) C dX0_copyFrom_236
/-! ### NameScopes$Facts.declares(II)Z -/
theorem ok_X0_declares_l2 {l : Launch} {p : Program} {e : Env} {s : State} {m : MethodId} {args : Array Value} {below : List Frame} {meth : Method} {c : Code} {D : va_G} {cI cL : ClassId} {ad : Nat → Nat} (C : CX p l s m args meth c RX0 cX0_declares 4 (some .boolean) D cI cL (AA ad s.heap.size)) (hex : ∀ x ∈ c.exceptionTable.toList, False) {r : Int32} {a0 : Nat} {v1 : Int32} {v2 : Int32} {μ : Mm} (ha0 : isF a0) {k2 : Int32 → Option Int32} (hk2 : ∀ (v3 : Int32), k2 v3 = some r → AV l p e s m args below meth c D cI cL ad 0 4 (.inr (some (.int r))) μ 2 [(0, .ref (ad a0)), (1, .int v1), (2, .int v2), (3, .int v3)] [] μ) {v3 : Int32}  (h : X0_declares_l2 a0 v1 v2 μ k2 v3 = some r) : AV l p e s m args below meth c D cI cL ad 0 4 (.inr (some (.int r))) μ 2 [(0, .ref (ad a0)), (1, .int v1), (2, .int v2), (3, .int v3)] [] μ := by
  unfold X0_declares_l2 at h
  refine aw_iload_n (pc := 2) C dX0_declares_2 rfl 3 rfl ?_
  refine aw_aload_n (pc := 3) C dX0_declares_3 rfl 0 rfl ?_
  refine aw_get (pc := 4) C (a := a0) (k := 2) (v := .int (μ.1 a0 2)) inX0 (kdF ha0) rfl (by decide) q80 dX0_declares_4 rfl ?_
  refine aw_icmp_ge (pc := 7) C 38 dX0_declares_7 rfl (fun hc => ?_) (fun hc => ?_)
  · replace h := ite_T h hc
    refine aw_iconst (pc := 38) C (v := 0) dX0_declares_38 rfl ?_
    cases h
    exact aw_zret (pc := 39) C (b01_nar b01_0) dX0_declares_39
  · replace h := ite_F h hc
    refine aw_aload_n (pc := 10) C dX0_declares_10 rfl 0 rfl ?_
    refine aw_get (pc := 11) C (a := a0) (k := 3) (v := .ref (ad (a0 + 2))) inX0 (kdF ha0) rfl (by decide) q83 dX0_declares_11 rfl ?_
    refine aw_iload_n (pc := 14) C dX0_declares_14 rfl 3 rfl ?_
    obtain ⟨g1, h⟩ := ck_some h
    refine aw_iaload (pc := 15) C (a := (a0 + 2)) ((kdFk (k := 2) ha0 rfl rfl)) g1 dX0_declares_15 ?_
    refine aw_iload_n (pc := 16) C dX0_declares_16 rfl 1 rfl ?_
    refine aw_icmp_ne (pc := 17) C 32 dX0_declares_17 rfl (fun hc => ?_) (fun hc => ?_)
    · replace h := ite_F h hc
      refine aw_iinc (pc := 32) C (v := (v3 + 1)) (lv' := [(3, .int (v3 + 1)), (0, .ref (ad a0)), (1, .int v1), (2, .int v2)]) dX0_declares_32 3 rfl (by decide) rfl rfl ?_
      refine aw_goto (pc := 35) C 2 dX0_declares_35 rfl ?_
      refine aw_sub [1, 2, 3, 0] rfl ?_
      exact hk2 (v3 + 1) h
    · replace h := ite_T h hc
      refine aw_aload_n (pc := 20) C dX0_declares_20 rfl 0 rfl ?_
      refine aw_get (pc := 21) C (a := a0) (k := 4) (v := .ref (ad (a0 + 3))) inX0 (kdF ha0) rfl (by decide) q86 dX0_declares_21 rfl ?_
      refine aw_iload_n (pc := 24) C dX0_declares_24 rfl 3 rfl ?_
      obtain ⟨g2, h⟩ := ck_some h
      refine aw_iaload (pc := 25) C (a := (a0 + 3)) ((kdFk (k := 3) ha0 rfl rfl)) g2 dX0_declares_25 ?_
      refine aw_iload_n (pc := 26) C dX0_declares_26 rfl 2 rfl ?_
      refine aw_icmp_ne (pc := 27) C 32 dX0_declares_27 rfl (fun hc => ?_) (fun hc => ?_)
      · replace h := ite_F h hc
        refine aw_iinc (pc := 32) C (v := (v3 + 1)) (lv' := [(3, .int (v3 + 1)), (0, .ref (ad a0)), (1, .int v1), (2, .int v2)]) dX0_declares_32 3 rfl (by decide) rfl rfl ?_
        refine aw_goto (pc := 35) C 2 dX0_declares_35 rfl ?_
        refine aw_sub [1, 2, 3, 0] rfl ?_
        exact hk2 (v3 + 1) h
      · replace h := ite_T h hc
        refine aw_iconst (pc := 30) C (v := 1) dX0_declares_30 rfl ?_
        cases h
        exact aw_zret (pc := 31) C (b01_nar b01_1) dX0_declares_31
theorem ok_X0_declares_l2_w {l : Launch} {p : Program} {e : Env} {s : State} {m : MethodId} {args : Array Value} {below : List Frame} {meth : Method} {c : Code} {D : va_G} {cI cL : ClassId} {ad : Nat → Nat} (C : CX p l s m args meth c RX0 cX0_declares 4 (some .boolean) D cI cL (AA ad s.heap.size)) (hex : ∀ x ∈ c.exceptionTable.toList, False) {r : Int32} {a0 : Nat} {v1 : Int32} {v2 : Int32} {μ : Mm} (ha0 : isF a0) : ∀ (n : Nat) (v3 : Int32) , itr (X0_declares_l2 a0 v1 v2 μ) (fun _ => none) n v3 = some r → AV l p e s m args below meth c D cI cL ad 0 4 (.inr (some (.int r))) μ 2 [(0, .ref (ad a0)), (1, .int v1), (2, .int v2), (3, .int v3)] [] μ := by
  intro n
  induction n with
  | zero => intro v3 h; exact nomatch (show (none : Option Int32) = some r from h)
  | succ n ih => intro v3 h; exact ok_X0_declares_l2 C hex (a0 := a0) (v1 := v1) (v2 := v2) (μ := μ) ha0 ih h
theorem ok_X0_declares {l : Launch} (htr : l.stackTraces = false) {a0 : Nat} {v1 : Int32} {v2 : Int32} {μ : Mm} {r : Int32} (ha0 : isF a0) (h : X0_declares a0 v1 v2 μ = some r) : MetX l yX0_declares cX0_declares 4 (some .boolean) 0 (fun ad => [.ref (ad a0), .int v1, .int v2]) μ (.inr (some (.int r))) μ := by
  refine MetX.of htr (by decide) rfl (fun ad => Nat.le_of_ble_eq_true rfl) (fun p e s m args below meth c D cI cL ad C hex hw => ?_)
  show AV l p e s m args below meth c D cI cL ad 0 4 (.inr (some (.int r))) μ 0 [(0, .ref (ad a0)), (1, .int v1), (2, .int v2)] [] μ
  unfold X0_declares at h
  refine aw_iconst (pc := 0) C (v := 0) dX0_declares_0 rfl ?_
  refine aw_istore_n (pc := 1) C (x := 0) (lv' := [(3, .int 0), (0, .ref (ad a0)), (1, .int v1), (2, .int v2)]) dX0_declares_1 rfl (by decide) rfl rfl ?_
  refine aw_sub [1, 2, 3, 0] rfl ?_
  exact ok_X0_declares_l2_w C hex ha0 big 0 h
/-! ### NameScopes$Facts.dropDeclaration(I)V -/
theorem ok_X0_dropDeclaration {l : Launch} (htr : l.stackTraces = false) {a0 : Nat} {v1 : Int32} {μ : Mm} {r : Mm} (ha0 : isF a0) (h : X0_dropDeclaration a0 v1 μ = some r) : MetX l yX0_dropDeclaration cX0_dropDeclaration 2 none 3 (fun ad => [.ref (ad a0), .int v1]) μ (.inr none) r := by
  refine MetX.of htr (by decide) rfl (fun ad => Nat.le_of_ble_eq_true rfl) (fun p e s m args below meth c D cI cL ad C hex hw => ?_)
  show AV l p e s m args below meth c D cI cL ad 3 2 (.inr none) r 0 [(0, .ref (ad a0)), (1, .int v1)] [] μ
  unfold X0_dropDeclaration at h
  refine aw_aload_n (pc := 0) C dX0_dropDeclaration_0 rfl 0 rfl ?_
  refine aw_get (pc := 1) C (a := a0) (k := 3) (v := .ref (ad (a0 + 2))) inX0 (kdF ha0) rfl (by decide) q83 dX0_dropDeclaration_1 rfl ?_
  refine aw_iload_n (pc := 4) C dX0_dropDeclaration_4 rfl 1 rfl ?_
  refine aw_aload_n (pc := 5) C dX0_dropDeclaration_5 rfl 0 rfl ?_
  refine aw_get (pc := 6) C (a := a0) (k := 2) (v := .int (μ.1 a0 2)) inX0 (kdF ha0) rfl (by decide) q80 dX0_dropDeclaration_6 rfl ?_
  obtain ⟨μ3, hq1, h⟩ := bi_some h
  refine aw_Sv (pc := 9) (Bs := [.ref (ad (a0 + 2)), .int v1, .int (μ.1 a0 2)]) C (ok_X0_closeGap C.tr (isArr_of ((kdFk (k := 2) ha0 rfl rfl))) hq1) kv_X0_closeGap q367 rfl rfl dX0_dropDeclaration_9 ⟨(show 3 ≤ 3 by decide), (show 84 ≤ 93 by decide)⟩ ⟨Nat.zero_le _, Nat.zero_le _⟩ [] (Nat.le_of_ble_eq_true rfl) rfl ?_
  refine aw_aload_n (pc := 12) C dX0_dropDeclaration_12 rfl 0 rfl ?_
  refine aw_get (pc := 13) C (a := a0) (k := 4) (v := .ref (ad (a0 + 3))) inX0 (kdF ha0) rfl (by decide) q86 dX0_dropDeclaration_13 rfl ?_
  refine aw_iload_n (pc := 16) C dX0_dropDeclaration_16 rfl 1 rfl ?_
  refine aw_aload_n (pc := 17) C dX0_dropDeclaration_17 rfl 0 rfl ?_
  refine aw_get (pc := 18) C (a := a0) (k := 2) (v := .int (μ3.1 a0 2)) inX0 (kdF ha0) rfl (by decide) q80 dX0_dropDeclaration_18 rfl ?_
  obtain ⟨μ6, hq4, h⟩ := bi_some h
  refine aw_Sv (pc := 21) (Bs := [.ref (ad (a0 + 3)), .int v1, .int (μ3.1 a0 2)]) C (ok_X0_closeGap C.tr (isArr_of ((kdFk (k := 3) ha0 rfl rfl))) hq4) kv_X0_closeGap q367 rfl rfl dX0_dropDeclaration_21 ⟨(show 3 ≤ 3 by decide), (show 84 ≤ 93 by decide)⟩ ⟨Nat.zero_le _, Nat.zero_le _⟩ [] (Nat.le_of_ble_eq_true rfl) rfl ?_
  refine aw_aload_n (pc := 24) C dX0_dropDeclaration_24 rfl 0 rfl ?_
  refine aw_get (pc := 25) C (a := a0) (k := 5) (v := .ref (ad (a0 + 4))) inX0 (kdF ha0) rfl (by decide) q89 dX0_dropDeclaration_25 rfl ?_
  refine aw_iload_n (pc := 28) C dX0_dropDeclaration_28 rfl 1 rfl ?_
  refine aw_aload_n (pc := 29) C dX0_dropDeclaration_29 rfl 0 rfl ?_
  refine aw_get (pc := 30) C (a := a0) (k := 2) (v := .int (μ6.1 a0 2)) inX0 (kdF ha0) rfl (by decide) q80 dX0_dropDeclaration_30 rfl ?_
  obtain ⟨μ9, hq7, h⟩ := bi_some h
  refine aw_Sv (pc := 33) (Bs := [.ref (ad (a0 + 4)), .int v1, .int (μ6.1 a0 2)]) C (ok_X0_closeGap C.tr (isArr_of ((kdFk (k := 4) ha0 rfl rfl))) hq7) kv_X0_closeGap q367 rfl rfl dX0_dropDeclaration_33 ⟨(show 3 ≤ 3 by decide), (show 84 ≤ 93 by decide)⟩ ⟨Nat.zero_le _, Nat.zero_le _⟩ [] (Nat.le_of_ble_eq_true rfl) rfl ?_
  refine aw_aload_n (pc := 36) C dX0_dropDeclaration_36 rfl 0 rfl ?_
  refine aw_dup (pc := 37) C dX0_dropDeclaration_37 rfl ?_
  refine aw_get (pc := 38) C (a := a0) (k := 2) (v := .int (μ9.1 a0 2)) inX0 (kdF ha0) rfl (by decide) q80 dX0_dropDeclaration_38 rfl ?_
  refine aw_iconst (pc := 41) C (v := 1) dX0_dropDeclaration_41 rfl ?_
  refine aw_isub (pc := 42) C dX0_dropDeclaration_42 ?_
  obtain ⟨μ10, eμ10, h⟩ := bd_some h
  refine aw_putI (pc := 43) C (a := a0) (k := 2) (ty := .int) inX0 tyX0 tyX0_ok nmX0 (kdF ha0) rfl (by decide) q80 rfl (by decide +kernel) rfl rfl (by show 2 < 18; decide) dX0_dropDeclaration_43 fl_0_2 eμ10 ?_
  cases h
  exact aw_vret (pc := 46) C dX0_dropDeclaration_46
/-! ### NameScopes$Facts.dropImport(I)V -/
theorem ok_X0_dropImport {l : Launch} (htr : l.stackTraces = false) {a0 : Nat} {v1 : Int32} {μ : Mm} {r : Mm} (ha0 : isF a0) (h : X0_dropImport a0 v1 μ = some r) : MetX l yX0_dropImport cX0_dropImport 2 none 3 (fun ad => [.ref (ad a0), .int v1]) μ (.inr none) r := by
  refine MetX.of htr (by decide) rfl (fun ad => Nat.le_of_ble_eq_true rfl) (fun p e s m args below meth c D cI cL ad C hex hw => ?_)
  show AV l p e s m args below meth c D cI cL ad 3 2 (.inr none) r 0 [(0, .ref (ad a0)), (1, .int v1)] [] μ
  unfold X0_dropImport at h
  refine aw_aload_n (pc := 0) C dX0_dropImport_0 rfl 0 rfl ?_
  refine aw_get (pc := 1) C (a := a0) (k := 7) (v := .ref (ad (a0 + 5))) inX0 (kdF ha0) rfl (by decide) q95 dX0_dropImport_1 rfl ?_
  refine aw_iload_n (pc := 4) C dX0_dropImport_4 rfl 1 rfl ?_
  refine aw_aload_n (pc := 5) C dX0_dropImport_5 rfl 0 rfl ?_
  refine aw_get (pc := 6) C (a := a0) (k := 6) (v := .int (μ.1 a0 6)) inX0 (kdF ha0) rfl (by decide) q92 dX0_dropImport_6 rfl ?_
  obtain ⟨μ3, hq1, h⟩ := bi_some h
  refine aw_Sv (pc := 9) (Bs := [.ref (ad (a0 + 5)), .int v1, .int (μ.1 a0 6)]) C (ok_X0_closeGap C.tr (isArr_of ((kdFk (k := 5) ha0 rfl rfl))) hq1) kv_X0_closeGap q367 rfl rfl dX0_dropImport_9 ⟨(show 3 ≤ 3 by decide), (show 84 ≤ 93 by decide)⟩ ⟨Nat.zero_le _, Nat.zero_le _⟩ [] (Nat.le_of_ble_eq_true rfl) rfl ?_
  refine aw_aload_n (pc := 12) C dX0_dropImport_12 rfl 0 rfl ?_
  refine aw_get (pc := 13) C (a := a0) (k := 8) (v := .ref (ad (a0 + 6))) inX0 (kdF ha0) rfl (by decide) q98 dX0_dropImport_13 rfl ?_
  refine aw_iload_n (pc := 16) C dX0_dropImport_16 rfl 1 rfl ?_
  refine aw_aload_n (pc := 17) C dX0_dropImport_17 rfl 0 rfl ?_
  refine aw_get (pc := 18) C (a := a0) (k := 6) (v := .int (μ3.1 a0 6)) inX0 (kdF ha0) rfl (by decide) q92 dX0_dropImport_18 rfl ?_
  obtain ⟨μ6, hq4, h⟩ := bi_some h
  refine aw_Sv (pc := 21) (Bs := [.ref (ad (a0 + 6)), .int v1, .int (μ3.1 a0 6)]) C (ok_X0_closeGap C.tr (isArr_of ((kdFk (k := 6) ha0 rfl rfl))) hq4) kv_X0_closeGap q367 rfl rfl dX0_dropImport_21 ⟨(show 3 ≤ 3 by decide), (show 84 ≤ 93 by decide)⟩ ⟨Nat.zero_le _, Nat.zero_le _⟩ [] (Nat.le_of_ble_eq_true rfl) rfl ?_
  refine aw_aload_n (pc := 24) C dX0_dropImport_24 rfl 0 rfl ?_
  refine aw_get (pc := 25) C (a := a0) (k := 9) (v := .ref (ad (a0 + 7))) inX0 (kdF ha0) rfl (by decide) q101 dX0_dropImport_25 rfl ?_
  refine aw_iload_n (pc := 28) C dX0_dropImport_28 rfl 1 rfl ?_
  refine aw_aload_n (pc := 29) C dX0_dropImport_29 rfl 0 rfl ?_
  refine aw_get (pc := 30) C (a := a0) (k := 6) (v := .int (μ6.1 a0 6)) inX0 (kdF ha0) rfl (by decide) q92 dX0_dropImport_30 rfl ?_
  obtain ⟨μ9, hq7, h⟩ := bi_some h
  refine aw_Sv (pc := 33) (Bs := [.ref (ad (a0 + 7)), .int v1, .int (μ6.1 a0 6)]) C (ok_X0_closeGap C.tr (isArr_of ((kdFk (k := 7) ha0 rfl rfl))) hq7) kv_X0_closeGap q367 rfl rfl dX0_dropImport_33 ⟨(show 3 ≤ 3 by decide), (show 84 ≤ 93 by decide)⟩ ⟨Nat.zero_le _, Nat.zero_le _⟩ [] (Nat.le_of_ble_eq_true rfl) rfl ?_
  refine aw_aload_n (pc := 36) C dX0_dropImport_36 rfl 0 rfl ?_
  refine aw_get (pc := 37) C (a := a0) (k := 10) (v := .ref (ad (a0 + 8))) inX0 (kdF ha0) rfl (by decide) q104 dX0_dropImport_37 rfl ?_
  refine aw_iload_n (pc := 40) C dX0_dropImport_40 rfl 1 rfl ?_
  refine aw_aload_n (pc := 41) C dX0_dropImport_41 rfl 0 rfl ?_
  refine aw_get (pc := 42) C (a := a0) (k := 6) (v := .int (μ9.1 a0 6)) inX0 (kdF ha0) rfl (by decide) q92 dX0_dropImport_42 rfl ?_
  obtain ⟨μ12, hq10, h⟩ := bi_some h
  refine aw_Sv (pc := 45) (Bs := [.ref (ad (a0 + 8)), .int v1, .int (μ9.1 a0 6)]) C (ok_X0_closeGap C.tr (isArr_of ((kdFk (k := 8) ha0 rfl rfl))) hq10) kv_X0_closeGap q367 rfl rfl dX0_dropImport_45 ⟨(show 3 ≤ 3 by decide), (show 84 ≤ 93 by decide)⟩ ⟨Nat.zero_le _, Nat.zero_le _⟩ [] (Nat.le_of_ble_eq_true rfl) rfl ?_
  refine aw_aload_n (pc := 48) C dX0_dropImport_48 rfl 0 rfl ?_
  refine aw_get (pc := 49) C (a := a0) (k := 11) (v := .ref (ad (a0 + 9))) inX0 (kdF ha0) rfl (by decide) q107 dX0_dropImport_49 rfl ?_
  refine aw_iload_n (pc := 52) C dX0_dropImport_52 rfl 1 rfl ?_
  refine aw_aload_n (pc := 53) C dX0_dropImport_53 rfl 0 rfl ?_
  refine aw_get (pc := 54) C (a := a0) (k := 6) (v := .int (μ12.1 a0 6)) inX0 (kdF ha0) rfl (by decide) q92 dX0_dropImport_54 rfl ?_
  obtain ⟨μ15, hq13, h⟩ := bi_some h
  refine aw_Sv (pc := 57) (Bs := [.ref (ad (a0 + 9)), .int v1, .int (μ12.1 a0 6)]) C (ok_X0_closeGap C.tr (isArr_of ((kdFk (k := 9) ha0 rfl rfl))) hq13) kv_X0_closeGap q367 rfl rfl dX0_dropImport_57 ⟨(show 3 ≤ 3 by decide), (show 84 ≤ 93 by decide)⟩ ⟨Nat.zero_le _, Nat.zero_le _⟩ [] (Nat.le_of_ble_eq_true rfl) rfl ?_
  refine aw_aload_n (pc := 60) C dX0_dropImport_60 rfl 0 rfl ?_
  refine aw_get (pc := 61) C (a := a0) (k := 12) (v := .ref (ad (a0 + 10))) inX0 (kdF ha0) rfl (by decide) q110 dX0_dropImport_61 rfl ?_
  refine aw_iload_n (pc := 64) C dX0_dropImport_64 rfl 1 rfl ?_
  refine aw_aload_n (pc := 65) C dX0_dropImport_65 rfl 0 rfl ?_
  refine aw_get (pc := 66) C (a := a0) (k := 6) (v := .int (μ15.1 a0 6)) inX0 (kdF ha0) rfl (by decide) q92 dX0_dropImport_66 rfl ?_
  obtain ⟨μ18, hq16, h⟩ := bi_some h
  refine aw_Sv (pc := 69) (Bs := [.ref (ad (a0 + 10)), .int v1, .int (μ15.1 a0 6)]) C (ok_X0_closeGap C.tr (isArr_of ((kdFk (k := 10) ha0 rfl rfl))) hq16) kv_X0_closeGap q367 rfl rfl dX0_dropImport_69 ⟨(show 3 ≤ 3 by decide), (show 84 ≤ 93 by decide)⟩ ⟨Nat.zero_le _, Nat.zero_le _⟩ [] (Nat.le_of_ble_eq_true rfl) rfl ?_
  refine aw_aload_n (pc := 72) C dX0_dropImport_72 rfl 0 rfl ?_
  refine aw_dup (pc := 73) C dX0_dropImport_73 rfl ?_
  refine aw_get (pc := 74) C (a := a0) (k := 6) (v := .int (μ18.1 a0 6)) inX0 (kdF ha0) rfl (by decide) q92 dX0_dropImport_74 rfl ?_
  refine aw_iconst (pc := 77) C (v := 1) dX0_dropImport_77 rfl ?_
  refine aw_isub (pc := 78) C dX0_dropImport_78 ?_
  obtain ⟨μ19, eμ19, h⟩ := bd_some h
  refine aw_putI (pc := 79) C (a := a0) (k := 6) (ty := .int) inX0 tyX0 tyX0_ok nmX0 (kdF ha0) rfl (by decide) q92 rfl (by decide +kernel) rfl rfl (by show 6 < 18; decide) dX0_dropImport_79 fl_0_6 eμ19 ?_
  cases h
  exact aw_vret (pc := 82) C dX0_dropImport_82
/-! ### NameScopes$Facts.dropUse(I)V -/
theorem ok_X0_dropUse {l : Launch} (htr : l.stackTraces = false) {a0 : Nat} {v1 : Int32} {μ : Mm} {r : Mm} (ha0 : isF a0) (h : X0_dropUse a0 v1 μ = some r) : MetX l yX0_dropUse cX0_dropUse 2 none 3 (fun ad => [.ref (ad a0), .int v1]) μ (.inr none) r := by
  refine MetX.of htr (by decide) rfl (fun ad => Nat.le_of_ble_eq_true rfl) (fun p e s m args below meth c D cI cL ad C hex hw => ?_)
  show AV l p e s m args below meth c D cI cL ad 3 2 (.inr none) r 0 [(0, .ref (ad a0)), (1, .int v1)] [] μ
  unfold X0_dropUse at h
  refine aw_aload_n (pc := 0) C dX0_dropUse_0 rfl 0 rfl ?_
  refine aw_get (pc := 1) C (a := a0) (k := 14) (v := .ref (ad (a0 + 11))) inX0 (kdF ha0) rfl (by decide) q115 dX0_dropUse_1 rfl ?_
  refine aw_iload_n (pc := 4) C dX0_dropUse_4 rfl 1 rfl ?_
  refine aw_aload_n (pc := 5) C dX0_dropUse_5 rfl 0 rfl ?_
  refine aw_get (pc := 6) C (a := a0) (k := 13) (v := .int (μ.1 a0 13)) inX0 (kdF ha0) rfl (by decide) q113 dX0_dropUse_6 rfl ?_
  obtain ⟨μ3, hq1, h⟩ := bi_some h
  refine aw_Sv (pc := 9) (Bs := [.ref (ad (a0 + 11)), .int v1, .int (μ.1 a0 13)]) C (ok_X0_closeGap C.tr (isArr_of ((kdFk (k := 11) ha0 rfl rfl))) hq1) kv_X0_closeGap q367 rfl rfl dX0_dropUse_9 ⟨(show 3 ≤ 3 by decide), (show 84 ≤ 93 by decide)⟩ ⟨Nat.zero_le _, Nat.zero_le _⟩ [] (Nat.le_of_ble_eq_true rfl) rfl ?_
  refine aw_aload_n (pc := 12) C dX0_dropUse_12 rfl 0 rfl ?_
  refine aw_get (pc := 13) C (a := a0) (k := 15) (v := .ref (ad (a0 + 12))) inX0 (kdF ha0) rfl (by decide) q117 dX0_dropUse_13 rfl ?_
  refine aw_iload_n (pc := 16) C dX0_dropUse_16 rfl 1 rfl ?_
  refine aw_aload_n (pc := 17) C dX0_dropUse_17 rfl 0 rfl ?_
  refine aw_get (pc := 18) C (a := a0) (k := 13) (v := .int (μ3.1 a0 13)) inX0 (kdF ha0) rfl (by decide) q113 dX0_dropUse_18 rfl ?_
  obtain ⟨μ6, hq4, h⟩ := bi_some h
  refine aw_Sv (pc := 21) (Bs := [.ref (ad (a0 + 12)), .int v1, .int (μ3.1 a0 13)]) C (ok_X0_closeGap C.tr (isArr_of ((kdFk (k := 12) ha0 rfl rfl))) hq4) kv_X0_closeGap q367 rfl rfl dX0_dropUse_21 ⟨(show 3 ≤ 3 by decide), (show 84 ≤ 93 by decide)⟩ ⟨Nat.zero_le _, Nat.zero_le _⟩ [] (Nat.le_of_ble_eq_true rfl) rfl ?_
  refine aw_aload_n (pc := 24) C dX0_dropUse_24 rfl 0 rfl ?_
  refine aw_dup (pc := 25) C dX0_dropUse_25 rfl ?_
  refine aw_get (pc := 26) C (a := a0) (k := 13) (v := .int (μ6.1 a0 13)) inX0 (kdF ha0) rfl (by decide) q113 dX0_dropUse_26 rfl ?_
  refine aw_iconst (pc := 29) C (v := 1) dX0_dropUse_29 rfl ?_
  refine aw_isub (pc := 30) C dX0_dropUse_30 ?_
  obtain ⟨μ7, eμ7, h⟩ := bd_some h
  refine aw_putI (pc := 31) C (a := a0) (k := 13) (ty := .int) inX0 tyX0 tyX0_ok nmX0 (kdF ha0) rfl (by decide) q113 rfl (by decide +kernel) rfl rfl (by show 13 < 18; decide) dX0_dropUse_31 fl_0_13 eμ7 ?_
  cases h
  exact aw_vret (pc := 34) C dX0_dropUse_34
/-! ### NameScopes$Facts.firstLayer(II)I -/
theorem ok_X0_firstLayer_l5 {l : Launch} {p : Program} {e : Env} {s : State} {m : MethodId} {args : Array Value} {below : List Frame} {meth : Method} {c : Code} {D : va_G} {cI cL : ClassId} {ad : Nat → Nat} (C : CX p l s m args meth c RX0 cX0_firstLayer 6 (some .int) D cI cL (AA ad s.heap.size)) (hex : ∀ x ∈ c.exceptionTable.toList, False) {r : Int32} {a0 : Nat} {v1 : Int32} {v2 : Int32} {μ : Mm} (ha0 : isF a0) {k5 : Int32 → Int32 → Option Int32} (hk5 : ∀ (v3 : Int32) (v4 : Int32), k5 v3 v4 = some r → AV l p e s m args below meth c D cI cL ad 0 6 (.inr (some (.int r))) μ 5 [(0, .ref (ad a0)), (2, .int v2), (3, .int v3), (4, .int v4)] [] μ) {v3 : Int32} {v4 : Int32}  (h : X0_firstLayer_l5 a0 v1 v2 μ k5 v3 v4 = some r) : AV l p e s m args below meth c D cI cL ad 0 6 (.inr (some (.int r))) μ 5 [(0, .ref (ad a0)), (2, .int v2), (3, .int v3), (4, .int v4)] [] μ := by
  unfold X0_firstLayer_l5 at h
  refine aw_iload (pc := 5) C dX0_firstLayer_5 3 rfl ?_
  refine aw_bipush (pc := 7) C (v := 16) dX0_firstLayer_7 rfl ?_
  refine aw_icmp_ge (pc := 9) C 110 dX0_firstLayer_9 rfl (fun hc => ?_) (fun hc => ?_)
  · replace h := ite_T h hc
    refine aw_iconst (pc := 110) C (v := 0) dX0_firstLayer_110 rfl ?_
    cases h
    exact aw_iret (pc := 111) C dX0_firstLayer_111
  · replace h := ite_F h hc
    refine aw_iload_n (pc := 12) C dX0_firstLayer_12 rfl 2 rfl ?_
    refine aw_iconst (pc := 13) C (v := (-1)) dX0_firstLayer_13 rfl ?_
    refine aw_icmp_eq (pc := 14) C 110 dX0_firstLayer_14 rfl (fun hc => ?_) (fun hc => ?_)
    · replace h := ite_T h hc
      refine aw_iconst (pc := 110) C (v := 0) dX0_firstLayer_110 rfl ?_
      cases h
      exact aw_iret (pc := 111) C dX0_firstLayer_111
    · replace h := ite_F h hc
      refine aw_iload_n (pc := 17) C dX0_firstLayer_17 rfl 2 rfl ?_
      refine aw_bipush (pc := 18) C (v := 26) dX0_firstLayer_18 rfl ?_
      refine aw_imul (pc := 20) C dX0_firstLayer_20 ?_
      refine aw_iload_n (pc := 21) C dX0_firstLayer_21 rfl 1 rfl ?_
      refine aw_iadd (pc := 22) C dX0_firstLayer_22 ?_
      obtain ⟨x1, ex1, h⟩ := bd_some h
      refine aw_istore (pc := 23) C (x := x1) (lv' := [(5, .int x1), (0, .ref (ad a0)), (2, .int v2), (3, .int v3), (4, .int v4)]) dX0_firstLayer_23 (by decide) ex1 rfl ?_
      refine aw_aload_n (pc := 25) C dX0_firstLayer_25 rfl 1 rfl ?_
      refine aw_get (pc := 26) C (a := a0) (k := 17) (v := .ref (ad (a0 + 14))) inX0 (kdF ha0) rfl (by decide) q121 dX0_firstLayer_26 rfl ?_
      refine aw_getN (pc := 29) C (a := (a0 + 14)) (k := 1) (v := .ref (ad ((a0 + 14) + 2))) inX1 (kdL_ (isFL ha0)) rfl (by decide) q55 dX0_firstLayer_29 rfl ?_
      refine aw_iload (pc := 32) C dX0_firstLayer_32 0 rfl ?_
      obtain ⟨g2, h⟩ := ck_some h
      refine aw_iaload (pc := 34) C (a := ((a0 + 14) + 2)) ((kdLk (k := 2) (isFL ha0) rfl rfl)) g2 dX0_firstLayer_34 ?_
      refine aw_if_eq (pc := 35) C 49 dX0_firstLayer_35 rfl (fun hc => ?_) (fun hc => ?_)
      · replace h := ite_T h hc
        refine aw_aload_n (pc := 49) C dX0_firstLayer_49 rfl 1 rfl ?_
        refine aw_get (pc := 50) C (a := a0) (k := 17) (v := .ref (ad (a0 + 14))) inX0 (kdF ha0) rfl (by decide) q121 dX0_firstLayer_50 rfl ?_
        refine aw_getN (pc := 53) C (a := (a0 + 14)) (k := 2) (v := .ref (ad ((a0 + 14) + 3))) inX1 (kdL_ (isFL ha0)) rfl (by decide) q58 dX0_firstLayer_53 rfl ?_
        refine aw_iload (pc := 56) C dX0_firstLayer_56 0 rfl ?_
        obtain ⟨g3, h⟩ := ck_some h
        refine aw_iaload (pc := 58) C (a := ((a0 + 14) + 3)) ((kdLk (k := 3) (isFL ha0) rfl rfl)) g3 dX0_firstLayer_58 ?_
        refine aw_if_eq (pc := 59) C 73 dX0_firstLayer_59 rfl (fun hc => ?_) (fun hc => ?_)
        · replace h := ite_T h hc
          refine aw_aload_n (pc := 73) C dX0_firstLayer_73 rfl 1 rfl ?_
          refine aw_get (pc := 74) C (a := a0) (k := 17) (v := .ref (ad (a0 + 14))) inX0 (kdF ha0) rfl (by decide) q121 dX0_firstLayer_74 rfl ?_
          refine aw_getN (pc := 77) C (a := (a0 + 14)) (k := 3) (v := .ref (ad ((a0 + 14) + 4))) inX1 (kdL_ (isFL ha0)) rfl (by decide) q60 dX0_firstLayer_77 rfl ?_
          refine aw_iload (pc := 80) C dX0_firstLayer_80 0 rfl ?_
          obtain ⟨g4, h⟩ := ck_some h
          refine aw_iaload (pc := 82) C (a := ((a0 + 14) + 4)) ((kdLk (k := 4) (isFL ha0) rfl rfl)) g4 dX0_firstLayer_82 ?_
          refine aw_if_eq (pc := 83) C 97 dX0_firstLayer_83 rfl (fun hc => ?_) (fun hc => ?_)
          · replace h := ite_T h hc
            refine aw_aload_n (pc := 97) C dX0_firstLayer_97 rfl 1 rfl ?_
            refine aw_get (pc := 98) C (a := a0) (k := 1) (v := .ref (ad (a0 + 1))) inX0 (kdF ha0) rfl (by decide) q78 dX0_firstLayer_98 rfl ?_
            refine aw_iload_n (pc := 101) C dX0_firstLayer_101 rfl 3 rfl ?_
            obtain ⟨g5, h⟩ := ck_some h
            refine aw_iaload (pc := 102) C (a := (a0 + 1)) ((kdFk (k := 1) ha0 rfl rfl)) g5 dX0_firstLayer_102 ?_
            obtain ⟨x6, ex6, h⟩ := bd_some h
            refine aw_istore_n (pc := 103) C (x := x6) (lv' := [(3, .int x6), (5, .int x1), (0, .ref (ad a0)), (2, .int v2), (4, .int v4)]) dX0_firstLayer_103 rfl (by decide) ex6 rfl ?_
            refine aw_iinc (pc := 104) C (v := (v4 + 1)) (lv' := [(4, .int (v4 + 1)), (3, .int x6), (5, .int x1), (0, .ref (ad a0)), (2, .int v2)]) dX0_firstLayer_104 4 rfl (by decide) rfl rfl ?_
            refine aw_goto (pc := 107) C 5 dX0_firstLayer_107 rfl ?_
            refine aw_sub [3, 4, 1, 0] rfl ?_
            exact hk5 x6 (v4 + 1) h
          · replace h := ite_F h hc
            refine aw_aload_n (pc := 86) C dX0_firstLayer_86 rfl 1 rfl ?_
            refine aw_get (pc := 87) C (a := a0) (k := 17) (v := .ref (ad (a0 + 14))) inX0 (kdF ha0) rfl (by decide) q121 dX0_firstLayer_87 rfl ?_
            refine aw_getN (pc := 90) C (a := (a0 + 14)) (k := 3) (v := .ref (ad ((a0 + 14) + 4))) inX1 (kdL_ (isFL ha0)) rfl (by decide) q60 dX0_firstLayer_90 rfl ?_
            refine aw_iload (pc := 93) C dX0_firstLayer_93 0 rfl ?_
            obtain ⟨g7, h⟩ := ck_some h
            refine aw_iaload (pc := 95) C (a := ((a0 + 14) + 4)) ((kdLk (k := 4) (isFL ha0) rfl rfl)) g7 dX0_firstLayer_95 ?_
            cases h
            exact aw_iret (pc := 96) C dX0_firstLayer_96
        · replace h := ite_F h hc
          refine aw_aload_n (pc := 62) C dX0_firstLayer_62 rfl 1 rfl ?_
          refine aw_get (pc := 63) C (a := a0) (k := 17) (v := .ref (ad (a0 + 14))) inX0 (kdF ha0) rfl (by decide) q121 dX0_firstLayer_63 rfl ?_
          refine aw_getN (pc := 66) C (a := (a0 + 14)) (k := 2) (v := .ref (ad ((a0 + 14) + 3))) inX1 (kdL_ (isFL ha0)) rfl (by decide) q58 dX0_firstLayer_66 rfl ?_
          refine aw_iload (pc := 69) C dX0_firstLayer_69 0 rfl ?_
          obtain ⟨g8, h⟩ := ck_some h
          refine aw_iaload (pc := 71) C (a := ((a0 + 14) + 3)) ((kdLk (k := 3) (isFL ha0) rfl rfl)) g8 dX0_firstLayer_71 ?_
          cases h
          exact aw_iret (pc := 72) C dX0_firstLayer_72
      · replace h := ite_F h hc
        refine aw_aload_n (pc := 38) C dX0_firstLayer_38 rfl 1 rfl ?_
        refine aw_get (pc := 39) C (a := a0) (k := 17) (v := .ref (ad (a0 + 14))) inX0 (kdF ha0) rfl (by decide) q121 dX0_firstLayer_39 rfl ?_
        refine aw_getN (pc := 42) C (a := (a0 + 14)) (k := 1) (v := .ref (ad ((a0 + 14) + 2))) inX1 (kdL_ (isFL ha0)) rfl (by decide) q55 dX0_firstLayer_42 rfl ?_
        refine aw_iload (pc := 45) C dX0_firstLayer_45 0 rfl ?_
        obtain ⟨g9, h⟩ := ck_some h
        refine aw_iaload (pc := 47) C (a := ((a0 + 14) + 2)) ((kdLk (k := 2) (isFL ha0) rfl rfl)) g9 dX0_firstLayer_47 ?_
        cases h
        exact aw_iret (pc := 48) C dX0_firstLayer_48
theorem ok_X0_firstLayer_l5_w {l : Launch} {p : Program} {e : Env} {s : State} {m : MethodId} {args : Array Value} {below : List Frame} {meth : Method} {c : Code} {D : va_G} {cI cL : ClassId} {ad : Nat → Nat} (C : CX p l s m args meth c RX0 cX0_firstLayer 6 (some .int) D cI cL (AA ad s.heap.size)) (hex : ∀ x ∈ c.exceptionTable.toList, False) {r : Int32} {a0 : Nat} {v1 : Int32} {v2 : Int32} {μ : Mm} (ha0 : isF a0) : ∀ (n : Nat) (v3 : Int32) (v4 : Int32) , itr (X0_firstLayer_l5 a0 v1 v2 μ) (fun _ _ => none) n v3 v4 = some r → AV l p e s m args below meth c D cI cL ad 0 6 (.inr (some (.int r))) μ 5 [(0, .ref (ad a0)), (2, .int v2), (3, .int v3), (4, .int v4)] [] μ := by
  intro n
  induction n with
  | zero => intro v3 v4 h; exact nomatch (show (none : Option Int32) = some r from h)
  | succ n ih => intro v3 v4 h; exact ok_X0_firstLayer_l5 C hex (a0 := a0) (v1 := v1) (v2 := v2) (μ := μ) ha0 ih h
theorem ok_X0_firstLayer {l : Launch} (htr : l.stackTraces = false) {a0 : Nat} {v1 : Int32} {v2 : Int32} {μ : Mm} {r : Int32} (ha0 : isF a0) (h : X0_firstLayer a0 v1 v2 μ = some r) : MetX l yX0_firstLayer cX0_firstLayer 6 (some .int) 0 (fun ad => [.ref (ad a0), .int v1, .int v2]) μ (.inr (some (.int r))) μ := by
  refine MetX.of htr (by decide) rfl (fun ad => Nat.le_of_ble_eq_true rfl) (fun p e s m args below meth c D cI cL ad C hex hw => ?_)
  show AV l p e s m args below meth c D cI cL ad 0 6 (.inr (some (.int r))) μ 0 [(0, .ref (ad a0)), (1, .int v1), (2, .int v2)] [] μ
  unfold X0_firstLayer at h
  refine aw_iload_n (pc := 0) C dX0_firstLayer_0 rfl 1 rfl ?_
  refine aw_istore_n (pc := 1) C (x := v1) (lv' := [(3, .int v1), (0, .ref (ad a0)), (1, .int v1), (2, .int v2)]) dX0_firstLayer_1 rfl (by decide) rfl rfl ?_
  refine aw_iconst (pc := 2) C (v := 0) dX0_firstLayer_2 rfl ?_
  refine aw_istore (pc := 3) C (x := 0) (lv' := [(4, .int 0), (3, .int v1), (0, .ref (ad a0)), (1, .int v1), (2, .int v2)]) dX0_firstLayer_3 (by decide) rfl rfl ?_
  refine aw_sub [2, 4, 1, 0] rfl ?_
  exact ok_X0_firstLayer_l5_w C hex ha0 big v1 0 h
/-! ### NameScopes$Facts.outcome(I)I -/
theorem ok_X0_outcome {l : Launch} (htr : l.stackTraces = false) {a0 : Nat} {v1 : Int32} {μ : Mm} {r : Int32} (ha0 : isF a0) (h : X0_outcome a0 v1 μ = some r) : MetX l yX0_outcome cX0_outcome 2 (some .int) 1 (fun ad => [.ref (ad a0), .int v1]) μ (.inr (some (.int r))) μ := by
  refine MetX.of htr (by decide) rfl (fun ad => Nat.le_of_ble_eq_true rfl) (fun p e s m args below meth c D cI cL ad C hex hw => ?_)
  show AV l p e s m args below meth c D cI cL ad 1 2 (.inr (some (.int r))) μ 0 [(0, .ref (ad a0)), (1, .int v1)] [] μ
  unfold X0_outcome at h
  refine aw_aload_n (pc := 0) C dX0_outcome_0 rfl 0 rfl ?_
  refine aw_aload_n (pc := 1) C dX0_outcome_1 rfl 0 rfl ?_
  refine aw_get (pc := 2) C (a := a0) (k := 14) (v := .ref (ad (a0 + 11))) inX0 (kdF ha0) rfl (by decide) q115 dX0_outcome_2 rfl ?_
  refine aw_iload_n (pc := 5) C dX0_outcome_5 rfl 1 rfl ?_
  obtain ⟨g1, h⟩ := ck_some h
  refine aw_iaload (pc := 6) C (a := (a0 + 11)) ((kdFk (k := 11) ha0 rfl rfl)) g1 dX0_outcome_6 ?_
  refine aw_aload_n (pc := 7) C dX0_outcome_7 rfl 0 rfl ?_
  refine aw_get (pc := 8) C (a := a0) (k := 15) (v := .ref (ad (a0 + 12))) inX0 (kdF ha0) rfl (by decide) q117 dX0_outcome_8 rfl ?_
  refine aw_iload_n (pc := 11) C dX0_outcome_11 rfl 1 rfl ?_
  obtain ⟨g2, h⟩ := ck_some h
  refine aw_iaload (pc := 12) C (a := (a0 + 12)) ((kdFk (k := 12) ha0 rfl rfl)) g2 dX0_outcome_12 ?_
  obtain ⟨q4, hq3, h⟩ := bi_some h
  refine aw_Vi (pc := 13) (a := a0) (Bs := [.int (μ.1 (a0 + 11) (v1 : Int32).toNatClampNeg), .int (μ.1 (a0 + 12) (v1 : Int32).toNatClampNeg)]) C (ok_X0_firstLayer C.tr ha0 hq3) kv_X0_firstLayer q241 (kdF ha0) rfl rfl rfl dX0_outcome_13 ⟨(show 1 ≤ 1 by decide), (show 25 ≤ 31 by decide)⟩ ⟨Nat.zero_le _, Nat.zero_le _⟩ [] (Nat.le_of_ble_eq_true rfl) rfl ?_
  cases h
  exact aw_iret (pc := 16) C dX0_outcome_16
/-! ### NameScopes$Facts.followsRenaming(II)Z -/
theorem ok_X0_followsRenaming_j30 {l : Launch} {p : Program} {e : Env} {s : State} {m : MethodId} {args : Array Value} {below : List Frame} {meth : Method} {c : Code} {D : va_G} {cI cL : ClassId} {ad : Nat → Nat} (C : CX p l s m args meth c RX0 cX0_followsRenaming 3 (some .boolean) D cI cL (AA ad s.heap.size)) (hex : ∀ x ∈ c.exceptionTable.toList, False) {r : Int32} {a0 : Nat} {v1 : Int32} {v2 : Int32} {μ : Mm} (ha0 : isF a0)  (h : X0_followsRenaming_j30 a0 v1 v2 μ = some r) : AV l p e s m args below meth c D cI cL ad 2 3 (.inr (some (.int r))) μ 30 [] [] μ := by
  unfold X0_followsRenaming_j30 at h
  refine aw_iconst (pc := 30) C (v := 0) dX0_followsRenaming_30 rfl ?_
  cases h
  exact aw_zret (pc := 31) C (b01_nar b01_0) dX0_followsRenaming_31
theorem ok_X0_followsRenaming {l : Launch} (htr : l.stackTraces = false) {a0 : Nat} {v1 : Int32} {v2 : Int32} {μ : Mm} {r : Int32} (ha0 : isF a0) (h : X0_followsRenaming a0 v1 v2 μ = some r) : MetX l yX0_followsRenaming cX0_followsRenaming 3 (some .boolean) 2 (fun ad => [.ref (ad a0), .int v1, .int v2]) μ (.inr (some (.int r))) μ := by
  refine MetX.of htr (by decide) rfl (fun ad => Nat.le_of_ble_eq_true rfl) (fun p e s m args below meth c D cI cL ad C hex hw => ?_)
  show AV l p e s m args below meth c D cI cL ad 2 3 (.inr (some (.int r))) μ 0 [(0, .ref (ad a0)), (1, .int v1), (2, .int v2)] [] μ
  unfold X0_followsRenaming at h
  refine aw_aload_n (pc := 0) C dX0_followsRenaming_0 rfl 0 rfl ?_
  refine aw_get (pc := 1) C (a := a0) (k := 15) (v := .ref (ad (a0 + 12))) inX0 (kdF ha0) rfl (by decide) q117 dX0_followsRenaming_1 rfl ?_
  refine aw_iload_n (pc := 4) C dX0_followsRenaming_4 rfl 1 rfl ?_
  obtain ⟨g1, h⟩ := ck_some h
  refine aw_iaload (pc := 5) C (a := (a0 + 12)) ((kdFk (k := 12) ha0 rfl rfl)) g1 dX0_followsRenaming_5 ?_
  refine aw_aload_n (pc := 6) C dX0_followsRenaming_6 rfl 0 rfl ?_
  refine aw_get (pc := 7) C (a := a0) (k := 4) (v := .ref (ad (a0 + 3))) inX0 (kdF ha0) rfl (by decide) q86 dX0_followsRenaming_7 rfl ?_
  refine aw_iload_n (pc := 10) C dX0_followsRenaming_10 rfl 2 rfl ?_
  obtain ⟨g2, h⟩ := ck_some h
  refine aw_iaload (pc := 11) C (a := (a0 + 3)) ((kdFk (k := 3) ha0 rfl rfl)) g2 dX0_followsRenaming_11 ?_
  refine aw_icmp_ne (pc := 12) C 30 dX0_followsRenaming_12 rfl (fun hc => ?_) (fun hc => ?_)
  · replace h := ite_F h hc
    refine aw_sub [] rfl ?_
    exact ok_X0_followsRenaming_j30 C hex ha0 h
  · replace h := ite_T h hc
    refine aw_aload_n (pc := 15) C dX0_followsRenaming_15 rfl 0 rfl ?_
    refine aw_iload_n (pc := 16) C dX0_followsRenaming_16 rfl 1 rfl ?_
    obtain ⟨q4, hq3, h⟩ := bi_some h
    refine aw_Vi (pc := 17) (a := a0) (Bs := [.int v1]) C (ok_X0_outcome C.tr ha0 hq3) kv_X0_outcome q237 (kdF ha0) rfl rfl rfl dX0_followsRenaming_17 ⟨(show 2 ≤ 2 by decide), (show 52 ≤ 62 by decide)⟩ ⟨Nat.zero_le _, Nat.zero_le _⟩ [] (Nat.le_of_ble_eq_true rfl) rfl ?_
    refine aw_iconst (pc := 20) C (v := 1) dX0_followsRenaming_20 rfl ?_
    refine aw_iload_n (pc := 21) C dX0_followsRenaming_21 rfl 2 rfl ?_
    refine aw_ishl (pc := 22) C dX0_followsRenaming_22 ?_
    have kJ : AV l p e s m args below meth c D cI cL ad 2 3 (.inr (some (.int r))) μ 31 [(0, .ref (ad a0)), (1, .int v1), (2, .int v2)] [.int (if q4 = (1 <<< (v2 &&& 31)) then (1 : Int32) else 0)] μ := by
      cases h
      exact aw_zret (pc := 31) C (b01_nar (b01_ite b01_1 b01_0)) dX0_followsRenaming_31
    refine aw_icmp_ne (pc := 23) C 30 dX0_followsRenaming_23 rfl (fun hd1 => ?_) (fun hd1 => ?_)
    · refine aw_iconst (pc := 30) C (v := 0) dX0_followsRenaming_30 rfl ?_
      rw [if_neg hd1] at kJ
      exact kJ
    · refine aw_iconst (pc := 26) C (v := 1) dX0_followsRenaming_26 rfl ?_
      refine aw_goto (pc := 27) C 31 dX0_followsRenaming_27 rfl ?_
      rw [if_pos hd1] at kJ
      exact kJ
/-! ### NameScopes$Facts.giveName(IILNameScopes$Facts;)V -/
theorem ok_X0_giveName_l155 {l : Launch} {p : Program} {e : Env} {s : State} {m : MethodId} {args : Array Value} {below : List Frame} {meth : Method} {c : Code} {D : va_G} {cI cL : ClassId} {ad : Nat → Nat} (C : CX p l s m args meth c RX0 cX0_giveName 7 none D cI cL (AA ad s.heap.size)) (hex : ∀ x ∈ c.exceptionTable.toList, False) {r : Mm} {a0 : Nat} {v1 : Int32} {v2 : Int32} {a3 : Nat} (ha0 : isF a0) (ha3 : isF a3) {k155 : Int32 → Mm → Option Mm} (hk155 : ∀ (v5 : Int32) (μ : Mm), k155 v5 μ = some r → AV l p e s m args below meth c D cI cL ad 3 7 (.inr none) r 155 [(0, .ref (ad a0)), (1, .int v1), (2, .int v2), (3, .ref (ad a3)), (5, .int v5)] [] μ) {v5 : Int32} {μ : Mm}  (h : X0_giveName_l155 a0 v1 v2 a3 k155 v5 μ = some r) : AV l p e s m args below meth c D cI cL ad 3 7 (.inr none) r 155 [(0, .ref (ad a0)), (1, .int v1), (2, .int v2), (3, .ref (ad a3)), (5, .int v5)] [] μ := by
  unfold X0_giveName_l155 at h
  refine aw_iload (pc := 155) C dX0_giveName_155 4 rfl ?_
  refine aw_aload_n (pc := 157) C dX0_giveName_157 rfl 0 rfl ?_
  refine aw_get (pc := 158) C (a := a0) (k := 13) (v := .int (μ.1 a0 13)) inX0 (kdF ha0) rfl (by decide) q113 dX0_giveName_158 rfl ?_
  refine aw_icmp_ge (pc := 161) C 188 dX0_giveName_161 rfl (fun hc => ?_) (fun hc => ?_)
  · replace h := ite_T h hc
    refine aw_aload_n (pc := 188) C dX0_giveName_188 rfl 0 rfl ?_
    refine aw_get (pc := 189) C (a := a0) (k := 4) (v := .ref (ad (a0 + 3))) inX0 (kdF ha0) rfl (by decide) q86 dX0_giveName_189 rfl ?_
    refine aw_iload_n (pc := 192) C dX0_giveName_192 rfl 1 rfl ?_
    refine aw_iload_n (pc := 193) C dX0_giveName_193 rfl 2 rfl ?_
    obtain ⟨g3, h⟩ := ck_some h
    obtain ⟨μ4, eμ4, h⟩ := bd_some h
    refine aw_iastore (pc := 194) C (a := (a0 + 3)) ((kdFk (k := 3) ha0 rfl rfl)) g3 dX0_giveName_194 eμ4 ?_
    cases h
    exact aw_vret (pc := 195) C dX0_giveName_195
  · replace h := ite_F h hc
    refine aw_aload_n (pc := 164) C dX0_giveName_164 rfl 3 rfl ?_
    refine aw_iload (pc := 165) C dX0_giveName_165 4 rfl ?_
    refine aw_iload_n (pc := 167) C dX0_giveName_167 rfl 1 rfl ?_
    obtain ⟨q6, hq5, h⟩ := bi_some h
    refine aw_Vi (pc := 168) (a := a3) (Bs := [.int v5, .int v1]) C (ok_X0_followsRenaming C.tr ha3 hq5) kv_X0_followsRenaming q683 (kdF ha3) rfl rfl rfl dX0_giveName_168 ⟨(show 3 ≤ 3 by decide), (show 84 ≤ 93 by decide)⟩ ⟨Nat.zero_le _, Nat.zero_le _⟩ [] (Nat.le_of_ble_eq_true rfl) rfl ?_
    refine aw_if_eq (pc := 171) C 182 dX0_giveName_171 rfl (fun hc => ?_) (fun hc => ?_)
    · replace h := ite_T h hc
      refine aw_iinc (pc := 182) C (v := (v5 + 1)) (lv' := [(5, .int (v5 + 1)), (0, .ref (ad a0)), (1, .int v1), (2, .int v2), (3, .ref (ad a3))]) dX0_giveName_182 4 rfl (by decide) rfl rfl ?_
      refine aw_goto (pc := 185) C 155 dX0_giveName_185 rfl ?_
      refine aw_sub [1, 2, 3, 4, 0] rfl ?_
      exact hk155 (v5 + 1) μ h
    · replace h := ite_F h hc
      refine aw_aload_n (pc := 174) C dX0_giveName_174 rfl 0 rfl ?_
      refine aw_get (pc := 175) C (a := a0) (k := 15) (v := .ref (ad (a0 + 12))) inX0 (kdF ha0) rfl (by decide) q117 dX0_giveName_175 rfl ?_
      refine aw_iload (pc := 178) C dX0_giveName_178 4 rfl ?_
      refine aw_iload_n (pc := 180) C dX0_giveName_180 rfl 2 rfl ?_
      obtain ⟨g7, h⟩ := ck_some h
      obtain ⟨μ8, eμ8, h⟩ := bd_some h
      refine aw_iastore (pc := 181) C (a := (a0 + 12)) ((kdFk (k := 12) ha0 rfl rfl)) g7 dX0_giveName_181 eμ8 ?_
      refine aw_iinc (pc := 182) C (v := (v5 + 1)) (lv' := [(5, .int (v5 + 1)), (0, .ref (ad a0)), (1, .int v1), (2, .int v2), (3, .ref (ad a3))]) dX0_giveName_182 4 rfl (by decide) rfl rfl ?_
      refine aw_goto (pc := 185) C 155 dX0_giveName_185 rfl ?_
      refine aw_sub [1, 2, 3, 4, 0] rfl ?_
      exact hk155 (v5 + 1) μ8 h
theorem ok_X0_giveName_l155_w {l : Launch} {p : Program} {e : Env} {s : State} {m : MethodId} {args : Array Value} {below : List Frame} {meth : Method} {c : Code} {D : va_G} {cI cL : ClassId} {ad : Nat → Nat} (C : CX p l s m args meth c RX0 cX0_giveName 7 none D cI cL (AA ad s.heap.size)) (hex : ∀ x ∈ c.exceptionTable.toList, False) {r : Mm} {a0 : Nat} {v1 : Int32} {v2 : Int32} {a3 : Nat} (ha0 : isF a0) (ha3 : isF a3) : ∀ (n : Nat) (v5 : Int32) (μ : Mm) , itr (X0_giveName_l155 a0 v1 v2 a3) (fun _ _ => none) n v5 μ = some r → AV l p e s m args below meth c D cI cL ad 3 7 (.inr none) r 155 [(0, .ref (ad a0)), (1, .int v1), (2, .int v2), (3, .ref (ad a3)), (5, .int v5)] [] μ := by
  intro n
  induction n with
  | zero => intro v5 μ h; exact nomatch (show (none : Option Mm) = some r from h)
  | succ n ih => intro v5 μ h; exact ok_X0_giveName_l155 C hex (a0 := a0) (v1 := v1) (v2 := v2) (a3 := a3) ha0 ha3 ih h
theorem ok_X0_giveName_j113 {l : Launch} {p : Program} {e : Env} {s : State} {m : MethodId} {args : Array Value} {below : List Frame} {meth : Method} {c : Code} {D : va_G} {cI cL : ClassId} {ad : Nat → Nat} (C : CX p l s m args meth c RX0 cX0_giveName 7 none D cI cL (AA ad s.heap.size)) (hex : ∀ x ∈ c.exceptionTable.toList, False) {r : Mm} {a0 : Nat} {v1 : Int32} {v2 : Int32} {a3 : Nat} (ha0 : isF a0) (ha3 : isF a3) {k11 : Int32 → Int32 → Mm → Option Mm} (hk11 : ∀ (v4 : Int32) (v5 : Int32) (μ : Mm), k11 v4 v5 μ = some r → AV l p e s m args below meth c D cI cL ad 3 7 (.inr none) r 11 [(0, .ref (ad a0)), (1, .int v1), (2, .int v2), (3, .ref (ad a3)), (4, .int v4), (5, .int v5)] [] μ) {v4 : Int32} {v5 : Int32} {v6 : Int32} {μ : Mm}  (h : X0_giveName_j113 a0 v1 v2 a3 k11 v4 v5 v6 μ = some r) : AV l p e s m args below meth c D cI cL ad 3 7 (.inr none) r 113 [(0, .ref (ad a0)), (1, .int v1), (2, .int v2), (3, .ref (ad a3)), (4, .int v4), (5, .int v5), (6, .int v6)] [] μ := by
  unfold X0_giveName_j113 at h
  refine aw_iload (pc := 113) C dX0_giveName_113 6 rfl ?_
  refine aw_if_eq (pc := 115) C 146 dX0_giveName_115 rfl (fun hc => ?_) (fun hc => ?_)
  · replace h := ite_T h hc
    refine aw_iinc (pc := 146) C (v := (v5 + 1)) (lv' := [(5, .int (v5 + 1)), (0, .ref (ad a0)), (1, .int v1), (2, .int v2), (3, .ref (ad a3)), (4, .int v4), (6, .int v6)]) dX0_giveName_146 5 rfl (by decide) rfl rfl ?_
    refine aw_goto (pc := 149) C 11 dX0_giveName_149 rfl ?_
    refine aw_sub [1, 2, 3, 4, 5, 0] rfl ?_
    exact hk11 v4 (v5 + 1) μ h
  · replace h := ite_F h hc
    refine aw_aload_n (pc := 118) C dX0_giveName_118 rfl 0 rfl ?_
    refine aw_get (pc := 119) C (a := a0) (k := 11) (v := .ref (ad (a0 + 9))) inX0 (kdF ha0) rfl (by decide) q107 dX0_giveName_119 rfl ?_
    refine aw_iload (pc := 122) C dX0_giveName_122 5 rfl ?_
    obtain ⟨g12, h⟩ := ck_some h
    refine aw_iaload (pc := 124) C (a := (a0 + 9)) ((kdFk (k := 9) ha0 rfl rfl)) g12 dX0_giveName_124 ?_
    refine aw_iload (pc := 125) C dX0_giveName_125 4 rfl ?_
    refine aw_ishr (pc := 127) C dX0_giveName_127 ?_
    refine aw_iconst (pc := 128) C (v := 1) dX0_giveName_128 rfl ?_
    refine aw_iand (pc := 129) C dX0_giveName_129 ?_
    refine aw_if_eq (pc := 130) C 146 dX0_giveName_130 rfl (fun hc => ?_) (fun hc => ?_)
    · replace h := ite_T h hc
      refine aw_iinc (pc := 146) C (v := (v5 + 1)) (lv' := [(5, .int (v5 + 1)), (0, .ref (ad a0)), (1, .int v1), (2, .int v2), (3, .ref (ad a3)), (4, .int v4), (6, .int v6)]) dX0_giveName_146 5 rfl (by decide) rfl rfl ?_
      refine aw_goto (pc := 149) C 11 dX0_giveName_149 rfl ?_
      refine aw_sub [1, 2, 3, 4, 5, 0] rfl ?_
      exact hk11 v4 (v5 + 1) μ h
    · replace h := ite_F h hc
      refine aw_aload_n (pc := 133) C dX0_giveName_133 rfl 0 rfl ?_
      refine aw_get (pc := 134) C (a := a0) (k := 11) (v := .ref (ad (a0 + 9))) inX0 (kdF ha0) rfl (by decide) q107 dX0_giveName_134 rfl ?_
      refine aw_iload (pc := 137) C dX0_giveName_137 5 rfl ?_
      refine aw_dup2 (pc := 139) C dX0_giveName_139 rfl rfl ?_
      obtain ⟨g13, h⟩ := ck_some h
      refine aw_iaload (pc := 140) C (a := (a0 + 9)) ((kdFk (k := 9) ha0 rfl rfl)) g13 dX0_giveName_140 ?_
      refine aw_iconst (pc := 141) C (v := 1) dX0_giveName_141 rfl ?_
      refine aw_iload_n (pc := 142) C dX0_giveName_142 rfl 2 rfl ?_
      refine aw_ishl (pc := 143) C dX0_giveName_143 ?_
      refine aw_ior (pc := 144) C dX0_giveName_144 ?_
      obtain ⟨g14, h⟩ := ck_some h
      obtain ⟨μ15, eμ15, h⟩ := bd_some h
      refine aw_iastore (pc := 145) C (a := (a0 + 9)) ((kdFk (k := 9) ha0 rfl rfl)) g14 dX0_giveName_145 eμ15 ?_
      refine aw_iinc (pc := 146) C (v := (v5 + 1)) (lv' := [(5, .int (v5 + 1)), (0, .ref (ad a0)), (1, .int v1), (2, .int v2), (3, .ref (ad a3)), (4, .int v4), (6, .int v6)]) dX0_giveName_146 5 rfl (by decide) rfl rfl ?_
      refine aw_goto (pc := 149) C 11 dX0_giveName_149 rfl ?_
      refine aw_sub [1, 2, 3, 4, 5, 0] rfl ?_
      exact hk11 v4 (v5 + 1) μ15 h
theorem ok_X0_giveName_j109 {l : Launch} {p : Program} {e : Env} {s : State} {m : MethodId} {args : Array Value} {below : List Frame} {meth : Method} {c : Code} {D : va_G} {cI cL : ClassId} {ad : Nat → Nat} (C : CX p l s m args meth c RX0 cX0_giveName 7 none D cI cL (AA ad s.heap.size)) (hex : ∀ x ∈ c.exceptionTable.toList, False) {r : Mm} {a0 : Nat} {v1 : Int32} {v2 : Int32} {a3 : Nat} (ha0 : isF a0) (ha3 : isF a3) {k11 : Int32 → Int32 → Mm → Option Mm} (hk11 : ∀ (v4 : Int32) (v5 : Int32) (μ : Mm), k11 v4 v5 μ = some r → AV l p e s m args below meth c D cI cL ad 3 7 (.inr none) r 11 [(0, .ref (ad a0)), (1, .int v1), (2, .int v2), (3, .ref (ad a3)), (4, .int v4), (5, .int v5)] [] μ) {v4 : Int32} {v5 : Int32} {s0 : Int32} {s1 : Int32} {s2 : Nat} {μ : Mm} (hs2 : kd s2 = (0, alen s2)) (h : X0_giveName_j109 a0 v1 v2 a3 k11 v4 v5 s0 s1 s2 μ = some r) : AV l p e s m args below meth c D cI cL ad 3 7 (.inr none) r 109 [(0, .ref (ad a0)), (1, .int v1), (2, .int v2), (3, .ref (ad a3)), (4, .int v4), (5, .int v5)] [.int s0, .int s1, .ref (ad s2)] μ := by
  unfold X0_giveName_j109 at h
  obtain ⟨g21, h⟩ := ck_some h
  obtain ⟨μ22, eμ22, h⟩ := bd_some h
  refine aw_iastore (pc := 109) C (a := s2) hs2 g21 dX0_giveName_109 eμ22 ?_
  refine aw_goto (pc := 110) C 146 dX0_giveName_110 rfl ?_
  refine aw_iinc (pc := 146) C (v := (v5 + 1)) (lv' := [(5, .int (v5 + 1)), (0, .ref (ad a0)), (1, .int v1), (2, .int v2), (3, .ref (ad a3)), (4, .int v4)]) dX0_giveName_146 5 rfl (by decide) rfl rfl ?_
  refine aw_goto (pc := 149) C 11 dX0_giveName_149 rfl ?_
  refine aw_sub [1, 2, 3, 4, 5, 0] rfl ?_
  exact hk11 v4 (v5 + 1) μ22 h
theorem ok_X0_giveName_l11 {l : Launch} {p : Program} {e : Env} {s : State} {m : MethodId} {args : Array Value} {below : List Frame} {meth : Method} {c : Code} {D : va_G} {cI cL : ClassId} {ad : Nat → Nat} (C : CX p l s m args meth c RX0 cX0_giveName 7 none D cI cL (AA ad s.heap.size)) (hex : ∀ x ∈ c.exceptionTable.toList, False) {r : Mm} {a0 : Nat} {v1 : Int32} {v2 : Int32} {a3 : Nat} (ha0 : isF a0) (ha3 : isF a3) {k11 : Int32 → Int32 → Mm → Option Mm} (hk11 : ∀ (v4 : Int32) (v5 : Int32) (μ : Mm), k11 v4 v5 μ = some r → AV l p e s m args below meth c D cI cL ad 3 7 (.inr none) r 11 [(0, .ref (ad a0)), (1, .int v1), (2, .int v2), (3, .ref (ad a3)), (4, .int v4), (5, .int v5)] [] μ) {v4 : Int32} {v5 : Int32} {μ : Mm}  (h : X0_giveName_l11 a0 v1 v2 a3 k11 v4 v5 μ = some r) : AV l p e s m args below meth c D cI cL ad 3 7 (.inr none) r 11 [(0, .ref (ad a0)), (1, .int v1), (2, .int v2), (3, .ref (ad a3)), (4, .int v4), (5, .int v5)] [] μ := by
  unfold X0_giveName_l11 at h
  refine aw_iload (pc := 11) C dX0_giveName_11 5 rfl ?_
  refine aw_aload_n (pc := 13) C dX0_giveName_13 rfl 0 rfl ?_
  refine aw_get (pc := 14) C (a := a0) (k := 6) (v := .int (μ.1 a0 6)) inX0 (kdF ha0) rfl (by decide) q92 dX0_giveName_14 rfl ?_
  refine aw_icmp_ge (pc := 17) C 152 dX0_giveName_17 rfl (fun hc => ?_) (fun hc => ?_)
  · replace h := ite_T h hc
    refine aw_iconst (pc := 152) C (v := 0) dX0_giveName_152 rfl ?_
    refine aw_istore (pc := 153) C (x := 0) (lv' := [(5, .int 0), (0, .ref (ad a0)), (1, .int v1), (2, .int v2), (3, .ref (ad a3)), (4, .int v4)]) dX0_giveName_153 (by decide) rfl rfl ?_
    refine aw_sub [1, 2, 3, 4, 0] rfl ?_
    exact ok_X0_giveName_l155_w C hex ha0 ha3 big 0 μ h
  · replace h := ite_F h hc
    refine aw_aload_n (pc := 20) C dX0_giveName_20 rfl 3 rfl ?_
    refine aw_get (pc := 21) C (a := a3) (k := 17) (v := .ref (ad (a3 + 14))) inX0 (kdF ha3) rfl (by decide) q121 dX0_giveName_21 rfl ?_
    refine aw_getN (pc := 24) C (a := (a3 + 14)) (k := 0) (v := .ref (ad ((a3 + 14) + 1))) inX1 (kdL_ (isFL ha3)) rfl (by decide) q53 dX0_giveName_24 rfl ?_
    refine aw_aload_n (pc := 27) C dX0_giveName_27 rfl 0 rfl ?_
    refine aw_get (pc := 28) C (a := a0) (k := 8) (v := .ref (ad (a0 + 6))) inX0 (kdF ha0) rfl (by decide) q98 dX0_giveName_28 rfl ?_
    refine aw_iload (pc := 31) C dX0_giveName_31 5 rfl ?_
    obtain ⟨g9, h⟩ := ck_some h
    refine aw_iaload (pc := 33) C (a := (a0 + 6)) ((kdFk (k := 6) ha0 rfl rfl)) g9 dX0_giveName_33 ?_
    refine aw_bipush (pc := 34) C (v := 26) dX0_giveName_34 rfl ?_
    refine aw_imul (pc := 36) C dX0_giveName_36 ?_
    refine aw_iload (pc := 37) C dX0_giveName_37 4 rfl ?_
    refine aw_iadd (pc := 39) C dX0_giveName_39 ?_
    obtain ⟨g10, h⟩ := ck_some h
    refine aw_iaload (pc := 40) C (a := ((a3 + 14) + 1)) ((kdLk (k := 1) (isFL ha3) rfl rfl)) g10 dX0_giveName_40 ?_
    refine aw_iload_n (pc := 41) C dX0_giveName_41 rfl 1 rfl ?_
    refine aw_ishr (pc := 42) C dX0_giveName_42 ?_
    refine aw_iconst (pc := 43) C (v := 1) dX0_giveName_43 rfl ?_
    refine aw_iand (pc := 44) C dX0_giveName_44 ?_
    have kJ : AV l p e s m args below meth c D cI cL ad 3 7 (.inr none) r 53 [(0, .ref (ad a0)), (1, .int v1), (2, .int v2), (3, .ref (ad a3)), (4, .int v4), (5, .int v5)] [.int (if (((μ.1 ((a3 + 14) + 1) ((((μ.1 (a0 + 6) (v5 : Int32).toNatClampNeg) * 26) + v4) : Int32).toNatClampNeg) >>> (v1 &&& 31)) &&& 1) = 0 then (0 : Int32) else 1)] μ := by
      obtain ⟨x11, ex11, h⟩ := bd_some h
      refine aw_istore (pc := 53) C (x := x11) (lv' := [(6, .int x11), (0, .ref (ad a0)), (1, .int v1), (2, .int v2), (3, .ref (ad a3)), (4, .int v4), (5, .int v5)]) dX0_giveName_53 (by decide) ex11 rfl ?_
      refine aw_iload (pc := 55) C dX0_giveName_55 0 rfl ?_
      refine aw_if_eq (pc := 57) C 113 dX0_giveName_57 rfl (fun hc => ?_) (fun hc => ?_)
      · replace h := ite_T h hc
        refine aw_sub [1, 2, 3, 4, 5, 6, 0] rfl ?_
        exact ok_X0_giveName_j113 C hex ha0 ha3 hk11 h
      · replace h := ite_F h hc
        refine aw_aload_n (pc := 60) C dX0_giveName_60 rfl 1 rfl ?_
        refine aw_get (pc := 61) C (a := a0) (k := 9) (v := .ref (ad (a0 + 7))) inX0 (kdF ha0) rfl (by decide) q101 dX0_giveName_61 rfl ?_
        refine aw_iload (pc := 64) C dX0_giveName_64 6 rfl ?_
        obtain ⟨g16, h⟩ := ck_some h
        refine aw_iaload (pc := 66) C (a := (a0 + 7)) ((kdFk (k := 7) ha0 rfl rfl)) g16 dX0_giveName_66 ?_
        refine aw_iload (pc := 67) C dX0_giveName_67 5 rfl ?_
        refine aw_icmp_ne (pc := 69) C 113 dX0_giveName_69 rfl (fun hc => ?_) (fun hc => ?_)
        · replace h := ite_F h hc
          refine aw_sub [1, 2, 3, 4, 5, 6, 0] rfl ?_
          exact ok_X0_giveName_j113 C hex ha0 ha3 hk11 h
        · replace h := ite_T h hc
          refine aw_aload_n (pc := 72) C dX0_giveName_72 rfl 1 rfl ?_
          refine aw_get (pc := 73) C (a := a0) (k := 9) (v := .ref (ad (a0 + 7))) inX0 (kdF ha0) rfl (by decide) q101 dX0_giveName_73 rfl ?_
          refine aw_iload (pc := 76) C dX0_giveName_76 6 rfl ?_
          refine aw_iload_n (pc := 78) C dX0_giveName_78 rfl 3 rfl ?_
          obtain ⟨g17, h⟩ := ck_some h
          obtain ⟨μ18, eμ18, h⟩ := bd_some h
          refine aw_iastore (pc := 79) C (a := (a0 + 7)) ((kdFk (k := 7) ha0 rfl rfl)) g17 dX0_giveName_79 eμ18 ?_
          refine aw_aload_n (pc := 80) C dX0_giveName_80 rfl 1 rfl ?_
          refine aw_get (pc := 81) C (a := a0) (k := 10) (v := .ref (ad (a0 + 8))) inX0 (kdF ha0) rfl (by decide) q104 dX0_giveName_81 rfl ?_
          refine aw_iload (pc := 84) C dX0_giveName_84 6 rfl ?_
          refine aw_aload_n (pc := 86) C dX0_giveName_86 rfl 1 rfl ?_
          refine aw_get (pc := 87) C (a := a0) (k := 10) (v := .ref (ad (a0 + 8))) inX0 (kdF ha0) rfl (by decide) q104 dX0_giveName_87 rfl ?_
          refine aw_iload (pc := 90) C dX0_giveName_90 6 rfl ?_
          obtain ⟨g19, h⟩ := ck_some h
          refine aw_iaload (pc := 92) C (a := (a0 + 8)) ((kdFk (k := 8) ha0 rfl rfl)) g19 dX0_giveName_92 ?_
          refine aw_iload (pc := 93) C dX0_giveName_93 5 rfl ?_
          refine aw_icmp_ne (pc := 95) C 102 dX0_giveName_95 rfl (fun hc => ?_) (fun hc => ?_)
          · replace h := ite_F h hc
            refine aw_aload_n (pc := 102) C dX0_giveName_102 rfl 1 rfl ?_
            refine aw_get (pc := 103) C (a := a0) (k := 10) (v := .ref (ad (a0 + 8))) inX0 (kdF ha0) rfl (by decide) q104 dX0_giveName_103 rfl ?_
            refine aw_iload (pc := 106) C dX0_giveName_106 6 rfl ?_
            obtain ⟨g20, h⟩ := ck_some h
            refine aw_iaload (pc := 108) C (a := (a0 + 8)) ((kdFk (k := 8) ha0 rfl rfl)) g20 dX0_giveName_108 ?_
            refine aw_sub [1, 2, 3, 4, 5, 6] rfl ?_
            exact ok_X0_giveName_j109 C hex ha0 ha3 hk11 (isArr_of ((kdFk (k := 8) ha0 rfl rfl))) h
          · replace h := ite_T h hc
            refine aw_iload_n (pc := 98) C dX0_giveName_98 rfl 3 rfl ?_
            refine aw_goto (pc := 99) C 109 dX0_giveName_99 rfl ?_
            refine aw_sub [1, 2, 3, 4, 5, 6] rfl ?_
            exact ok_X0_giveName_j109 C hex ha0 ha3 hk11 (isArr_of ((kdFk (k := 8) ha0 rfl rfl))) h
    refine aw_if_eq (pc := 45) C 52 dX0_giveName_45 rfl (fun hd1 => ?_) (fun hd1 => ?_)
    · refine aw_iconst (pc := 52) C (v := 0) dX0_giveName_52 rfl ?_
      rw [if_pos hd1] at kJ
      exact kJ
    · refine aw_iconst (pc := 48) C (v := 1) dX0_giveName_48 rfl ?_
      refine aw_goto (pc := 49) C 53 dX0_giveName_49 rfl ?_
      rw [if_neg hd1] at kJ
      exact kJ
theorem ok_X0_giveName_l11_w {l : Launch} {p : Program} {e : Env} {s : State} {m : MethodId} {args : Array Value} {below : List Frame} {meth : Method} {c : Code} {D : va_G} {cI cL : ClassId} {ad : Nat → Nat} (C : CX p l s m args meth c RX0 cX0_giveName 7 none D cI cL (AA ad s.heap.size)) (hex : ∀ x ∈ c.exceptionTable.toList, False) {r : Mm} {a0 : Nat} {v1 : Int32} {v2 : Int32} {a3 : Nat} (ha0 : isF a0) (ha3 : isF a3) : ∀ (n : Nat) (v4 : Int32) (v5 : Int32) (μ : Mm) , itr (X0_giveName_l11 a0 v1 v2 a3) (fun _ _ _ => none) n v4 v5 μ = some r → AV l p e s m args below meth c D cI cL ad 3 7 (.inr none) r 11 [(0, .ref (ad a0)), (1, .int v1), (2, .int v2), (3, .ref (ad a3)), (4, .int v4), (5, .int v5)] [] μ := by
  intro n
  induction n with
  | zero => intro v4 v5 μ h; exact nomatch (show (none : Option Mm) = some r from h)
  | succ n ih => intro v4 v5 μ h; exact ok_X0_giveName_l11 C hex (a0 := a0) (v1 := v1) (v2 := v2) (a3 := a3) ha0 ha3 ih h
theorem ok_X0_giveName {l : Launch} (htr : l.stackTraces = false) {a0 : Nat} {v1 : Int32} {v2 : Int32} {a3 : Nat} {μ : Mm} {r : Mm} (ha0 : isF a0) (ha3 : isF a3) (h : X0_giveName a0 v1 v2 a3 μ = some r) : MetX l yX0_giveName cX0_giveName 7 none 3 (fun ad => [.ref (ad a0), .int v1, .int v2, .ref (ad a3)]) μ (.inr none) r := by
  refine MetX.of htr (by decide) rfl (fun ad => Nat.le_of_ble_eq_true rfl) (fun p e s m args below meth c D cI cL ad C hex hw => ?_)
  show AV l p e s m args below meth c D cI cL ad 3 7 (.inr none) r 0 [(0, .ref (ad a0)), (1, .int v1), (2, .int v2), (3, .ref (ad a3))] [] μ
  unfold X0_giveName at h
  refine aw_aload_n (pc := 0) C dX0_giveName_0 rfl 0 rfl ?_
  refine aw_get (pc := 1) C (a := a0) (k := 4) (v := .ref (ad (a0 + 3))) inX0 (kdF ha0) rfl (by decide) q86 dX0_giveName_1 rfl ?_
  refine aw_iload_n (pc := 4) C dX0_giveName_4 rfl 1 rfl ?_
  obtain ⟨g1, h⟩ := ck_some h
  refine aw_iaload (pc := 5) C (a := (a0 + 3)) ((kdFk (k := 3) ha0 rfl rfl)) g1 dX0_giveName_5 ?_
  obtain ⟨x2, ex2, h⟩ := bd_some h
  refine aw_istore (pc := 6) C (x := x2) (lv' := [(4, .int x2), (0, .ref (ad a0)), (1, .int v1), (2, .int v2), (3, .ref (ad a3))]) dX0_giveName_6 (by decide) ex2 rfl ?_
  refine aw_iconst (pc := 8) C (v := 0) dX0_giveName_8 rfl ?_
  refine aw_istore (pc := 9) C (x := 0) (lv' := [(5, .int 0), (4, .int x2), (0, .ref (ad a0)), (1, .int v1), (2, .int v2), (3, .ref (ad a3))]) dX0_giveName_9 (by decide) rfl rfl ?_
  refine aw_sub [2, 3, 4, 5, 1, 0] rfl ?_
  exact ok_X0_giveName_l11_w C hex ha0 ha3 big x2 0 μ h
/-! ### NameScopes$Facts.greatestDepth()I -/
theorem ok_X0_greatestDepth_j47 {l : Launch} {p : Program} {e : Env} {s : State} {m : MethodId} {args : Array Value} {below : List Frame} {meth : Method} {c : Code} {D : va_G} {cI cL : ClassId} {ad : Nat → Nat} (C : CX p l s m args meth c RX0 cX0_greatestDepth 5 (some .int) D cI cL (AA ad s.heap.size)) (hex : ∀ x ∈ c.exceptionTable.toList, False) {r : Int32} {a0 : Nat} {μ : Mm} (ha0 : isF a0) {k4 : Int32 → Int32 → Option Int32} (hk4 : ∀ (v1 : Int32) (v2 : Int32), k4 v1 v2 = some r → AV l p e s m args below meth c D cI cL ad 1 5 (.inr (some (.int r))) μ 4 [(0, .ref (ad a0)), (1, .int v1), (2, .int v2)] [] μ) {v1 : Int32} {v2 : Int32} {v4 : Int32}  (h : X0_greatestDepth_j47 a0 μ k4 v1 v2 v4 = some r) : AV l p e s m args below meth c D cI cL ad 1 5 (.inr (some (.int r))) μ 47 [(0, .ref (ad a0)), (1, .int v1), (2, .int v2), (4, .int v4)] [] μ := by
  unfold X0_greatestDepth_j47 at h
  refine aw_iload_n (pc := 47) C dX0_greatestDepth_47 rfl 1 rfl ?_
  refine aw_iload (pc := 48) C dX0_greatestDepth_48 3 rfl ?_
  refine aw_max (pc := 50) C q380 q381 q15 q382 dX0_greatestDepth_50 (Nat.le_of_ble_eq_true rfl) (Nat.le_of_ble_eq_true rfl) ⟨Nat.zero_le _, Nat.zero_le _⟩ ?_
  obtain ⟨x3, ex3, h⟩ := bd_some h
  refine aw_istore_n (pc := 53) C (x := x3) (lv' := [(1, .int x3), (0, .ref (ad a0)), (2, .int v2), (4, .int v4)]) dX0_greatestDepth_53 rfl (by decide) ex3 rfl ?_
  refine aw_iinc (pc := 54) C (v := (v2 + 1)) (lv' := [(2, .int (v2 + 1)), (1, .int x3), (0, .ref (ad a0)), (4, .int v4)]) dX0_greatestDepth_54 2 rfl (by decide) rfl rfl ?_
  refine aw_goto (pc := 57) C 4 dX0_greatestDepth_57 rfl ?_
  refine aw_sub [2, 1, 0] rfl ?_
  exact hk4 x3 (v2 + 1) h
theorem ok_X0_greatestDepth_l22 {l : Launch} {p : Program} {e : Env} {s : State} {m : MethodId} {args : Array Value} {below : List Frame} {meth : Method} {c : Code} {D : va_G} {cI cL : ClassId} {ad : Nat → Nat} (C : CX p l s m args meth c RX0 cX0_greatestDepth 5 (some .int) D cI cL (AA ad s.heap.size)) (hex : ∀ x ∈ c.exceptionTable.toList, False) {r : Int32} {a0 : Nat} {μ : Mm} (ha0 : isF a0) {k4 : Int32 → Int32 → Option Int32} {k22 : Int32 → Int32 → Int32 → Int32 → Option Int32} (hk4 : ∀ (v1 : Int32) (v2 : Int32), k4 v1 v2 = some r → AV l p e s m args below meth c D cI cL ad 1 5 (.inr (some (.int r))) μ 4 [(0, .ref (ad a0)), (1, .int v1), (2, .int v2)] [] μ) (hk22 : ∀ (v1 : Int32) (v2 : Int32) (v3 : Int32) (v4 : Int32), k22 v1 v2 v3 v4 = some r → AV l p e s m args below meth c D cI cL ad 1 5 (.inr (some (.int r))) μ 22 [(0, .ref (ad a0)), (1, .int v1), (2, .int v2), (3, .int v3), (4, .int v4)] [] μ) {v1 : Int32} {v2 : Int32} {v3 : Int32} {v4 : Int32}  (h : X0_greatestDepth_l22 a0 μ k4 k22 v1 v2 v3 v4 = some r) : AV l p e s m args below meth c D cI cL ad 1 5 (.inr (some (.int r))) μ 22 [(0, .ref (ad a0)), (1, .int v1), (2, .int v2), (3, .int v3), (4, .int v4)] [] μ := by
  unfold X0_greatestDepth_l22 at h
  refine aw_iload (pc := 22) C dX0_greatestDepth_22 4 rfl ?_
  refine aw_bipush (pc := 24) C (v := 16) dX0_greatestDepth_24 rfl ?_
  refine aw_icmp_ge (pc := 26) C 47 dX0_greatestDepth_26 rfl (fun hc => ?_) (fun hc => ?_)
  · replace h := ite_T h hc
    refine aw_sub [0, 1, 2, 4] rfl ?_
    exact ok_X0_greatestDepth_j47 C hex ha0 hk4 h
  · replace h := ite_F h hc
    refine aw_iload_n (pc := 29) C dX0_greatestDepth_29 rfl 3 rfl ?_
    refine aw_iconst (pc := 30) C (v := (-1)) dX0_greatestDepth_30 rfl ?_
    refine aw_icmp_eq (pc := 31) C 47 dX0_greatestDepth_31 rfl (fun hc => ?_) (fun hc => ?_)
    · replace h := ite_T h hc
      refine aw_sub [0, 1, 2, 4] rfl ?_
      exact ok_X0_greatestDepth_j47 C hex ha0 hk4 h
    · replace h := ite_F h hc
      refine aw_aload_n (pc := 34) C dX0_greatestDepth_34 rfl 0 rfl ?_
      refine aw_get (pc := 35) C (a := a0) (k := 1) (v := .ref (ad (a0 + 1))) inX0 (kdF ha0) rfl (by decide) q78 dX0_greatestDepth_35 rfl ?_
      refine aw_iload_n (pc := 38) C dX0_greatestDepth_38 rfl 3 rfl ?_
      obtain ⟨g4, h⟩ := ck_some h
      refine aw_iaload (pc := 39) C (a := (a0 + 1)) ((kdFk (k := 1) ha0 rfl rfl)) g4 dX0_greatestDepth_39 ?_
      obtain ⟨x5, ex5, h⟩ := bd_some h
      refine aw_istore_n (pc := 40) C (x := x5) (lv' := [(3, .int x5), (0, .ref (ad a0)), (1, .int v1), (2, .int v2), (4, .int v4)]) dX0_greatestDepth_40 rfl (by decide) ex5 rfl ?_
      refine aw_iinc (pc := 41) C (v := (v4 + 1)) (lv' := [(4, .int (v4 + 1)), (3, .int x5), (0, .ref (ad a0)), (1, .int v1), (2, .int v2)]) dX0_greatestDepth_41 4 rfl (by decide) rfl rfl ?_
      refine aw_goto (pc := 44) C 22 dX0_greatestDepth_44 rfl ?_
      refine aw_sub [2, 3, 4, 1, 0] rfl ?_
      exact hk22 v1 v2 x5 (v4 + 1) h
theorem ok_X0_greatestDepth_l22_w {l : Launch} {p : Program} {e : Env} {s : State} {m : MethodId} {args : Array Value} {below : List Frame} {meth : Method} {c : Code} {D : va_G} {cI cL : ClassId} {ad : Nat → Nat} (C : CX p l s m args meth c RX0 cX0_greatestDepth 5 (some .int) D cI cL (AA ad s.heap.size)) (hex : ∀ x ∈ c.exceptionTable.toList, False) {r : Int32} {a0 : Nat} {μ : Mm} (ha0 : isF a0) {k4 : Int32 → Int32 → Option Int32} (hk4 : ∀ (v1 : Int32) (v2 : Int32), k4 v1 v2 = some r → AV l p e s m args below meth c D cI cL ad 1 5 (.inr (some (.int r))) μ 4 [(0, .ref (ad a0)), (1, .int v1), (2, .int v2)] [] μ) : ∀ (n : Nat) (v1 : Int32) (v2 : Int32) (v3 : Int32) (v4 : Int32) , itr (X0_greatestDepth_l22 a0 μ k4) (fun _ _ _ _ => none) n v1 v2 v3 v4 = some r → AV l p e s m args below meth c D cI cL ad 1 5 (.inr (some (.int r))) μ 22 [(0, .ref (ad a0)), (1, .int v1), (2, .int v2), (3, .int v3), (4, .int v4)] [] μ := by
  intro n
  induction n with
  | zero => intro v1 v2 v3 v4 h; exact nomatch (show (none : Option Int32) = some r from h)
  | succ n ih => intro v1 v2 v3 v4 h; exact ok_X0_greatestDepth_l22 C hex (a0 := a0) (μ := μ) ha0 hk4 ih h
theorem ok_X0_greatestDepth_l4 {l : Launch} {p : Program} {e : Env} {s : State} {m : MethodId} {args : Array Value} {below : List Frame} {meth : Method} {c : Code} {D : va_G} {cI cL : ClassId} {ad : Nat → Nat} (C : CX p l s m args meth c RX0 cX0_greatestDepth 5 (some .int) D cI cL (AA ad s.heap.size)) (hex : ∀ x ∈ c.exceptionTable.toList, False) {r : Int32} {a0 : Nat} {μ : Mm} (ha0 : isF a0) {k4 : Int32 → Int32 → Option Int32} (hk4 : ∀ (v1 : Int32) (v2 : Int32), k4 v1 v2 = some r → AV l p e s m args below meth c D cI cL ad 1 5 (.inr (some (.int r))) μ 4 [(0, .ref (ad a0)), (1, .int v1), (2, .int v2)] [] μ) {v1 : Int32} {v2 : Int32}  (h : X0_greatestDepth_l4 a0 μ k4 v1 v2 = some r) : AV l p e s m args below meth c D cI cL ad 1 5 (.inr (some (.int r))) μ 4 [(0, .ref (ad a0)), (1, .int v1), (2, .int v2)] [] μ := by
  unfold X0_greatestDepth_l4 at h
  refine aw_iload_n (pc := 4) C dX0_greatestDepth_4 rfl 2 rfl ?_
  refine aw_aload_n (pc := 5) C dX0_greatestDepth_5 rfl 0 rfl ?_
  refine aw_get (pc := 6) C (a := a0) (k := 0) (v := .int (μ.1 a0 0)) inX0 (kdF ha0) rfl (by decide) q76 dX0_greatestDepth_6 rfl ?_
  refine aw_icmp_ge (pc := 9) C 60 dX0_greatestDepth_9 rfl (fun hc => ?_) (fun hc => ?_)
  · replace h := ite_T h hc
    refine aw_iload_n (pc := 60) C dX0_greatestDepth_60 rfl 1 rfl ?_
    cases h
    exact aw_iret (pc := 61) C dX0_greatestDepth_61
  · replace h := ite_F h hc
    refine aw_aload_n (pc := 12) C dX0_greatestDepth_12 rfl 0 rfl ?_
    refine aw_get (pc := 13) C (a := a0) (k := 1) (v := .ref (ad (a0 + 1))) inX0 (kdF ha0) rfl (by decide) q78 dX0_greatestDepth_13 rfl ?_
    refine aw_iload_n (pc := 16) C dX0_greatestDepth_16 rfl 2 rfl ?_
    obtain ⟨g1, h⟩ := ck_some h
    refine aw_iaload (pc := 17) C (a := (a0 + 1)) ((kdFk (k := 1) ha0 rfl rfl)) g1 dX0_greatestDepth_17 ?_
    obtain ⟨x2, ex2, h⟩ := bd_some h
    refine aw_istore_n (pc := 18) C (x := x2) (lv' := [(3, .int x2), (0, .ref (ad a0)), (1, .int v1), (2, .int v2)]) dX0_greatestDepth_18 rfl (by decide) ex2 rfl ?_
    refine aw_iconst (pc := 19) C (v := 0) dX0_greatestDepth_19 rfl ?_
    refine aw_istore (pc := 20) C (x := 0) (lv' := [(4, .int 0), (3, .int x2), (0, .ref (ad a0)), (1, .int v1), (2, .int v2)]) dX0_greatestDepth_20 (by decide) rfl rfl ?_
    refine aw_sub [2, 3, 4, 1, 0] rfl ?_
    exact ok_X0_greatestDepth_l22_w C hex ha0 hk4 big v1 v2 x2 0 h
theorem ok_X0_greatestDepth_l4_w {l : Launch} {p : Program} {e : Env} {s : State} {m : MethodId} {args : Array Value} {below : List Frame} {meth : Method} {c : Code} {D : va_G} {cI cL : ClassId} {ad : Nat → Nat} (C : CX p l s m args meth c RX0 cX0_greatestDepth 5 (some .int) D cI cL (AA ad s.heap.size)) (hex : ∀ x ∈ c.exceptionTable.toList, False) {r : Int32} {a0 : Nat} {μ : Mm} (ha0 : isF a0) : ∀ (n : Nat) (v1 : Int32) (v2 : Int32) , itr (X0_greatestDepth_l4 a0 μ) (fun _ _ => none) n v1 v2 = some r → AV l p e s m args below meth c D cI cL ad 1 5 (.inr (some (.int r))) μ 4 [(0, .ref (ad a0)), (1, .int v1), (2, .int v2)] [] μ := by
  intro n
  induction n with
  | zero => intro v1 v2 h; exact nomatch (show (none : Option Int32) = some r from h)
  | succ n ih => intro v1 v2 h; exact ok_X0_greatestDepth_l4 C hex (a0 := a0) (μ := μ) ha0 ih h
theorem ok_X0_greatestDepth {l : Launch} (htr : l.stackTraces = false) {a0 : Nat} {μ : Mm} {r : Int32} (ha0 : isF a0) (h : X0_greatestDepth a0 μ = some r) : MetX l yX0_greatestDepth cX0_greatestDepth 5 (some .int) 1 (fun ad => [.ref (ad a0)]) μ (.inr (some (.int r))) μ := by
  refine MetX.of htr (by decide) rfl (fun ad => Nat.le_of_ble_eq_true rfl) (fun p e s m args below meth c D cI cL ad C hex hw => ?_)
  show AV l p e s m args below meth c D cI cL ad 1 5 (.inr (some (.int r))) μ 0 [(0, .ref (ad a0))] [] μ
  unfold X0_greatestDepth at h
  refine aw_iconst (pc := 0) C (v := 0) dX0_greatestDepth_0 rfl ?_
  refine aw_istore_n (pc := 1) C (x := 0) (lv' := [(1, .int 0), (0, .ref (ad a0))]) dX0_greatestDepth_1 rfl (by decide) rfl rfl ?_
  refine aw_iconst (pc := 2) C (v := 0) dX0_greatestDepth_2 rfl ?_
  refine aw_istore_n (pc := 3) C (x := 0) (lv' := [(2, .int 0), (1, .int 0), (0, .ref (ad a0))]) dX0_greatestDepth_3 rfl (by decide) rfl rfl ?_
  refine aw_sub [2, 1, 0] rfl ?_
  exact ok_X0_greatestDepth_l4_w C hex ha0 big 0 0 h
/-! ### NameScopes$Facts.hasScope(I)Z -/
theorem ok_X0_hasScope_j16 {l : Launch} {p : Program} {e : Env} {s : State} {m : MethodId} {args : Array Value} {below : List Frame} {meth : Method} {c : Code} {D : va_G} {cI cL : ClassId} {ad : Nat → Nat} (C : CX p l s m args meth c RX0 cX0_hasScope 2 (some .boolean) D cI cL (AA ad s.heap.size)) (hex : ∀ x ∈ c.exceptionTable.toList, False) {r : Int32} {a0 : Nat} {v1 : Int32} {μ : Mm} (ha0 : isF a0)  (h : X0_hasScope_j16 a0 v1 μ = some r) : AV l p e s m args below meth c D cI cL ad 0 2 (.inr (some (.int r))) μ 16 [] [] μ := by
  unfold X0_hasScope_j16 at h
  refine aw_iconst (pc := 16) C (v := 0) dX0_hasScope_16 rfl ?_
  cases h
  exact aw_zret (pc := 17) C (b01_nar b01_0) dX0_hasScope_17
theorem ok_X0_hasScope {l : Launch} (htr : l.stackTraces = false) {a0 : Nat} {v1 : Int32} {μ : Mm} {r : Int32} (ha0 : isF a0) (h : X0_hasScope a0 v1 μ = some r) : MetX l yX0_hasScope cX0_hasScope 2 (some .boolean) 0 (fun ad => [.ref (ad a0), .int v1]) μ (.inr (some (.int r))) μ := by
  refine MetX.of htr (by decide) rfl (fun ad => Nat.le_of_ble_eq_true rfl) (fun p e s m args below meth c D cI cL ad C hex hw => ?_)
  show AV l p e s m args below meth c D cI cL ad 0 2 (.inr (some (.int r))) μ 0 [(0, .ref (ad a0)), (1, .int v1)] [] μ
  unfold X0_hasScope at h
  refine aw_iload_n (pc := 0) C dX0_hasScope_0 rfl 1 rfl ?_
  refine aw_if_lt (pc := 1) C 16 dX0_hasScope_1 rfl (fun hc => ?_) (fun hc => ?_)
  · replace h := ite_T h hc
    refine aw_sub [] rfl ?_
    exact ok_X0_hasScope_j16 C hex ha0 h
  · replace h := ite_F h hc
    refine aw_iload_n (pc := 4) C dX0_hasScope_4 rfl 1 rfl ?_
    refine aw_aload_n (pc := 5) C dX0_hasScope_5 rfl 0 rfl ?_
    refine aw_get (pc := 6) C (a := a0) (k := 0) (v := .int (μ.1 a0 0)) inX0 (kdF ha0) rfl (by decide) q76 dX0_hasScope_6 rfl ?_
    have kJ : AV l p e s m args below meth c D cI cL ad 0 2 (.inr (some (.int r))) μ 17 [(0, .ref (ad a0)), (1, .int v1)] [.int (if (μ.1 a0 0) ≤ v1 then (0 : Int32) else 1)] μ := by
      cases h
      exact aw_zret (pc := 17) C (b01_nar (b01_ite b01_0 b01_1)) dX0_hasScope_17
    refine aw_icmp_ge (pc := 9) C 16 dX0_hasScope_9 rfl (fun hd1 => ?_) (fun hd1 => ?_)
    · refine aw_iconst (pc := 16) C (v := 0) dX0_hasScope_16 rfl ?_
      rw [if_pos hd1] at kJ
      exact kJ
    · refine aw_iconst (pc := 12) C (v := 1) dX0_hasScope_12 rfl ?_
      refine aw_goto (pc := 13) C 17 dX0_hasScope_13 rfl ?_
      rw [if_neg hd1] at kJ
      exact kJ
/-! ### NameScopes$Layers.ofSort(II)I -/
theorem ok_X1_ofSort {l : Launch} (htr : l.stackTraces = false) {a0 : Nat} {v1 : Int32} {v2 : Int32} {μ : Mm} {r : Int32} (ha0 : isL a0) (h : X1_ofSort a0 v1 v2 μ = some r) : MetX l yX1_ofSort cX1_ofSort 3 (some .int) 0 (fun ad => [.ref (ad a0), .int v1, .int v2]) μ (.inr (some (.int r))) μ := by
  refine MetX.of htr (by decide) rfl (fun ad => Nat.le_of_ble_eq_true rfl) (fun p e s m args below meth c D cI cL ad C hex hw => ?_)
  show AV l p e s m args below meth c D cI cL ad 0 3 (.inr (some (.int r))) μ 0 [(0, .ref (ad a0)), (1, .int v1), (2, .int v2)] [] μ
  unfold X1_ofSort at h
  refine aw_iload_n (pc := 0) C dX1_ofSort_0 rfl 1 rfl ?_
  refine aw_if_ne (pc := 1) C 11 dX1_ofSort_1 rfl (fun hc => ?_) (fun hc => ?_)
  · replace h := ite_F h hc
    refine aw_iload_n (pc := 11) C dX1_ofSort_11 rfl 1 rfl ?_
    refine aw_iconst (pc := 12) C (v := 1) dX1_ofSort_12 rfl ?_
    refine aw_icmp_ne (pc := 13) C 25 dX1_ofSort_13 rfl (fun hc => ?_) (fun hc => ?_)
    · replace h := ite_F h hc
      refine aw_aload_n (pc := 25) C dX1_ofSort_25 rfl 0 rfl ?_
      refine aw_get (pc := 26) C (a := a0) (k := 3) (v := .ref (ad (a0 + 4))) inX1 (kdL_ ha0) rfl (by decide) q59 dX1_ofSort_26 rfl ?_
      refine aw_iload_n (pc := 29) C dX1_ofSort_29 rfl 2 rfl ?_
      obtain ⟨g1, h⟩ := ck_some h
      refine aw_iaload (pc := 30) C (a := (a0 + 4)) ((kdLk (k := 4) ha0 rfl rfl)) g1 dX1_ofSort_30 ?_
      cases h
      exact aw_iret (pc := 31) C dX1_ofSort_31
    · replace h := ite_T h hc
      refine aw_aload_n (pc := 16) C dX1_ofSort_16 rfl 0 rfl ?_
      refine aw_get (pc := 17) C (a := a0) (k := 2) (v := .ref (ad (a0 + 3))) inX1 (kdL_ ha0) rfl (by decide) q57 dX1_ofSort_17 rfl ?_
      refine aw_iload_n (pc := 20) C dX1_ofSort_20 rfl 2 rfl ?_
      obtain ⟨g2, h⟩ := ck_some h
      refine aw_iaload (pc := 21) C (a := (a0 + 3)) ((kdLk (k := 3) ha0 rfl rfl)) g2 dX1_ofSort_21 ?_
      refine aw_goto (pc := 22) C 31 dX1_ofSort_22 rfl ?_
      cases h
      exact aw_iret (pc := 31) C dX1_ofSort_31
  · replace h := ite_T h hc
    refine aw_aload_n (pc := 4) C dX1_ofSort_4 rfl 0 rfl ?_
    refine aw_get (pc := 5) C (a := a0) (k := 1) (v := .ref (ad (a0 + 2))) inX1 (kdL_ ha0) rfl (by decide) q54 dX1_ofSort_5 rfl ?_
    refine aw_iload_n (pc := 8) C dX1_ofSort_8 rfl 2 rfl ?_
    obtain ⟨g3, h⟩ := ck_some h
    refine aw_iaload (pc := 9) C (a := (a0 + 2)) ((kdLk (k := 2) ha0 rfl rfl)) g3 dX1_ofSort_9 ?_
    cases h
    exact aw_iret (pc := 10) C dX1_ofSort_10
/-! ### NameScopes$Facts.layerAt(III)I -/
theorem ok_X0_layerAt_j35 {l : Launch} {p : Program} {e : Env} {s : State} {m : MethodId} {args : Array Value} {below : List Frame} {meth : Method} {c : Code} {D : va_G} {cI cL : ClassId} {ad : Nat → Nat} (C : CX p l s m args meth c RX0 cX0_layerAt 6 (some .int) D cI cL (AA ad s.heap.size)) (hex : ∀ x ∈ c.exceptionTable.toList, False) {r : Int32} {a0 : Nat} {v1 : Int32} {v2 : Int32} {v3 : Int32} {μ : Mm} (ha0 : isF a0) {v4 : Int32}  (h : X0_layerAt_j35 a0 v1 v2 v3 μ v4 = some r) : AV l p e s m args below meth c D cI cL ad 1 6 (.inr (some (.int r))) μ 35 [(0, .ref (ad a0)), (2, .int v2), (3, .int v3), (4, .int v4)] [] μ := by
  unfold X0_layerAt_j35 at h
  refine aw_iload (pc := 35) C dX0_layerAt_35 3 rfl ?_
  refine aw_iconst (pc := 37) C (v := (-1)) dX0_layerAt_37 rfl ?_
  refine aw_icmp_ne (pc := 38) C 45 dX0_layerAt_38 rfl (fun hc => ?_) (fun hc => ?_)
  · replace h := ite_F h hc
    refine aw_aload_n (pc := 45) C dX0_layerAt_45 rfl 0 rfl ?_
    refine aw_get (pc := 46) C (a := a0) (k := 17) (v := .ref (ad (a0 + 14))) inX0 (kdF ha0) rfl (by decide) q121 dX0_layerAt_46 rfl ?_
    refine aw_iload_n (pc := 49) C dX0_layerAt_49 rfl 2 rfl ?_
    refine aw_iconst (pc := 50) C (v := 3) dX0_layerAt_50 rfl ?_
    refine aw_irem (pc := 51) C dX0_layerAt_51 (by decide) ?_
    refine aw_iload (pc := 52) C dX0_layerAt_52 3 rfl ?_
    refine aw_bipush (pc := 54) C (v := 26) dX0_layerAt_54 rfl ?_
    refine aw_imul (pc := 56) C dX0_layerAt_56 ?_
    refine aw_iload_n (pc := 57) C dX0_layerAt_57 rfl 1 rfl ?_
    refine aw_iadd (pc := 58) C dX0_layerAt_58 ?_
    obtain ⟨q2, hq1, h⟩ := bi_some h
    refine aw_Vi (pc := 59) (a := (a0 + 14)) (Bs := [.int (v3 - v3 / 3 * 3), .int ((v4 * 26) + v2)]) C (ok_X1_ofSort C.tr (isFL ha0) hq1) kv_X1_ofSort q255 (kdL_ (isFL ha0)) rfl rfl rfl dX0_layerAt_59 ⟨(show 1 ≤ 1 by decide), (show 22 ≤ 31 by decide)⟩ ⟨Nat.zero_le _, Nat.zero_le _⟩ [] (Nat.le_of_ble_eq_true rfl) rfl ?_
    cases h
    exact aw_iret (pc := 62) C dX0_layerAt_62
  · replace h := ite_T h hc
    refine aw_iconst (pc := 41) C (v := 0) dX0_layerAt_41 rfl ?_
    refine aw_goto (pc := 42) C 62 dX0_layerAt_42 rfl ?_
    cases h
    exact aw_iret (pc := 62) C dX0_layerAt_62
theorem ok_X0_layerAt_l6 {l : Launch} {p : Program} {e : Env} {s : State} {m : MethodId} {args : Array Value} {below : List Frame} {meth : Method} {c : Code} {D : va_G} {cI cL : ClassId} {ad : Nat → Nat} (C : CX p l s m args meth c RX0 cX0_layerAt 6 (some .int) D cI cL (AA ad s.heap.size)) (hex : ∀ x ∈ c.exceptionTable.toList, False) {r : Int32} {a0 : Nat} {v1 : Int32} {v2 : Int32} {v3 : Int32} {μ : Mm} (ha0 : isF a0) {k6 : Int32 → Int32 → Option Int32} (hk6 : ∀ (v4 : Int32) (v5 : Int32), k6 v4 v5 = some r → AV l p e s m args below meth c D cI cL ad 1 6 (.inr (some (.int r))) μ 6 [(0, .ref (ad a0)), (2, .int v2), (3, .int v3), (4, .int v4), (5, .int v5)] [] μ) {v4 : Int32} {v5 : Int32}  (h : X0_layerAt_l6 a0 v1 v2 v3 μ k6 v4 v5 = some r) : AV l p e s m args below meth c D cI cL ad 1 6 (.inr (some (.int r))) μ 6 [(0, .ref (ad a0)), (2, .int v2), (3, .int v3), (4, .int v4), (5, .int v5)] [] μ := by
  unfold X0_layerAt_l6 at h
  refine aw_iload (pc := 6) C dX0_layerAt_6 4 rfl ?_
  refine aw_iload_n (pc := 8) C dX0_layerAt_8 rfl 2 rfl ?_
  refine aw_iconst (pc := 9) C (v := 3) dX0_layerAt_9 rfl ?_
  refine aw_idiv (pc := 10) C dX0_layerAt_10 (by decide) ?_
  refine aw_icmp_ge (pc := 11) C 35 dX0_layerAt_11 rfl (fun hc => ?_) (fun hc => ?_)
  · replace h := ite_T h hc
    refine aw_sub [0, 1, 2, 3] rfl ?_
    exact ok_X0_layerAt_j35 C hex ha0 h
  · replace h := ite_F h hc
    refine aw_iload (pc := 14) C dX0_layerAt_14 3 rfl ?_
    refine aw_iconst (pc := 16) C (v := (-1)) dX0_layerAt_16 rfl ?_
    refine aw_icmp_eq (pc := 17) C 35 dX0_layerAt_17 rfl (fun hc => ?_) (fun hc => ?_)
    · replace h := ite_T h hc
      refine aw_sub [0, 1, 2, 3] rfl ?_
      exact ok_X0_layerAt_j35 C hex ha0 h
    · replace h := ite_F h hc
      refine aw_aload_n (pc := 20) C dX0_layerAt_20 rfl 0 rfl ?_
      refine aw_get (pc := 21) C (a := a0) (k := 1) (v := .ref (ad (a0 + 1))) inX0 (kdF ha0) rfl (by decide) q78 dX0_layerAt_21 rfl ?_
      refine aw_iload (pc := 24) C dX0_layerAt_24 3 rfl ?_
      obtain ⟨g3, h⟩ := ck_some h
      refine aw_iaload (pc := 26) C (a := (a0 + 1)) ((kdFk (k := 1) ha0 rfl rfl)) g3 dX0_layerAt_26 ?_
      obtain ⟨x4, ex4, h⟩ := bd_some h
      refine aw_istore (pc := 27) C (x := x4) (lv' := [(4, .int x4), (0, .ref (ad a0)), (2, .int v2), (3, .int v3), (5, .int v5)]) dX0_layerAt_27 (by decide) ex4 rfl ?_
      refine aw_iinc (pc := 29) C (v := (v5 + 1)) (lv' := [(5, .int (v5 + 1)), (4, .int x4), (0, .ref (ad a0)), (2, .int v2), (3, .int v3)]) dX0_layerAt_29 4 rfl (by decide) rfl rfl ?_
      refine aw_goto (pc := 32) C 6 dX0_layerAt_32 rfl ?_
      refine aw_sub [2, 3, 4, 1, 0] rfl ?_
      exact hk6 x4 (v5 + 1) h
theorem ok_X0_layerAt_l6_w {l : Launch} {p : Program} {e : Env} {s : State} {m : MethodId} {args : Array Value} {below : List Frame} {meth : Method} {c : Code} {D : va_G} {cI cL : ClassId} {ad : Nat → Nat} (C : CX p l s m args meth c RX0 cX0_layerAt 6 (some .int) D cI cL (AA ad s.heap.size)) (hex : ∀ x ∈ c.exceptionTable.toList, False) {r : Int32} {a0 : Nat} {v1 : Int32} {v2 : Int32} {v3 : Int32} {μ : Mm} (ha0 : isF a0) : ∀ (n : Nat) (v4 : Int32) (v5 : Int32) , itr (X0_layerAt_l6 a0 v1 v2 v3 μ) (fun _ _ => none) n v4 v5 = some r → AV l p e s m args below meth c D cI cL ad 1 6 (.inr (some (.int r))) μ 6 [(0, .ref (ad a0)), (2, .int v2), (3, .int v3), (4, .int v4), (5, .int v5)] [] μ := by
  intro n
  induction n with
  | zero => intro v4 v5 h; exact nomatch (show (none : Option Int32) = some r from h)
  | succ n ih => intro v4 v5 h; exact ok_X0_layerAt_l6 C hex (a0 := a0) (v1 := v1) (v2 := v2) (v3 := v3) (μ := μ) ha0 ih h
theorem ok_X0_layerAt {l : Launch} (htr : l.stackTraces = false) {a0 : Nat} {v1 : Int32} {v2 : Int32} {v3 : Int32} {μ : Mm} {r : Int32} (ha0 : isF a0) (h : X0_layerAt a0 v1 v2 v3 μ = some r) : MetX l yX0_layerAt cX0_layerAt 6 (some .int) 1 (fun ad => [.ref (ad a0), .int v1, .int v2, .int v3]) μ (.inr (some (.int r))) μ := by
  refine MetX.of htr (by decide) rfl (fun ad => Nat.le_of_ble_eq_true rfl) (fun p e s m args below meth c D cI cL ad C hex hw => ?_)
  show AV l p e s m args below meth c D cI cL ad 1 6 (.inr (some (.int r))) μ 0 [(0, .ref (ad a0)), (1, .int v1), (2, .int v2), (3, .int v3)] [] μ
  unfold X0_layerAt at h
  refine aw_iload_n (pc := 0) C dX0_layerAt_0 rfl 1 rfl ?_
  refine aw_istore (pc := 1) C (x := v1) (lv' := [(4, .int v1), (0, .ref (ad a0)), (1, .int v1), (2, .int v2), (3, .int v3)]) dX0_layerAt_1 (by decide) rfl rfl ?_
  refine aw_iconst (pc := 3) C (v := 0) dX0_layerAt_3 rfl ?_
  refine aw_istore (pc := 4) C (x := 0) (lv' := [(5, .int 0), (4, .int v1), (0, .ref (ad a0)), (1, .int v1), (2, .int v2), (3, .int v3)]) dX0_layerAt_4 (by decide) rfl rfl ?_
  refine aw_sub [2, 4, 5, 1, 0] rfl ?_
  exact ok_X0_layerAt_l6_w C hex ha0 big v1 0 h
/-! ### NameScopes$Facts.layersOf(II)I -/
theorem ok_X0_layersOf_l8 {l : Launch} {p : Program} {e : Env} {s : State} {m : MethodId} {args : Array Value} {below : List Frame} {meth : Method} {c : Code} {D : va_G} {cI cL : ClassId} {ad : Nat → Nat} (C : CX p l s m args meth c RX0 cX0_layersOf 6 (some .int) D cI cL (AA ad s.heap.size)) (hex : ∀ x ∈ c.exceptionTable.toList, False) {r : Int32} {a0 : Nat} {v1 : Int32} {v2 : Int32} {μ : Mm} (ha0 : isF a0) {k8 : Int32 → Int32 → Int32 → Option Int32} (hk8 : ∀ (v3 : Int32) (v4 : Int32) (v5 : Int32), k8 v3 v4 v5 = some r → AV l p e s m args below meth c D cI cL ad 1 6 (.inr (some (.int r))) μ 8 [(0, .ref (ad a0)), (2, .int v2), (3, .int v3), (4, .int v4), (5, .int v5)] [] μ) {v3 : Int32} {v4 : Int32} {v5 : Int32}  (h : X0_layersOf_l8 a0 v1 v2 μ k8 v3 v4 v5 = some r) : AV l p e s m args below meth c D cI cL ad 1 6 (.inr (some (.int r))) μ 8 [(0, .ref (ad a0)), (2, .int v2), (3, .int v3), (4, .int v4), (5, .int v5)] [] μ := by
  unfold X0_layersOf_l8 at h
  refine aw_iload (pc := 8) C dX0_layersOf_8 4 rfl ?_
  refine aw_bipush (pc := 10) C (v := 48) dX0_layersOf_10 rfl ?_
  refine aw_icmp_ge (pc := 12) C 78 dX0_layersOf_12 rfl (fun hc => ?_) (fun hc => ?_)
  · replace h := ite_T h hc
    refine aw_iload_n (pc := 78) C dX0_layersOf_78 rfl 2 rfl ?_
    cases h
    exact aw_iret (pc := 79) C dX0_layersOf_79
  · replace h := ite_F h hc
    refine aw_iload (pc := 15) C dX0_layersOf_15 3 rfl ?_
    refine aw_iconst (pc := 17) C (v := (-1)) dX0_layersOf_17 rfl ?_
    refine aw_icmp_eq (pc := 18) C 78 dX0_layersOf_18 rfl (fun hc => ?_) (fun hc => ?_)
    · replace h := ite_T h hc
      refine aw_iload_n (pc := 78) C dX0_layersOf_78 rfl 2 rfl ?_
      cases h
      exact aw_iret (pc := 79) C dX0_layersOf_79
    · replace h := ite_F h hc
      refine aw_iload_n (pc := 21) C dX0_layersOf_21 rfl 2 rfl ?_
      refine aw_aload_n (pc := 22) C dX0_layersOf_22 rfl 0 rfl ?_
      refine aw_get (pc := 23) C (a := a0) (k := 17) (v := .ref (ad (a0 + 14))) inX0 (kdF ha0) rfl (by decide) q121 dX0_layersOf_23 rfl ?_
      refine aw_iload (pc := 26) C dX0_layersOf_26 4 rfl ?_
      refine aw_iconst (pc := 28) C (v := 3) dX0_layersOf_28 rfl ?_
      refine aw_irem (pc := 29) C dX0_layersOf_29 (by decide) ?_
      refine aw_iload (pc := 30) C dX0_layersOf_30 3 rfl ?_
      refine aw_bipush (pc := 32) C (v := 26) dX0_layersOf_32 rfl ?_
      refine aw_imul (pc := 34) C dX0_layersOf_34 ?_
      refine aw_iload_n (pc := 35) C dX0_layersOf_35 rfl 1 rfl ?_
      refine aw_iadd (pc := 36) C dX0_layersOf_36 ?_
      obtain ⟨q2, hq1, h⟩ := bi_some h
      refine aw_Vi (pc := 37) (a := (a0 + 14)) (Bs := [.int (v5 - v5 / 3 * 3), .int ((v4 * 26) + v2)]) C (ok_X1_ofSort C.tr (isFL ha0) hq1) kv_X1_ofSort q255 (kdL_ (isFL ha0)) rfl rfl rfl dX0_layersOf_37 ⟨(show 1 ≤ 1 by decide), (show 22 ≤ 31 by decide)⟩ ⟨Nat.zero_le _, Nat.zero_le _⟩ [.int v3] (Nat.le_of_ble_eq_true rfl) rfl ?_
      have kJ : AV l p e s m args below meth c D cI cL ad 1 6 (.inr (some (.int r))) μ 48 [(0, .ref (ad a0)), (2, .int v2), (3, .int v3), (4, .int v4), (5, .int v5)] [.int (if q2 = 0 then (0 : Int32) else 1), .int v3] μ := by
        refine aw_iadd (pc := 48) C dX0_layersOf_48 ?_
        obtain ⟨x3, ex3, h⟩ := bd_some h
        refine aw_istore_n (pc := 49) C (x := x3) (lv' := [(3, .int x3), (0, .ref (ad a0)), (2, .int v2), (4, .int v4), (5, .int v5)]) dX0_layersOf_49 rfl (by decide) ex3 rfl ?_
        refine aw_iload (pc := 50) C dX0_layersOf_50 4 rfl ?_
        refine aw_iconst (pc := 52) C (v := 3) dX0_layersOf_52 rfl ?_
        refine aw_irem (pc := 53) C dX0_layersOf_53 (by decide) ?_
        refine aw_iconst (pc := 54) C (v := 2) dX0_layersOf_54 rfl ?_
        refine aw_icmp_ne (pc := 55) C 68 dX0_layersOf_55 rfl (fun hc => ?_) (fun hc => ?_)
        · replace h := ite_F h hc
          refine aw_iload (pc := 68) C dX0_layersOf_68 3 rfl ?_
          refine aw_istore (pc := 70) C (x := v4) (lv' := [(4, .int v4), (3, .int x3), (0, .ref (ad a0)), (2, .int v2), (5, .int v5)]) dX0_layersOf_70 (by decide) rfl rfl ?_
          refine aw_iinc (pc := 72) C (v := (v5 + 1)) (lv' := [(5, .int (v5 + 1)), (4, .int v4), (3, .int x3), (0, .ref (ad a0)), (2, .int v2)]) dX0_layersOf_72 4 rfl (by decide) rfl rfl ?_
          refine aw_goto (pc := 75) C 8 dX0_layersOf_75 rfl ?_
          refine aw_sub [3, 4, 2, 1, 0] rfl ?_
          exact hk8 x3 v4 (v5 + 1) h
        · replace h := ite_T h hc
          refine aw_aload_n (pc := 58) C dX0_layersOf_58 rfl 1 rfl ?_
          refine aw_get (pc := 59) C (a := a0) (k := 1) (v := .ref (ad (a0 + 1))) inX0 (kdF ha0) rfl (by decide) q78 dX0_layersOf_59 rfl ?_
          refine aw_iload (pc := 62) C dX0_layersOf_62 3 rfl ?_
          obtain ⟨g4, h⟩ := ck_some h
          refine aw_iaload (pc := 64) C (a := (a0 + 1)) ((kdFk (k := 1) ha0 rfl rfl)) g4 dX0_layersOf_64 ?_
          refine aw_goto (pc := 65) C 70 dX0_layersOf_65 rfl ?_
          obtain ⟨x5, ex5, h⟩ := bd_some h
          refine aw_istore (pc := 70) C (x := x5) (lv' := [(4, .int x5), (3, .int x3), (0, .ref (ad a0)), (2, .int v2), (5, .int v5)]) dX0_layersOf_70 (by decide) ex5 rfl ?_
          refine aw_iinc (pc := 72) C (v := (v5 + 1)) (lv' := [(5, .int (v5 + 1)), (4, .int x5), (3, .int x3), (0, .ref (ad a0)), (2, .int v2)]) dX0_layersOf_72 4 rfl (by decide) rfl rfl ?_
          refine aw_goto (pc := 75) C 8 dX0_layersOf_75 rfl ?_
          refine aw_sub [3, 4, 2, 1, 0] rfl ?_
          exact hk8 x3 x5 (v5 + 1) h
      refine aw_if_eq (pc := 40) C 47 dX0_layersOf_40 rfl (fun hd1 => ?_) (fun hd1 => ?_)
      · refine aw_iconst (pc := 47) C (v := 0) dX0_layersOf_47 rfl ?_
        rw [if_pos hd1] at kJ
        exact kJ
      · refine aw_iconst (pc := 43) C (v := 1) dX0_layersOf_43 rfl ?_
        refine aw_goto (pc := 44) C 48 dX0_layersOf_44 rfl ?_
        rw [if_neg hd1] at kJ
        exact kJ
theorem ok_X0_layersOf_l8_w {l : Launch} {p : Program} {e : Env} {s : State} {m : MethodId} {args : Array Value} {below : List Frame} {meth : Method} {c : Code} {D : va_G} {cI cL : ClassId} {ad : Nat → Nat} (C : CX p l s m args meth c RX0 cX0_layersOf 6 (some .int) D cI cL (AA ad s.heap.size)) (hex : ∀ x ∈ c.exceptionTable.toList, False) {r : Int32} {a0 : Nat} {v1 : Int32} {v2 : Int32} {μ : Mm} (ha0 : isF a0) : ∀ (n : Nat) (v3 : Int32) (v4 : Int32) (v5 : Int32) , itr (X0_layersOf_l8 a0 v1 v2 μ) (fun _ _ _ => none) n v3 v4 v5 = some r → AV l p e s m args below meth c D cI cL ad 1 6 (.inr (some (.int r))) μ 8 [(0, .ref (ad a0)), (2, .int v2), (3, .int v3), (4, .int v4), (5, .int v5)] [] μ := by
  intro n
  induction n with
  | zero => intro v3 v4 v5 h; exact nomatch (show (none : Option Int32) = some r from h)
  | succ n ih => intro v3 v4 v5 h; exact ok_X0_layersOf_l8 C hex (a0 := a0) (v1 := v1) (v2 := v2) (μ := μ) ha0 ih h
theorem ok_X0_layersOf {l : Launch} (htr : l.stackTraces = false) {a0 : Nat} {v1 : Int32} {v2 : Int32} {μ : Mm} {r : Int32} (ha0 : isF a0) (h : X0_layersOf a0 v1 v2 μ = some r) : MetX l yX0_layersOf cX0_layersOf 6 (some .int) 1 (fun ad => [.ref (ad a0), .int v1, .int v2]) μ (.inr (some (.int r))) μ := by
  refine MetX.of htr (by decide) rfl (fun ad => Nat.le_of_ble_eq_true rfl) (fun p e s m args below meth c D cI cL ad C hex hw => ?_)
  show AV l p e s m args below meth c D cI cL ad 1 6 (.inr (some (.int r))) μ 0 [(0, .ref (ad a0)), (1, .int v1), (2, .int v2)] [] μ
  unfold X0_layersOf at h
  refine aw_iconst (pc := 0) C (v := 0) dX0_layersOf_0 rfl ?_
  refine aw_istore_n (pc := 1) C (x := 0) (lv' := [(3, .int 0), (0, .ref (ad a0)), (1, .int v1), (2, .int v2)]) dX0_layersOf_1 rfl (by decide) rfl rfl ?_
  refine aw_iload_n (pc := 2) C dX0_layersOf_2 rfl 2 rfl ?_
  refine aw_istore (pc := 3) C (x := v1) (lv' := [(4, .int v1), (3, .int 0), (0, .ref (ad a0)), (1, .int v1), (2, .int v2)]) dX0_layersOf_3 (by decide) rfl rfl ?_
  refine aw_iconst (pc := 5) C (v := 0) dX0_layersOf_5 rfl ?_
  refine aw_istore (pc := 6) C (x := 0) (lv' := [(5, .int 0), (4, .int v1), (3, .int 0), (0, .ref (ad a0)), (1, .int v1), (2, .int v2)]) dX0_layersOf_6 (by decide) rfl rfl ?_
  refine aw_sub [3, 5, 2, 1, 0] rfl ?_
  exact ok_X0_layersOf_l8_w C hex ha0 big 0 v1 0 h
/-! ### NameScopes$Facts.pairsBrought(I)I -/
theorem ok_X0_pairsBrought_l45 {l : Launch} {p : Program} {e : Env} {s : State} {m : MethodId} {args : Array Value} {below : List Frame} {meth : Method} {c : Code} {D : va_G} {cI cL : ClassId} {ad : Nat → Nat} (C : CX p l s m args meth c RX0 cX0_pairsBrought 5 (some .int) D cI cL (AA ad s.heap.size)) (hex : ∀ x ∈ c.exceptionTable.toList, False) {r : Int32} {a0 : Nat} {v1 : Int32} {μ : Mm} (ha0 : isF a0) {k45 : Int32 → Int32 → Int32 → Option Int32} (hk45 : ∀ (v2 : Int32) (v3 : Int32) (v4 : Int32), k45 v2 v3 v4 = some r → AV l p e s m args below meth c D cI cL ad 1 5 (.inr (some (.int r))) μ 45 [(0, .ref (ad a0)), (1, .int v1), (2, .int v2), (3, .int v3), (4, .int v4)] [] μ) {v2 : Int32} {v3 : Int32} {v4 : Int32}  (h : X0_pairsBrought_l45 a0 v1 μ k45 v2 v3 v4 = some r) : AV l p e s m args below meth c D cI cL ad 1 5 (.inr (some (.int r))) μ 45 [(0, .ref (ad a0)), (1, .int v1), (2, .int v2), (3, .int v3), (4, .int v4)] [] μ := by
  unfold X0_pairsBrought_l45 at h
  refine aw_iload (pc := 45) C dX0_pairsBrought_45 4 rfl ?_
  refine aw_bipush (pc := 47) C (v := 26) dX0_pairsBrought_47 rfl ?_
  refine aw_icmp_ge (pc := 49) C 90 dX0_pairsBrought_49 rfl (fun hc => ?_) (fun hc => ?_)
  · replace h := ite_T h hc
    refine aw_iload_n (pc := 90) C dX0_pairsBrought_90 rfl 3 rfl ?_
    cases h
    exact aw_iret (pc := 91) C dX0_pairsBrought_91
  · replace h := ite_F h hc
    refine aw_aload_n (pc := 52) C dX0_pairsBrought_52 rfl 0 rfl ?_
    refine aw_get (pc := 53) C (a := a0) (k := 11) (v := .ref (ad (a0 + 9))) inX0 (kdF ha0) rfl (by decide) q107 dX0_pairsBrought_53 rfl ?_
    refine aw_iload_n (pc := 56) C dX0_pairsBrought_56 rfl 1 rfl ?_
    obtain ⟨g4, h⟩ := ck_some h
    refine aw_iaload (pc := 57) C (a := (a0 + 9)) ((kdFk (k := 9) ha0 rfl rfl)) g4 dX0_pairsBrought_57 ?_
    refine aw_iload (pc := 58) C dX0_pairsBrought_58 4 rfl ?_
    refine aw_ishr (pc := 60) C dX0_pairsBrought_60 ?_
    refine aw_iconst (pc := 61) C (v := 1) dX0_pairsBrought_61 rfl ?_
    refine aw_iand (pc := 62) C dX0_pairsBrought_62 ?_
    refine aw_if_ne (pc := 63) C 84 dX0_pairsBrought_63 rfl (fun hc => ?_) (fun hc => ?_)
    · replace h := ite_F h hc
      refine aw_iinc (pc := 84) C (v := (v4 + 1)) (lv' := [(4, .int (v4 + 1)), (0, .ref (ad a0)), (1, .int v1), (2, .int v2), (3, .int v3)]) dX0_pairsBrought_84 4 rfl (by decide) rfl rfl ?_
      refine aw_goto (pc := 87) C 45 dX0_pairsBrought_87 rfl ?_
      refine aw_sub [1, 2, 3, 4, 0] rfl ?_
      exact hk45 v2 v3 (v4 + 1) h
    · replace h := ite_T h hc
      refine aw_iload_n (pc := 66) C dX0_pairsBrought_66 rfl 3 rfl ?_
      refine aw_aload_n (pc := 67) C dX0_pairsBrought_67 rfl 0 rfl ?_
      refine aw_get (pc := 68) C (a := a0) (k := 17) (v := .ref (ad (a0 + 14))) inX0 (kdF ha0) rfl (by decide) q121 dX0_pairsBrought_68 rfl ?_
      refine aw_getN (pc := 71) C (a := (a0 + 14)) (k := 0) (v := .ref (ad ((a0 + 14) + 1))) inX1 (kdL_ (isFL ha0)) rfl (by decide) q53 dX0_pairsBrought_71 rfl ?_
      refine aw_iload_n (pc := 74) C dX0_pairsBrought_74 rfl 2 rfl ?_
      refine aw_iload (pc := 75) C dX0_pairsBrought_75 4 rfl ?_
      refine aw_iadd (pc := 77) C dX0_pairsBrought_77 ?_
      obtain ⟨g5, h⟩ := ck_some h
      refine aw_iaload (pc := 78) C (a := ((a0 + 14) + 1)) ((kdLk (k := 1) (isFL ha0) rfl rfl)) g5 dX0_pairsBrought_78 ?_
      obtain ⟨q7, hq6, h⟩ := bi_some h
      refine aw_Si (pc := 79) (Bs := [.int (μ.1 ((a0 + 14) + 1) ((v2 + v4) : Int32).toNatClampNeg)]) C (ok_J6_bitCount_0f7a4 C.tr hq6) kv_J6_bitCount_0f7a4 q245 rfl rfl dX0_pairsBrought_79 ⟨(show 1 ≤ 1 by decide), (show 20 ≤ 31 by decide)⟩ ⟨Nat.zero_le _, Nat.zero_le _⟩ [.int v3] (Nat.le_of_ble_eq_true rfl) rfl ?_
      refine aw_iadd (pc := 82) C dX0_pairsBrought_82 ?_
      obtain ⟨x8, ex8, h⟩ := bd_some h
      refine aw_istore_n (pc := 83) C (x := x8) (lv' := [(3, .int x8), (0, .ref (ad a0)), (1, .int v1), (2, .int v2), (4, .int v4)]) dX0_pairsBrought_83 rfl (by decide) ex8 rfl ?_
      refine aw_iinc (pc := 84) C (v := (v4 + 1)) (lv' := [(4, .int (v4 + 1)), (3, .int x8), (0, .ref (ad a0)), (1, .int v1), (2, .int v2)]) dX0_pairsBrought_84 4 rfl (by decide) rfl rfl ?_
      refine aw_goto (pc := 87) C 45 dX0_pairsBrought_87 rfl ?_
      refine aw_sub [2, 3, 4, 1, 0] rfl ?_
      exact hk45 v2 x8 (v4 + 1) h
theorem ok_X0_pairsBrought_l45_w {l : Launch} {p : Program} {e : Env} {s : State} {m : MethodId} {args : Array Value} {below : List Frame} {meth : Method} {c : Code} {D : va_G} {cI cL : ClassId} {ad : Nat → Nat} (C : CX p l s m args meth c RX0 cX0_pairsBrought 5 (some .int) D cI cL (AA ad s.heap.size)) (hex : ∀ x ∈ c.exceptionTable.toList, False) {r : Int32} {a0 : Nat} {v1 : Int32} {μ : Mm} (ha0 : isF a0) : ∀ (n : Nat) (v2 : Int32) (v3 : Int32) (v4 : Int32) , itr (X0_pairsBrought_l45 a0 v1 μ) (fun _ _ _ => none) n v2 v3 v4 = some r → AV l p e s m args below meth c D cI cL ad 1 5 (.inr (some (.int r))) μ 45 [(0, .ref (ad a0)), (1, .int v1), (2, .int v2), (3, .int v3), (4, .int v4)] [] μ := by
  intro n
  induction n with
  | zero => intro v2 v3 v4 h; exact nomatch (show (none : Option Int32) = some r from h)
  | succ n ih => intro v2 v3 v4 h; exact ok_X0_pairsBrought_l45 C hex (a0 := a0) (v1 := v1) (μ := μ) ha0 ih h
theorem ok_X0_pairsBrought {l : Launch} (htr : l.stackTraces = false) {a0 : Nat} {v1 : Int32} {μ : Mm} {r : Int32} (ha0 : isF a0) (h : X0_pairsBrought a0 v1 μ = some r) : MetX l yX0_pairsBrought cX0_pairsBrought 5 (some .int) 1 (fun ad => [.ref (ad a0), .int v1]) μ (.inr (some (.int r))) μ := by
  refine MetX.of htr (by decide) rfl (fun ad => Nat.le_of_ble_eq_true rfl) (fun p e s m args below meth c D cI cL ad C hex hw => ?_)
  show AV l p e s m args below meth c D cI cL ad 1 5 (.inr (some (.int r))) μ 0 [(0, .ref (ad a0)), (1, .int v1)] [] μ
  unfold X0_pairsBrought at h
  refine aw_aload_n (pc := 0) C dX0_pairsBrought_0 rfl 0 rfl ?_
  refine aw_get (pc := 1) C (a := a0) (k := 8) (v := .ref (ad (a0 + 6))) inX0 (kdF ha0) rfl (by decide) q98 dX0_pairsBrought_1 rfl ?_
  refine aw_iload_n (pc := 4) C dX0_pairsBrought_4 rfl 1 rfl ?_
  obtain ⟨g1, h⟩ := ck_some h
  refine aw_iaload (pc := 5) C (a := (a0 + 6)) ((kdFk (k := 6) ha0 rfl rfl)) g1 dX0_pairsBrought_5 ?_
  refine aw_bipush (pc := 6) C (v := 26) dX0_pairsBrought_6 rfl ?_
  refine aw_imul (pc := 8) C dX0_pairsBrought_8 ?_
  obtain ⟨x2, ex2, h⟩ := bd_some h
  refine aw_istore_n (pc := 9) C (x := x2) (lv' := [(2, .int x2), (0, .ref (ad a0)), (1, .int v1)]) dX0_pairsBrought_9 rfl (by decide) ex2 rfl ?_
  refine aw_aload_n (pc := 10) C dX0_pairsBrought_10 rfl 1 rfl ?_
  refine aw_get (pc := 11) C (a := a0) (k := 9) (v := .ref (ad (a0 + 7))) inX0 (kdF ha0) rfl (by decide) q101 dX0_pairsBrought_11 rfl ?_
  refine aw_iload_n (pc := 14) C dX0_pairsBrought_14 rfl 2 rfl ?_
  obtain ⟨g3, h⟩ := ck_some h
  refine aw_iaload (pc := 15) C (a := (a0 + 7)) ((kdFk (k := 7) ha0 rfl rfl)) g3 dX0_pairsBrought_15 ?_
  refine aw_iconst (pc := 16) C (v := (-1)) dX0_pairsBrought_16 rfl ?_
  refine aw_icmp_eq (pc := 17) C 40 dX0_pairsBrought_17 rfl (fun hc => ?_) (fun hc => ?_)
  · replace h := ite_T h hc
    refine aw_iconst (pc := 40) C (v := 0) dX0_pairsBrought_40 rfl ?_
    refine aw_istore_n (pc := 41) C (x := 0) (lv' := [(3, .int 0), (2, .int x2), (0, .ref (ad a0)), (1, .int v1)]) dX0_pairsBrought_41 rfl (by decide) rfl rfl ?_
    refine aw_iconst (pc := 42) C (v := 0) dX0_pairsBrought_42 rfl ?_
    refine aw_istore (pc := 43) C (x := 0) (lv' := [(4, .int 0), (3, .int 0), (2, .int x2), (0, .ref (ad a0)), (1, .int v1)]) dX0_pairsBrought_43 (by decide) rfl rfl ?_
    refine aw_sub [3, 4, 2, 1, 0] rfl ?_
    exact ok_X0_pairsBrought_l45_w C hex ha0 big x2 0 0 h
  · replace h := ite_F h hc
    refine aw_aload_n (pc := 20) C dX0_pairsBrought_20 rfl 1 rfl ?_
    refine aw_get (pc := 21) C (a := a0) (k := 17) (v := .ref (ad (a0 + 14))) inX0 (kdF ha0) rfl (by decide) q121 dX0_pairsBrought_21 rfl ?_
    refine aw_getN (pc := 24) C (a := (a0 + 14)) (k := 0) (v := .ref (ad ((a0 + 14) + 1))) inX1 (kdL_ (isFL ha0)) rfl (by decide) q53 dX0_pairsBrought_24 rfl ?_
    refine aw_iload_n (pc := 27) C dX0_pairsBrought_27 rfl 0 rfl ?_
    refine aw_aload_n (pc := 28) C dX0_pairsBrought_28 rfl 1 rfl ?_
    refine aw_get (pc := 29) C (a := a0) (k := 9) (v := .ref (ad (a0 + 7))) inX0 (kdF ha0) rfl (by decide) q101 dX0_pairsBrought_29 rfl ?_
    refine aw_iload_n (pc := 32) C dX0_pairsBrought_32 rfl 2 rfl ?_
    obtain ⟨g9, h⟩ := ck_some h
    refine aw_iaload (pc := 33) C (a := (a0 + 7)) ((kdFk (k := 7) ha0 rfl rfl)) g9 dX0_pairsBrought_33 ?_
    refine aw_iadd (pc := 34) C dX0_pairsBrought_34 ?_
    obtain ⟨g10, h⟩ := ck_some h
    refine aw_iaload (pc := 35) C (a := ((a0 + 14) + 1)) ((kdLk (k := 1) (isFL ha0) rfl rfl)) g10 dX0_pairsBrought_35 ?_
    obtain ⟨q12, hq11, h⟩ := bi_some h
    refine aw_Si (pc := 36) (Bs := [.int (μ.1 ((a0 + 14) + 1) ((x2 + (μ.1 (a0 + 7) (v1 : Int32).toNatClampNeg)) : Int32).toNatClampNeg)]) C (ok_J6_bitCount_0f7a4 C.tr hq11) kv_J6_bitCount_0f7a4 q245 rfl rfl dX0_pairsBrought_36 ⟨(show 1 ≤ 1 by decide), (show 20 ≤ 31 by decide)⟩ ⟨Nat.zero_le _, Nat.zero_le _⟩ [] (Nat.le_of_ble_eq_true rfl) rfl ?_
    cases h
    exact aw_iret (pc := 39) C dX0_pairsBrought_39
/-! ### NameScopes$Facts.pairsOffered()I -/
theorem ok_X0_pairsOffered_l4 {l : Launch} {p : Program} {e : Env} {s : State} {m : MethodId} {args : Array Value} {below : List Frame} {meth : Method} {c : Code} {D : va_G} {cI cL : ClassId} {ad : Nat → Nat} (C : CX p l s m args meth c RX0 cX0_pairsOffered 3 (some .int) D cI cL (AA ad s.heap.size)) (hex : ∀ x ∈ c.exceptionTable.toList, False) {r : Int32} {a0 : Nat} {μ : Mm} (ha0 : isF a0) {k4 : Int32 → Int32 → Option Int32} (hk4 : ∀ (v1 : Int32) (v2 : Int32), k4 v1 v2 = some r → AV l p e s m args below meth c D cI cL ad 1 3 (.inr (some (.int r))) μ 4 [(0, .ref (ad a0)), (1, .int v1), (2, .int v2)] [] μ) {v1 : Int32} {v2 : Int32}  (h : X0_pairsOffered_l4 a0 μ k4 v1 v2 = some r) : AV l p e s m args below meth c D cI cL ad 1 3 (.inr (some (.int r))) μ 4 [(0, .ref (ad a0)), (1, .int v1), (2, .int v2)] [] μ := by
  unfold X0_pairsOffered_l4 at h
  refine aw_iload_n (pc := 4) C dX0_pairsOffered_4 rfl 2 rfl ?_
  refine aw_aload_n (pc := 5) C dX0_pairsOffered_5 rfl 0 rfl ?_
  refine aw_get (pc := 6) C (a := a0) (k := 0) (v := .int (μ.1 a0 0)) inX0 (kdF ha0) rfl (by decide) q76 dX0_pairsOffered_6 rfl ?_
  refine aw_bipush (pc := 9) C (v := 26) dX0_pairsOffered_9 rfl ?_
  refine aw_imul (pc := 11) C dX0_pairsOffered_11 ?_
  refine aw_icmp_ge (pc := 12) C 36 dX0_pairsOffered_12 rfl (fun hc => ?_) (fun hc => ?_)
  · replace h := ite_T h hc
    refine aw_iload_n (pc := 36) C dX0_pairsOffered_36 rfl 1 rfl ?_
    cases h
    exact aw_iret (pc := 37) C dX0_pairsOffered_37
  · replace h := ite_F h hc
    refine aw_iload_n (pc := 15) C dX0_pairsOffered_15 rfl 1 rfl ?_
    refine aw_aload_n (pc := 16) C dX0_pairsOffered_16 rfl 0 rfl ?_
    refine aw_get (pc := 17) C (a := a0) (k := 17) (v := .ref (ad (a0 + 14))) inX0 (kdF ha0) rfl (by decide) q121 dX0_pairsOffered_17 rfl ?_
    refine aw_getN (pc := 20) C (a := (a0 + 14)) (k := 0) (v := .ref (ad ((a0 + 14) + 1))) inX1 (kdL_ (isFL ha0)) rfl (by decide) q53 dX0_pairsOffered_20 rfl ?_
    refine aw_iload_n (pc := 23) C dX0_pairsOffered_23 rfl 2 rfl ?_
    obtain ⟨g1, h⟩ := ck_some h
    refine aw_iaload (pc := 24) C (a := ((a0 + 14) + 1)) ((kdLk (k := 1) (isFL ha0) rfl rfl)) g1 dX0_pairsOffered_24 ?_
    obtain ⟨q3, hq2, h⟩ := bi_some h
    refine aw_Si (pc := 25) (Bs := [.int (μ.1 ((a0 + 14) + 1) (v2 : Int32).toNatClampNeg)]) C (ok_J6_bitCount_0f7a4 C.tr hq2) kv_J6_bitCount_0f7a4 q245 rfl rfl dX0_pairsOffered_25 ⟨(show 1 ≤ 1 by decide), (show 20 ≤ 31 by decide)⟩ ⟨Nat.zero_le _, Nat.zero_le _⟩ [.int v1] (Nat.le_of_ble_eq_true rfl) rfl ?_
    refine aw_iadd (pc := 28) C dX0_pairsOffered_28 ?_
    obtain ⟨x4, ex4, h⟩ := bd_some h
    refine aw_istore_n (pc := 29) C (x := x4) (lv' := [(1, .int x4), (0, .ref (ad a0)), (2, .int v2)]) dX0_pairsOffered_29 rfl (by decide) ex4 rfl ?_
    refine aw_iinc (pc := 30) C (v := (v2 + 1)) (lv' := [(2, .int (v2 + 1)), (1, .int x4), (0, .ref (ad a0))]) dX0_pairsOffered_30 2 rfl (by decide) rfl rfl ?_
    refine aw_goto (pc := 33) C 4 dX0_pairsOffered_33 rfl ?_
    refine aw_sub [2, 1, 0] rfl ?_
    exact hk4 x4 (v2 + 1) h
theorem ok_X0_pairsOffered_l4_w {l : Launch} {p : Program} {e : Env} {s : State} {m : MethodId} {args : Array Value} {below : List Frame} {meth : Method} {c : Code} {D : va_G} {cI cL : ClassId} {ad : Nat → Nat} (C : CX p l s m args meth c RX0 cX0_pairsOffered 3 (some .int) D cI cL (AA ad s.heap.size)) (hex : ∀ x ∈ c.exceptionTable.toList, False) {r : Int32} {a0 : Nat} {μ : Mm} (ha0 : isF a0) : ∀ (n : Nat) (v1 : Int32) (v2 : Int32) , itr (X0_pairsOffered_l4 a0 μ) (fun _ _ => none) n v1 v2 = some r → AV l p e s m args below meth c D cI cL ad 1 3 (.inr (some (.int r))) μ 4 [(0, .ref (ad a0)), (1, .int v1), (2, .int v2)] [] μ := by
  intro n
  induction n with
  | zero => intro v1 v2 h; exact nomatch (show (none : Option Int32) = some r from h)
  | succ n ih => intro v1 v2 h; exact ok_X0_pairsOffered_l4 C hex (a0 := a0) (μ := μ) ha0 ih h
theorem ok_X0_pairsOffered {l : Launch} (htr : l.stackTraces = false) {a0 : Nat} {μ : Mm} {r : Int32} (ha0 : isF a0) (h : X0_pairsOffered a0 μ = some r) : MetX l yX0_pairsOffered cX0_pairsOffered 3 (some .int) 1 (fun ad => [.ref (ad a0)]) μ (.inr (some (.int r))) μ := by
  refine MetX.of htr (by decide) rfl (fun ad => Nat.le_of_ble_eq_true rfl) (fun p e s m args below meth c D cI cL ad C hex hw => ?_)
  show AV l p e s m args below meth c D cI cL ad 1 3 (.inr (some (.int r))) μ 0 [(0, .ref (ad a0))] [] μ
  unfold X0_pairsOffered at h
  refine aw_iconst (pc := 0) C (v := 0) dX0_pairsOffered_0 rfl ?_
  refine aw_istore_n (pc := 1) C (x := 0) (lv' := [(1, .int 0), (0, .ref (ad a0))]) dX0_pairsOffered_1 rfl (by decide) rfl rfl ?_
  refine aw_iconst (pc := 2) C (v := 0) dX0_pairsOffered_2 rfl ?_
  refine aw_istore_n (pc := 3) C (x := 0) (lv' := [(2, .int 0), (1, .int 0), (0, .ref (ad a0))]) dX0_pairsOffered_3 rfl (by decide) rfl rfl ?_
  refine aw_sub [2, 1, 0] rfl ?_
  exact ok_X0_pairsOffered_l4_w C hex ha0 big 0 0 h
/-! ### NameScopes$Facts.placeOfLayer(III)I -/
theorem ok_X0_placeOfLayer_j55 {l : Launch} {p : Program} {e : Env} {s : State} {m : MethodId} {args : Array Value} {below : List Frame} {meth : Method} {c : Code} {D : va_G} {cI cL : ClassId} {ad : Nat → Nat} (C : CX p l s m args meth c RX0 cX0_placeOfLayer 7 (some .int) D cI cL (AA ad s.heap.size)) (hex : ∀ x ∈ c.exceptionTable.toList, False) {r : Int32} {a0 : Nat} {v1 : Int32} {v2 : Int32} {v3 : Int32} {μ : Mm} (ha0 : isF a0) {k9 : Int32 → Int32 → Int32 → Option Int32} (hk9 : ∀ (v4 : Int32) (v5 : Int32) (v6 : Int32), k9 v4 v5 v6 = some r → AV l p e s m args below meth c D cI cL ad 1 7 (.inr (some (.int r))) μ 9 [(0, .ref (ad a0)), (2, .int v2), (3, .int v3), (4, .int v4), (5, .int v5), (6, .int v6)] [] μ) {v4 : Int32} {v5 : Int32} {v6 : Int32}  (h : X0_placeOfLayer_j55 a0 v1 v2 v3 μ k9 v4 v5 v6 = some r) : AV l p e s m args below meth c D cI cL ad 1 7 (.inr (some (.int r))) μ 55 [(0, .ref (ad a0)), (2, .int v2), (3, .int v3), (4, .int v4), (5, .int v5), (6, .int v6)] [] μ := by
  unfold X0_placeOfLayer_j55 at h
  refine aw_iload (pc := 55) C dX0_placeOfLayer_55 5 rfl ?_
  refine aw_iconst (pc := 57) C (v := 3) dX0_placeOfLayer_57 rfl ?_
  refine aw_irem (pc := 58) C dX0_placeOfLayer_58 (by decide) ?_
  refine aw_iconst (pc := 59) C (v := 2) dX0_placeOfLayer_59 rfl ?_
  refine aw_icmp_ne (pc := 60) C 73 dX0_placeOfLayer_60 rfl (fun hc => ?_) (fun hc => ?_)
  · replace h := ite_F h hc
    refine aw_iload (pc := 73) C dX0_placeOfLayer_73 4 rfl ?_
    refine aw_istore (pc := 75) C (x := v5) (lv' := [(5, .int v5), (0, .ref (ad a0)), (2, .int v2), (3, .int v3), (4, .int v4), (6, .int v6)]) dX0_placeOfLayer_75 (by decide) rfl rfl ?_
    refine aw_iinc (pc := 77) C (v := (v6 + 1)) (lv' := [(6, .int (v6 + 1)), (5, .int v5), (0, .ref (ad a0)), (2, .int v2), (3, .int v3), (4, .int v4)]) dX0_placeOfLayer_77 5 rfl (by decide) rfl rfl ?_
    refine aw_goto (pc := 80) C 9 dX0_placeOfLayer_80 rfl ?_
    refine aw_sub [2, 3, 4, 5, 1, 0] rfl ?_
    exact hk9 v4 v5 (v6 + 1) h
  · replace h := ite_T h hc
    refine aw_aload_n (pc := 63) C dX0_placeOfLayer_63 rfl 0 rfl ?_
    refine aw_get (pc := 64) C (a := a0) (k := 1) (v := .ref (ad (a0 + 1))) inX0 (kdF ha0) rfl (by decide) q78 dX0_placeOfLayer_64 rfl ?_
    refine aw_iload (pc := 67) C dX0_placeOfLayer_67 4 rfl ?_
    obtain ⟨g3, h⟩ := ck_some h
    refine aw_iaload (pc := 69) C (a := (a0 + 1)) ((kdFk (k := 1) ha0 rfl rfl)) g3 dX0_placeOfLayer_69 ?_
    refine aw_goto (pc := 70) C 75 dX0_placeOfLayer_70 rfl ?_
    obtain ⟨x4, ex4, h⟩ := bd_some h
    refine aw_istore (pc := 75) C (x := x4) (lv' := [(5, .int x4), (0, .ref (ad a0)), (2, .int v2), (3, .int v3), (4, .int v4), (6, .int v6)]) dX0_placeOfLayer_75 (by decide) ex4 rfl ?_
    refine aw_iinc (pc := 77) C (v := (v6 + 1)) (lv' := [(6, .int (v6 + 1)), (5, .int x4), (0, .ref (ad a0)), (2, .int v2), (3, .int v3), (4, .int v4)]) dX0_placeOfLayer_77 5 rfl (by decide) rfl rfl ?_
    refine aw_goto (pc := 80) C 9 dX0_placeOfLayer_80 rfl ?_
    refine aw_sub [2, 3, 4, 5, 1, 0] rfl ?_
    exact hk9 v4 x4 (v6 + 1) h
theorem ok_X0_placeOfLayer_l9 {l : Launch} {p : Program} {e : Env} {s : State} {m : MethodId} {args : Array Value} {below : List Frame} {meth : Method} {c : Code} {D : va_G} {cI cL : ClassId} {ad : Nat → Nat} (C : CX p l s m args meth c RX0 cX0_placeOfLayer 7 (some .int) D cI cL (AA ad s.heap.size)) (hex : ∀ x ∈ c.exceptionTable.toList, False) {r : Int32} {a0 : Nat} {v1 : Int32} {v2 : Int32} {v3 : Int32} {μ : Mm} (ha0 : isF a0) {k9 : Int32 → Int32 → Int32 → Option Int32} (hk9 : ∀ (v4 : Int32) (v5 : Int32) (v6 : Int32), k9 v4 v5 v6 = some r → AV l p e s m args below meth c D cI cL ad 1 7 (.inr (some (.int r))) μ 9 [(0, .ref (ad a0)), (2, .int v2), (3, .int v3), (4, .int v4), (5, .int v5), (6, .int v6)] [] μ) {v4 : Int32} {v5 : Int32} {v6 : Int32}  (h : X0_placeOfLayer_l9 a0 v1 v2 v3 μ k9 v4 v5 v6 = some r) : AV l p e s m args below meth c D cI cL ad 1 7 (.inr (some (.int r))) μ 9 [(0, .ref (ad a0)), (2, .int v2), (3, .int v3), (4, .int v4), (5, .int v5), (6, .int v6)] [] μ := by
  unfold X0_placeOfLayer_l9 at h
  refine aw_iload (pc := 9) C dX0_placeOfLayer_9 5 rfl ?_
  refine aw_bipush (pc := 11) C (v := 48) dX0_placeOfLayer_11 rfl ?_
  refine aw_icmp_ge (pc := 13) C 83 dX0_placeOfLayer_13 rfl (fun hc => ?_) (fun hc => ?_)
  · replace h := ite_T h hc
    refine aw_iconst (pc := 83) C (v := (-1)) dX0_placeOfLayer_83 rfl ?_
    cases h
    exact aw_iret (pc := 84) C dX0_placeOfLayer_84
  · replace h := ite_F h hc
    refine aw_iload (pc := 16) C dX0_placeOfLayer_16 4 rfl ?_
    refine aw_iconst (pc := 18) C (v := (-1)) dX0_placeOfLayer_18 rfl ?_
    refine aw_icmp_eq (pc := 19) C 83 dX0_placeOfLayer_19 rfl (fun hc => ?_) (fun hc => ?_)
    · replace h := ite_T h hc
      refine aw_iconst (pc := 83) C (v := (-1)) dX0_placeOfLayer_83 rfl ?_
      cases h
      exact aw_iret (pc := 84) C dX0_placeOfLayer_84
    · replace h := ite_F h hc
      refine aw_aload_n (pc := 22) C dX0_placeOfLayer_22 rfl 0 rfl ?_
      refine aw_get (pc := 23) C (a := a0) (k := 17) (v := .ref (ad (a0 + 14))) inX0 (kdF ha0) rfl (by decide) q121 dX0_placeOfLayer_23 rfl ?_
      refine aw_iload (pc := 26) C dX0_placeOfLayer_26 5 rfl ?_
      refine aw_iconst (pc := 28) C (v := 3) dX0_placeOfLayer_28 rfl ?_
      refine aw_irem (pc := 29) C dX0_placeOfLayer_29 (by decide) ?_
      refine aw_iload (pc := 30) C dX0_placeOfLayer_30 4 rfl ?_
      refine aw_bipush (pc := 32) C (v := 26) dX0_placeOfLayer_32 rfl ?_
      refine aw_imul (pc := 34) C dX0_placeOfLayer_34 ?_
      refine aw_iload_n (pc := 35) C dX0_placeOfLayer_35 rfl 1 rfl ?_
      refine aw_iadd (pc := 36) C dX0_placeOfLayer_36 ?_
      obtain ⟨q2, hq1, h⟩ := bi_some h
      refine aw_Vi (pc := 37) (a := (a0 + 14)) (Bs := [.int (v6 - v6 / 3 * 3), .int ((v5 * 26) + v2)]) C (ok_X1_ofSort C.tr (isFL ha0) hq1) kv_X1_ofSort q255 (kdL_ (isFL ha0)) rfl rfl rfl dX0_placeOfLayer_37 ⟨(show 1 ≤ 1 by decide), (show 22 ≤ 31 by decide)⟩ ⟨Nat.zero_le _, Nat.zero_le _⟩ [] (Nat.le_of_ble_eq_true rfl) rfl ?_
      refine aw_if_eq (pc := 40) C 55 dX0_placeOfLayer_40 rfl (fun hc => ?_) (fun hc => ?_)
      · replace h := ite_T h hc
        refine aw_sub [0, 1, 2, 3, 4, 5] rfl ?_
        exact ok_X0_placeOfLayer_j55 C hex ha0 hk9 h
      · replace h := ite_F h hc
        refine aw_iload (pc := 43) C dX0_placeOfLayer_43 3 rfl ?_
        refine aw_iload_n (pc := 45) C dX0_placeOfLayer_45 rfl 2 rfl ?_
        refine aw_icmp_ne (pc := 46) C 52 dX0_placeOfLayer_46 rfl (fun hc => ?_) (fun hc => ?_)
        · replace h := ite_F h hc
          refine aw_iinc (pc := 52) C (v := (v4 + 1)) (lv' := [(4, .int (v4 + 1)), (0, .ref (ad a0)), (2, .int v2), (3, .int v3), (5, .int v5), (6, .int v6)]) dX0_placeOfLayer_52 3 rfl (by decide) rfl rfl ?_
          refine aw_sub [1, 2, 3, 0, 4, 5] rfl ?_
          exact ok_X0_placeOfLayer_j55 C hex ha0 hk9 h
        · replace h := ite_T h hc
          refine aw_iload (pc := 49) C dX0_placeOfLayer_49 5 rfl ?_
          cases h
          exact aw_iret (pc := 51) C dX0_placeOfLayer_51
theorem ok_X0_placeOfLayer_l9_w {l : Launch} {p : Program} {e : Env} {s : State} {m : MethodId} {args : Array Value} {below : List Frame} {meth : Method} {c : Code} {D : va_G} {cI cL : ClassId} {ad : Nat → Nat} (C : CX p l s m args meth c RX0 cX0_placeOfLayer 7 (some .int) D cI cL (AA ad s.heap.size)) (hex : ∀ x ∈ c.exceptionTable.toList, False) {r : Int32} {a0 : Nat} {v1 : Int32} {v2 : Int32} {v3 : Int32} {μ : Mm} (ha0 : isF a0) : ∀ (n : Nat) (v4 : Int32) (v5 : Int32) (v6 : Int32) , itr (X0_placeOfLayer_l9 a0 v1 v2 v3 μ) (fun _ _ _ => none) n v4 v5 v6 = some r → AV l p e s m args below meth c D cI cL ad 1 7 (.inr (some (.int r))) μ 9 [(0, .ref (ad a0)), (2, .int v2), (3, .int v3), (4, .int v4), (5, .int v5), (6, .int v6)] [] μ := by
  intro n
  induction n with
  | zero => intro v4 v5 v6 h; exact nomatch (show (none : Option Int32) = some r from h)
  | succ n ih => intro v4 v5 v6 h; exact ok_X0_placeOfLayer_l9 C hex (a0 := a0) (v1 := v1) (v2 := v2) (v3 := v3) (μ := μ) ha0 ih h
theorem ok_X0_placeOfLayer {l : Launch} (htr : l.stackTraces = false) {a0 : Nat} {v1 : Int32} {v2 : Int32} {v3 : Int32} {μ : Mm} {r : Int32} (ha0 : isF a0) (h : X0_placeOfLayer a0 v1 v2 v3 μ = some r) : MetX l yX0_placeOfLayer cX0_placeOfLayer 7 (some .int) 1 (fun ad => [.ref (ad a0), .int v1, .int v2, .int v3]) μ (.inr (some (.int r))) μ := by
  refine MetX.of htr (by decide) rfl (fun ad => Nat.le_of_ble_eq_true rfl) (fun p e s m args below meth c D cI cL ad C hex hw => ?_)
  show AV l p e s m args below meth c D cI cL ad 1 7 (.inr (some (.int r))) μ 0 [(0, .ref (ad a0)), (1, .int v1), (2, .int v2), (3, .int v3)] [] μ
  unfold X0_placeOfLayer at h
  refine aw_iconst (pc := 0) C (v := 0) dX0_placeOfLayer_0 rfl ?_
  refine aw_istore (pc := 1) C (x := 0) (lv' := [(4, .int 0), (0, .ref (ad a0)), (1, .int v1), (2, .int v2), (3, .int v3)]) dX0_placeOfLayer_1 (by decide) rfl rfl ?_
  refine aw_iload_n (pc := 3) C dX0_placeOfLayer_3 rfl 2 rfl ?_
  refine aw_istore (pc := 4) C (x := v1) (lv' := [(5, .int v1), (4, .int 0), (0, .ref (ad a0)), (1, .int v1), (2, .int v2), (3, .int v3)]) dX0_placeOfLayer_4 (by decide) rfl rfl ?_
  refine aw_iconst (pc := 6) C (v := 0) dX0_placeOfLayer_6 rfl ?_
  refine aw_istore (pc := 7) C (x := 0) (lv' := [(6, .int 0), (5, .int v1), (4, .int 0), (0, .ref (ad a0)), (1, .int v1), (2, .int v2), (3, .int v3)]) dX0_placeOfLayer_7 (by decide) rfl rfl ?_
  refine aw_sub [3, 5, 6, 2, 1, 0] rfl ?_
  exact ok_X0_placeOfLayer_l9_w C hex ha0 big 0 v1 0 h
/-! ### NameScopes$Facts.putDeclaration(III)I -/
theorem ok_X0_putDeclaration {l : Launch} (htr : l.stackTraces = false) {a0 : Nat} {v1 : Int32} {v2 : Int32} {v3 : Int32} {μ : Mm} {r : (Int32 × Mm)} (ha0 : isF a0) (h : X0_putDeclaration a0 v1 v2 v3 μ = some r) : MetX l yX0_putDeclaration cX0_putDeclaration 4 (some .int) 0 (fun ad => [.ref (ad a0), .int v1, .int v2, .int v3]) μ (.inr (some (.int r.1))) r.2 := by
  refine MetX.of htr (by decide) rfl (fun ad => Nat.le_of_ble_eq_true rfl) (fun p e s m args below meth c D cI cL ad C hex hw => ?_)
  show AV l p e s m args below meth c D cI cL ad 0 4 (.inr (some (.int r.1))) r.2 0 [(0, .ref (ad a0)), (1, .int v1), (2, .int v2), (3, .int v3)] [] μ
  unfold X0_putDeclaration at h
  refine aw_aload_n (pc := 0) C dX0_putDeclaration_0 rfl 0 rfl ?_
  refine aw_get (pc := 1) C (a := a0) (k := 3) (v := .ref (ad (a0 + 2))) inX0 (kdF ha0) rfl (by decide) q83 dX0_putDeclaration_1 rfl ?_
  refine aw_aload_n (pc := 4) C dX0_putDeclaration_4 rfl 0 rfl ?_
  refine aw_get (pc := 5) C (a := a0) (k := 2) (v := .int (μ.1 a0 2)) inX0 (kdF ha0) rfl (by decide) q80 dX0_putDeclaration_5 rfl ?_
  refine aw_iload_n (pc := 8) C dX0_putDeclaration_8 rfl 1 rfl ?_
  obtain ⟨g1, h⟩ := ck_some h
  obtain ⟨μ2, eμ2, h⟩ := bd_some h
  refine aw_iastore (pc := 9) C (a := (a0 + 2)) ((kdFk (k := 2) ha0 rfl rfl)) g1 dX0_putDeclaration_9 eμ2 ?_
  refine aw_aload_n (pc := 10) C dX0_putDeclaration_10 rfl 0 rfl ?_
  refine aw_get (pc := 11) C (a := a0) (k := 4) (v := .ref (ad (a0 + 3))) inX0 (kdF ha0) rfl (by decide) q86 dX0_putDeclaration_11 rfl ?_
  refine aw_aload_n (pc := 14) C dX0_putDeclaration_14 rfl 0 rfl ?_
  refine aw_get (pc := 15) C (a := a0) (k := 2) (v := .int (μ2.1 a0 2)) inX0 (kdF ha0) rfl (by decide) q80 dX0_putDeclaration_15 rfl ?_
  refine aw_iload_n (pc := 18) C dX0_putDeclaration_18 rfl 2 rfl ?_
  obtain ⟨g3, h⟩ := ck_some h
  obtain ⟨μ4, eμ4, h⟩ := bd_some h
  refine aw_iastore (pc := 19) C (a := (a0 + 3)) ((kdFk (k := 3) ha0 rfl rfl)) g3 dX0_putDeclaration_19 eμ4 ?_
  refine aw_aload_n (pc := 20) C dX0_putDeclaration_20 rfl 0 rfl ?_
  refine aw_get (pc := 21) C (a := a0) (k := 5) (v := .ref (ad (a0 + 4))) inX0 (kdF ha0) rfl (by decide) q89 dX0_putDeclaration_21 rfl ?_
  refine aw_aload_n (pc := 24) C dX0_putDeclaration_24 rfl 0 rfl ?_
  refine aw_get (pc := 25) C (a := a0) (k := 2) (v := .int (μ4.1 a0 2)) inX0 (kdF ha0) rfl (by decide) q80 dX0_putDeclaration_25 rfl ?_
  refine aw_iload_n (pc := 28) C dX0_putDeclaration_28 rfl 3 rfl ?_
  obtain ⟨g5, h⟩ := ck_some h
  obtain ⟨μ6, eμ6, h⟩ := bd_some h
  refine aw_iastore (pc := 29) C (a := (a0 + 4)) ((kdFk (k := 4) ha0 rfl rfl)) g5 dX0_putDeclaration_29 eμ6 ?_
  refine aw_aload_n (pc := 30) C dX0_putDeclaration_30 rfl 0 rfl ?_
  refine aw_dup (pc := 31) C dX0_putDeclaration_31 rfl ?_
  refine aw_get (pc := 32) C (a := a0) (k := 2) (v := .int (μ6.1 a0 2)) inX0 (kdF ha0) rfl (by decide) q80 dX0_putDeclaration_32 rfl ?_
  refine aw_dup_x1 (pc := 35) C dX0_putDeclaration_35 rfl rfl ?_
  refine aw_iconst (pc := 36) C (v := 1) dX0_putDeclaration_36 rfl ?_
  refine aw_iadd (pc := 37) C dX0_putDeclaration_37 ?_
  obtain ⟨μ7, eμ7, h⟩ := bd_some h
  refine aw_putI (pc := 38) C (a := a0) (k := 2) (ty := .int) inX0 tyX0 tyX0_ok nmX0 (kdF ha0) rfl (by decide) q80 rfl (by decide +kernel) rfl rfl (by show 2 < 18; decide) dX0_putDeclaration_38 fl_0_2 eμ7 ?_
  cases h
  exact aw_iret (pc := 41) C dX0_putDeclaration_41
/-! ### NameScopes$Facts.putImport(IIIIII)I -/
theorem ok_X0_putImport {l : Launch} (htr : l.stackTraces = false) {a0 : Nat} {v1 : Int32} {v2 : Int32} {v3 : Int32} {v4 : Int32} {v5 : Int32} {v6 : Int32} {μ : Mm} {r : (Int32 × Mm)} (ha0 : isF a0) (h : X0_putImport a0 v1 v2 v3 v4 v5 v6 μ = some r) : MetX l yX0_putImport cX0_putImport 7 (some .int) 0 (fun ad => [.ref (ad a0), .int v1, .int v2, .int v3, .int v4, .int v5, .int v6]) μ (.inr (some (.int r.1))) r.2 := by
  refine MetX.of htr (by decide) rfl (fun ad => Nat.le_of_ble_eq_true rfl) (fun p e s m args below meth c D cI cL ad C hex hw => ?_)
  show AV l p e s m args below meth c D cI cL ad 0 7 (.inr (some (.int r.1))) r.2 0 [(0, .ref (ad a0)), (1, .int v1), (2, .int v2), (3, .int v3), (4, .int v4), (5, .int v5), (6, .int v6)] [] μ
  unfold X0_putImport at h
  refine aw_aload_n (pc := 0) C dX0_putImport_0 rfl 0 rfl ?_
  refine aw_get (pc := 1) C (a := a0) (k := 7) (v := .ref (ad (a0 + 5))) inX0 (kdF ha0) rfl (by decide) q95 dX0_putImport_1 rfl ?_
  refine aw_aload_n (pc := 4) C dX0_putImport_4 rfl 0 rfl ?_
  refine aw_get (pc := 5) C (a := a0) (k := 6) (v := .int (μ.1 a0 6)) inX0 (kdF ha0) rfl (by decide) q92 dX0_putImport_5 rfl ?_
  refine aw_iload_n (pc := 8) C dX0_putImport_8 rfl 1 rfl ?_
  obtain ⟨g1, h⟩ := ck_some h
  obtain ⟨μ2, eμ2, h⟩ := bd_some h
  refine aw_iastore (pc := 9) C (a := (a0 + 5)) ((kdFk (k := 5) ha0 rfl rfl)) g1 dX0_putImport_9 eμ2 ?_
  refine aw_aload_n (pc := 10) C dX0_putImport_10 rfl 0 rfl ?_
  refine aw_get (pc := 11) C (a := a0) (k := 8) (v := .ref (ad (a0 + 6))) inX0 (kdF ha0) rfl (by decide) q98 dX0_putImport_11 rfl ?_
  refine aw_aload_n (pc := 14) C dX0_putImport_14 rfl 0 rfl ?_
  refine aw_get (pc := 15) C (a := a0) (k := 6) (v := .int (μ2.1 a0 6)) inX0 (kdF ha0) rfl (by decide) q92 dX0_putImport_15 rfl ?_
  refine aw_iload_n (pc := 18) C dX0_putImport_18 rfl 2 rfl ?_
  obtain ⟨g3, h⟩ := ck_some h
  obtain ⟨μ4, eμ4, h⟩ := bd_some h
  refine aw_iastore (pc := 19) C (a := (a0 + 6)) ((kdFk (k := 6) ha0 rfl rfl)) g3 dX0_putImport_19 eμ4 ?_
  refine aw_aload_n (pc := 20) C dX0_putImport_20 rfl 0 rfl ?_
  refine aw_get (pc := 21) C (a := a0) (k := 9) (v := .ref (ad (a0 + 7))) inX0 (kdF ha0) rfl (by decide) q101 dX0_putImport_21 rfl ?_
  refine aw_aload_n (pc := 24) C dX0_putImport_24 rfl 0 rfl ?_
  refine aw_get (pc := 25) C (a := a0) (k := 6) (v := .int (μ4.1 a0 6)) inX0 (kdF ha0) rfl (by decide) q92 dX0_putImport_25 rfl ?_
  refine aw_iload_n (pc := 28) C dX0_putImport_28 rfl 3 rfl ?_
  obtain ⟨g5, h⟩ := ck_some h
  obtain ⟨μ6, eμ6, h⟩ := bd_some h
  refine aw_iastore (pc := 29) C (a := (a0 + 7)) ((kdFk (k := 7) ha0 rfl rfl)) g5 dX0_putImport_29 eμ6 ?_
  refine aw_aload_n (pc := 30) C dX0_putImport_30 rfl 0 rfl ?_
  refine aw_get (pc := 31) C (a := a0) (k := 10) (v := .ref (ad (a0 + 8))) inX0 (kdF ha0) rfl (by decide) q104 dX0_putImport_31 rfl ?_
  refine aw_aload_n (pc := 34) C dX0_putImport_34 rfl 0 rfl ?_
  refine aw_get (pc := 35) C (a := a0) (k := 6) (v := .int (μ6.1 a0 6)) inX0 (kdF ha0) rfl (by decide) q92 dX0_putImport_35 rfl ?_
  refine aw_iload (pc := 38) C dX0_putImport_38 4 rfl ?_
  obtain ⟨g7, h⟩ := ck_some h
  obtain ⟨μ8, eμ8, h⟩ := bd_some h
  refine aw_iastore (pc := 40) C (a := (a0 + 8)) ((kdFk (k := 8) ha0 rfl rfl)) g7 dX0_putImport_40 eμ8 ?_
  refine aw_aload_n (pc := 41) C dX0_putImport_41 rfl 0 rfl ?_
  refine aw_get (pc := 42) C (a := a0) (k := 11) (v := .ref (ad (a0 + 9))) inX0 (kdF ha0) rfl (by decide) q107 dX0_putImport_42 rfl ?_
  refine aw_aload_n (pc := 45) C dX0_putImport_45 rfl 0 rfl ?_
  refine aw_get (pc := 46) C (a := a0) (k := 6) (v := .int (μ8.1 a0 6)) inX0 (kdF ha0) rfl (by decide) q92 dX0_putImport_46 rfl ?_
  refine aw_iload (pc := 49) C dX0_putImport_49 5 rfl ?_
  obtain ⟨g9, h⟩ := ck_some h
  obtain ⟨μ10, eμ10, h⟩ := bd_some h
  refine aw_iastore (pc := 51) C (a := (a0 + 9)) ((kdFk (k := 9) ha0 rfl rfl)) g9 dX0_putImport_51 eμ10 ?_
  refine aw_aload_n (pc := 52) C dX0_putImport_52 rfl 0 rfl ?_
  refine aw_get (pc := 53) C (a := a0) (k := 12) (v := .ref (ad (a0 + 10))) inX0 (kdF ha0) rfl (by decide) q110 dX0_putImport_53 rfl ?_
  refine aw_aload_n (pc := 56) C dX0_putImport_56 rfl 0 rfl ?_
  refine aw_get (pc := 57) C (a := a0) (k := 6) (v := .int (μ10.1 a0 6)) inX0 (kdF ha0) rfl (by decide) q92 dX0_putImport_57 rfl ?_
  refine aw_iload (pc := 60) C dX0_putImport_60 6 rfl ?_
  obtain ⟨g11, h⟩ := ck_some h
  obtain ⟨μ12, eμ12, h⟩ := bd_some h
  refine aw_iastore (pc := 62) C (a := (a0 + 10)) ((kdFk (k := 10) ha0 rfl rfl)) g11 dX0_putImport_62 eμ12 ?_
  refine aw_aload_n (pc := 63) C dX0_putImport_63 rfl 0 rfl ?_
  refine aw_dup (pc := 64) C dX0_putImport_64 rfl ?_
  refine aw_get (pc := 65) C (a := a0) (k := 6) (v := .int (μ12.1 a0 6)) inX0 (kdF ha0) rfl (by decide) q92 dX0_putImport_65 rfl ?_
  refine aw_dup_x1 (pc := 68) C dX0_putImport_68 rfl rfl ?_
  refine aw_iconst (pc := 69) C (v := 1) dX0_putImport_69 rfl ?_
  refine aw_iadd (pc := 70) C dX0_putImport_70 ?_
  obtain ⟨μ13, eμ13, h⟩ := bd_some h
  refine aw_putI (pc := 71) C (a := a0) (k := 6) (ty := .int) inX0 tyX0 tyX0_ok nmX0 (kdF ha0) rfl (by decide) q92 rfl (by decide +kernel) rfl rfl (by show 6 < 18; decide) dX0_putImport_71 fl_0_6 eμ13 ?_
  cases h
  exact aw_iret (pc := 74) C dX0_putImport_74
/-! ### NameScopes$Facts.putScope(I)I -/
theorem ok_X0_putScope {l : Launch} (htr : l.stackTraces = false) {a0 : Nat} {v1 : Int32} {μ : Mm} {r : (Int32 × Mm)} (ha0 : isF a0) (h : X0_putScope a0 v1 μ = some r) : MetX l yX0_putScope cX0_putScope 2 (some .int) 0 (fun ad => [.ref (ad a0), .int v1]) μ (.inr (some (.int r.1))) r.2 := by
  refine MetX.of htr (by decide) rfl (fun ad => Nat.le_of_ble_eq_true rfl) (fun p e s m args below meth c D cI cL ad C hex hw => ?_)
  show AV l p e s m args below meth c D cI cL ad 0 2 (.inr (some (.int r.1))) r.2 0 [(0, .ref (ad a0)), (1, .int v1)] [] μ
  unfold X0_putScope at h
  refine aw_aload_n (pc := 0) C dX0_putScope_0 rfl 0 rfl ?_
  refine aw_get (pc := 1) C (a := a0) (k := 1) (v := .ref (ad (a0 + 1))) inX0 (kdF ha0) rfl (by decide) q78 dX0_putScope_1 rfl ?_
  refine aw_aload_n (pc := 4) C dX0_putScope_4 rfl 0 rfl ?_
  refine aw_get (pc := 5) C (a := a0) (k := 0) (v := .int (μ.1 a0 0)) inX0 (kdF ha0) rfl (by decide) q76 dX0_putScope_5 rfl ?_
  refine aw_iload_n (pc := 8) C dX0_putScope_8 rfl 1 rfl ?_
  obtain ⟨g1, h⟩ := ck_some h
  obtain ⟨μ2, eμ2, h⟩ := bd_some h
  refine aw_iastore (pc := 9) C (a := (a0 + 1)) ((kdFk (k := 1) ha0 rfl rfl)) g1 dX0_putScope_9 eμ2 ?_
  refine aw_aload_n (pc := 10) C dX0_putScope_10 rfl 0 rfl ?_
  refine aw_dup (pc := 11) C dX0_putScope_11 rfl ?_
  refine aw_get (pc := 12) C (a := a0) (k := 0) (v := .int (μ2.1 a0 0)) inX0 (kdF ha0) rfl (by decide) q76 dX0_putScope_12 rfl ?_
  refine aw_dup_x1 (pc := 15) C dX0_putScope_15 rfl rfl ?_
  refine aw_iconst (pc := 16) C (v := 1) dX0_putScope_16 rfl ?_
  refine aw_iadd (pc := 17) C dX0_putScope_17 ?_
  obtain ⟨μ3, eμ3, h⟩ := bd_some h
  refine aw_putI (pc := 18) C (a := a0) (k := 0) (ty := .int) inX0 tyX0 tyX0_ok nmX0 (kdF ha0) rfl (by decide) q76 rfl (by decide +kernel) rfl rfl (by show 0 < 18; decide) dX0_putScope_18 fl_0_0 eμ3 ?_
  cases h
  exact aw_iret (pc := 21) C dX0_putScope_21
/-! ### NameScopes$Facts.putUse(II)I -/
theorem ok_X0_putUse {l : Launch} (htr : l.stackTraces = false) {a0 : Nat} {v1 : Int32} {v2 : Int32} {μ : Mm} {r : (Int32 × Mm)} (ha0 : isF a0) (h : X0_putUse a0 v1 v2 μ = some r) : MetX l yX0_putUse cX0_putUse 3 (some .int) 0 (fun ad => [.ref (ad a0), .int v1, .int v2]) μ (.inr (some (.int r.1))) r.2 := by
  refine MetX.of htr (by decide) rfl (fun ad => Nat.le_of_ble_eq_true rfl) (fun p e s m args below meth c D cI cL ad C hex hw => ?_)
  show AV l p e s m args below meth c D cI cL ad 0 3 (.inr (some (.int r.1))) r.2 0 [(0, .ref (ad a0)), (1, .int v1), (2, .int v2)] [] μ
  unfold X0_putUse at h
  refine aw_aload_n (pc := 0) C dX0_putUse_0 rfl 0 rfl ?_
  refine aw_get (pc := 1) C (a := a0) (k := 14) (v := .ref (ad (a0 + 11))) inX0 (kdF ha0) rfl (by decide) q115 dX0_putUse_1 rfl ?_
  refine aw_aload_n (pc := 4) C dX0_putUse_4 rfl 0 rfl ?_
  refine aw_get (pc := 5) C (a := a0) (k := 13) (v := .int (μ.1 a0 13)) inX0 (kdF ha0) rfl (by decide) q113 dX0_putUse_5 rfl ?_
  refine aw_iload_n (pc := 8) C dX0_putUse_8 rfl 1 rfl ?_
  obtain ⟨g1, h⟩ := ck_some h
  obtain ⟨μ2, eμ2, h⟩ := bd_some h
  refine aw_iastore (pc := 9) C (a := (a0 + 11)) ((kdFk (k := 11) ha0 rfl rfl)) g1 dX0_putUse_9 eμ2 ?_
  refine aw_aload_n (pc := 10) C dX0_putUse_10 rfl 0 rfl ?_
  refine aw_get (pc := 11) C (a := a0) (k := 15) (v := .ref (ad (a0 + 12))) inX0 (kdF ha0) rfl (by decide) q117 dX0_putUse_11 rfl ?_
  refine aw_aload_n (pc := 14) C dX0_putUse_14 rfl 0 rfl ?_
  refine aw_get (pc := 15) C (a := a0) (k := 13) (v := .int (μ2.1 a0 13)) inX0 (kdF ha0) rfl (by decide) q113 dX0_putUse_15 rfl ?_
  refine aw_iload_n (pc := 18) C dX0_putUse_18 rfl 2 rfl ?_
  obtain ⟨g3, h⟩ := ck_some h
  obtain ⟨μ4, eμ4, h⟩ := bd_some h
  refine aw_iastore (pc := 19) C (a := (a0 + 12)) ((kdFk (k := 12) ha0 rfl rfl)) g3 dX0_putUse_19 eμ4 ?_
  refine aw_aload_n (pc := 20) C dX0_putUse_20 rfl 0 rfl ?_
  refine aw_dup (pc := 21) C dX0_putUse_21 rfl ?_
  refine aw_get (pc := 22) C (a := a0) (k := 13) (v := .int (μ4.1 a0 13)) inX0 (kdF ha0) rfl (by decide) q113 dX0_putUse_22 rfl ?_
  refine aw_dup_x1 (pc := 25) C dX0_putUse_25 rfl rfl ?_
  refine aw_iconst (pc := 26) C (v := 1) dX0_putUse_26 rfl ?_
  refine aw_iadd (pc := 27) C dX0_putUse_27 ?_
  obtain ⟨μ5, eμ5, h⟩ := bd_some h
  refine aw_putI (pc := 28) C (a := a0) (k := 13) (ty := .int) inX0 tyX0 tyX0_ok nmX0 (kdF ha0) rfl (by decide) q113 rfl (by decide +kernel) rfl rfl (by show 13 < 18; decide) dX0_putUse_28 fl_0_13 eμ5 ?_
  cases h
  exact aw_iret (pc := 31) C dX0_putUse_31
/-! ### NameScopes.isName(I)Z -/
theorem ok_X3_isName {l : Launch} (htr : l.stackTraces = false) {v0 : Int32} {μ : Mm} {r : Int32}  (h : X3_isName v0 = some r) : MetX l yX3_isName cX3_isName 1 (some .boolean) 0 (fun ad => [.int v0]) μ (.inr (some (.int r))) μ := by
  refine MetX.of htr (by decide) rfl (fun ad => Nat.le_of_ble_eq_true rfl) (fun p e s m args below meth c D cI cL ad C hex hw => ?_)
  show AV l p e s m args below meth c D cI cL ad 0 1 (.inr (some (.int r))) μ 0 [(0, .int v0)] [] μ
  unfold X3_isName at h
  refine aw_iload_n (pc := 0) C dX3_isName_0 rfl 0 rfl ?_
  have kJ : AV l p e s m args below meth c D cI cL ad 0 1 (.inr (some (.int r))) μ 15 [(0, .int v0)] [.int (if v0 < 0 then (0 : Int32) else (if 26 ≤ v0 then (0 : Int32) else 1))] μ := by
    cases h
    exact aw_zret (pc := 15) C (b01_nar (b01_ite b01_0 (b01_ite b01_0 b01_1))) dX3_isName_15
  refine aw_if_lt (pc := 1) C 14 dX3_isName_1 rfl (fun hd1 => ?_) (fun hd1 => ?_)
  · refine aw_iconst (pc := 14) C (v := 0) dX3_isName_14 rfl ?_
    rw [if_pos hd1] at kJ
    exact kJ
  · refine aw_iload_n (pc := 4) C dX3_isName_4 rfl 0 rfl ?_
    refine aw_bipush (pc := 5) C (v := 26) dX3_isName_5 rfl ?_
    refine aw_icmp_ge (pc := 7) C 14 dX3_isName_7 rfl (fun hd2 => ?_) (fun hd2 => ?_)
    · refine aw_iconst (pc := 14) C (v := 0) dX3_isName_14 rfl ?_
      rw [if_neg hd1, if_pos hd2] at kJ
      exact kJ
    · refine aw_iconst (pc := 10) C (v := 1) dX3_isName_10 rfl ?_
      refine aw_goto (pc := 11) C 15 dX3_isName_11 rfl ?_
      rw [if_neg hd1, if_neg hd2] at kJ
      exact kJ
/-! ### NameScopes$Facts.refusalOfDeclaration(II)I -/
theorem ok_X0_refusalOfDeclaration {l : Launch} (htr : l.stackTraces = false) {a0 : Nat} {v1 : Int32} {v2 : Int32} {μ : Mm} {r : Int32} (ha0 : isF a0) (h : X0_refusalOfDeclaration a0 v1 v2 μ = some r) : MetX l yX0_refusalOfDeclaration cX0_refusalOfDeclaration 3 (some .int) 1 (fun ad => [.ref (ad a0), .int v1, .int v2]) μ (.inr (some (.int r))) μ := by
  refine MetX.of htr (by decide) rfl (fun ad => Nat.le_of_ble_eq_true rfl) (fun p e s m args below meth c D cI cL ad C hex hw => ?_)
  show AV l p e s m args below meth c D cI cL ad 1 3 (.inr (some (.int r))) μ 0 [(0, .ref (ad a0)), (1, .int v1), (2, .int v2)] [] μ
  unfold X0_refusalOfDeclaration at h
  refine aw_aload_n (pc := 0) C dX0_refusalOfDeclaration_0 rfl 0 rfl ?_
  refine aw_iload_n (pc := 1) C dX0_refusalOfDeclaration_1 rfl 1 rfl ?_
  obtain ⟨q2, hq1, h⟩ := bi_some h
  refine aw_Vi (pc := 2) (a := a0) (Bs := [.int v1]) C (ok_X0_hasScope C.tr ha0 hq1) kv_X0_hasScope q461 (kdF ha0) rfl rfl rfl dX0_refusalOfDeclaration_2 ⟨(show 1 ≤ 1 by decide), (show 21 ≤ 31 by decide)⟩ ⟨Nat.zero_le _, Nat.zero_le _⟩ [] (Nat.le_of_ble_eq_true rfl) rfl ?_
  refine aw_if_ne (pc := 5) C 10 dX0_refusalOfDeclaration_5 rfl (fun hc => ?_) (fun hc => ?_)
  · replace h := ite_F h hc
    refine aw_iload_n (pc := 10) C dX0_refusalOfDeclaration_10 rfl 2 rfl ?_
    obtain ⟨q4, hq3, h⟩ := bi_some h
    refine aw_SNi (pc := 11) (Bs := [.int v2]) C (ok_X3_isName C.tr hq3) kv_X3_isName q502 rfl rfl dX0_refusalOfDeclaration_11 ⟨(show 1 ≤ 1 by decide), (show 20 ≤ 31 by decide)⟩ ⟨Nat.zero_le _, Nat.zero_le _⟩ [] (Nat.le_of_ble_eq_true rfl) rfl ?_
    refine aw_if_eq (pc := 14) C 26 dX0_refusalOfDeclaration_14 rfl (fun hc => ?_) (fun hc => ?_)
    · replace h := ite_T h hc
      refine aw_iconst (pc := 26) C (v := 2) dX0_refusalOfDeclaration_26 rfl ?_
      cases h
      exact aw_iret (pc := 27) C dX0_refusalOfDeclaration_27
    · replace h := ite_F h hc
      refine aw_aload_n (pc := 17) C dX0_refusalOfDeclaration_17 rfl 0 rfl ?_
      refine aw_iload_n (pc := 18) C dX0_refusalOfDeclaration_18 rfl 1 rfl ?_
      refine aw_iload_n (pc := 19) C dX0_refusalOfDeclaration_19 rfl 2 rfl ?_
      obtain ⟨q6, hq5, h⟩ := bi_some h
      refine aw_Vi (pc := 20) (a := a0) (Bs := [.int v1, .int v2]) C (ok_X0_declares C.tr ha0 hq5) kv_X0_declares q505 (kdF ha0) rfl rfl rfl dX0_refusalOfDeclaration_20 ⟨(show 1 ≤ 1 by decide), (show 23 ≤ 31 by decide)⟩ ⟨Nat.zero_le _, Nat.zero_le _⟩ [] (Nat.le_of_ble_eq_true rfl) rfl ?_
      refine aw_if_eq (pc := 23) C 28 dX0_refusalOfDeclaration_23 rfl (fun hc => ?_) (fun hc => ?_)
      · replace h := ite_T h hc
        refine aw_aload_n (pc := 28) C dX0_refusalOfDeclaration_28 rfl 0 rfl ?_
        refine aw_get (pc := 29) C (a := a0) (k := 2) (v := .int (μ.1 a0 2)) inX0 (kdF ha0) rfl (by decide) q80 dX0_refusalOfDeclaration_29 rfl ?_
        refine aw_bipush (pc := 32) C (v := 30) dX0_refusalOfDeclaration_32 rfl ?_
        have kJ : AV l p e s m args below meth c D cI cL ad 1 3 (.inr (some (.int r))) μ 42 [(0, .ref (ad a0)), (1, .int v1), (2, .int v2)] [.int (if (μ.1 a0 2) < 30 then (0 : Int32) else 3)] μ := by
          cases h
          exact aw_iret (pc := 42) C dX0_refusalOfDeclaration_42
        refine aw_icmp_lt (pc := 34) C 41 dX0_refusalOfDeclaration_34 rfl (fun hd1 => ?_) (fun hd1 => ?_)
        · refine aw_iconst (pc := 41) C (v := 0) dX0_refusalOfDeclaration_41 rfl ?_
          rw [if_pos hd1] at kJ
          exact kJ
        · refine aw_iconst (pc := 37) C (v := 3) dX0_refusalOfDeclaration_37 rfl ?_
          refine aw_goto (pc := 38) C 42 dX0_refusalOfDeclaration_38 rfl ?_
          rw [if_neg hd1] at kJ
          exact kJ
      · replace h := ite_F h hc
        refine aw_iconst (pc := 26) C (v := 2) dX0_refusalOfDeclaration_26 rfl ?_
        cases h
        exact aw_iret (pc := 27) C dX0_refusalOfDeclaration_27
  · replace h := ite_T h hc
    refine aw_iconst (pc := 8) C (v := 1) dX0_refusalOfDeclaration_8 rfl ?_
    cases h
    exact aw_iret (pc := 9) C dX0_refusalOfDeclaration_9
/-! ### NameScopes$Facts.refusalOfImport(IIZ)I -/
theorem ok_X0_refusalOfImport {l : Launch} (htr : l.stackTraces = false) {a0 : Nat} {v1 : Int32} {v2 : Int32} {v3 : Int32} {μ : Mm} {r : Int32} (ha0 : isF a0) (h : X0_refusalOfImport a0 v1 v2 v3 μ = some r) : MetX l yX0_refusalOfImport cX0_refusalOfImport 4 (some .int) 1 (fun ad => [.ref (ad a0), .int v1, .int v2, .int v3]) μ (.inr (some (.int r))) μ := by
  refine MetX.of htr (by decide) rfl (fun ad => Nat.le_of_ble_eq_true rfl) (fun p e s m args below meth c D cI cL ad C hex hw => ?_)
  show AV l p e s m args below meth c D cI cL ad 1 4 (.inr (some (.int r))) μ 0 [(0, .ref (ad a0)), (1, .int v1), (2, .int v2), (3, .int v3)] [] μ
  unfold X0_refusalOfImport at h
  refine aw_aload_n (pc := 0) C dX0_refusalOfImport_0 rfl 0 rfl ?_
  refine aw_iload_n (pc := 1) C dX0_refusalOfImport_1 rfl 1 rfl ?_
  obtain ⟨q2, hq1, h⟩ := bi_some h
  refine aw_Vi (pc := 2) (a := a0) (Bs := [.int v1]) C (ok_X0_hasScope C.tr ha0 hq1) kv_X0_hasScope q461 (kdF ha0) rfl rfl rfl dX0_refusalOfImport_2 ⟨(show 1 ≤ 1 by decide), (show 21 ≤ 31 by decide)⟩ ⟨Nat.zero_le _, Nat.zero_le _⟩ [] (Nat.le_of_ble_eq_true rfl) rfl ?_
  refine aw_if_eq (pc := 5) C 16 dX0_refusalOfImport_5 rfl (fun hc => ?_) (fun hc => ?_)
  · replace h := ite_T h hc
    refine aw_iconst (pc := 16) C (v := 1) dX0_refusalOfImport_16 rfl ?_
    cases h
    exact aw_iret (pc := 17) C dX0_refusalOfImport_17
  · replace h := ite_F h hc
    refine aw_aload_n (pc := 8) C dX0_refusalOfImport_8 rfl 0 rfl ?_
    refine aw_iload_n (pc := 9) C dX0_refusalOfImport_9 rfl 2 rfl ?_
    obtain ⟨q4, hq3, h⟩ := bi_some h
    refine aw_Vi (pc := 10) (a := a0) (Bs := [.int v2]) C (ok_X0_hasScope C.tr ha0 hq3) kv_X0_hasScope q461 (kdF ha0) rfl rfl rfl dX0_refusalOfImport_10 ⟨(show 1 ≤ 1 by decide), (show 21 ≤ 31 by decide)⟩ ⟨Nat.zero_le _, Nat.zero_le _⟩ [] (Nat.le_of_ble_eq_true rfl) rfl ?_
    refine aw_if_ne (pc := 13) C 18 dX0_refusalOfImport_13 rfl (fun hc => ?_) (fun hc => ?_)
    · replace h := ite_F h hc
      refine aw_iload_n (pc := 18) C dX0_refusalOfImport_18 rfl 1 rfl ?_
      refine aw_iload_n (pc := 19) C dX0_refusalOfImport_19 rfl 2 rfl ?_
      refine aw_icmp_eq (pc := 20) C 27 dX0_refusalOfImport_20 rfl (fun hc => ?_) (fun hc => ?_)
      · replace h := ite_T h hc
        refine aw_iconst (pc := 27) C (v := 2) dX0_refusalOfImport_27 rfl ?_
        cases h
        exact aw_iret (pc := 28) C dX0_refusalOfImport_28
      · replace h := ite_F h hc
        refine aw_iload_n (pc := 23) C dX0_refusalOfImport_23 rfl 3 rfl ?_
        refine aw_if_ne (pc := 24) C 29 dX0_refusalOfImport_24 rfl (fun hc => ?_) (fun hc => ?_)
        · replace h := ite_F h hc
          refine aw_aload_n (pc := 29) C dX0_refusalOfImport_29 rfl 0 rfl ?_
          refine aw_get (pc := 30) C (a := a0) (k := 6) (v := .int (μ.1 a0 6)) inX0 (kdF ha0) rfl (by decide) q92 dX0_refusalOfImport_30 rfl ?_
          refine aw_bipush (pc := 33) C (v := 20) dX0_refusalOfImport_33 rfl ?_
          have kJ : AV l p e s m args below meth c D cI cL ad 1 4 (.inr (some (.int r))) μ 43 [(0, .ref (ad a0)), (1, .int v1), (2, .int v2), (3, .int v3)] [.int (if (μ.1 a0 6) < 20 then (0 : Int32) else 3)] μ := by
            cases h
            exact aw_iret (pc := 43) C dX0_refusalOfImport_43
          refine aw_icmp_lt (pc := 35) C 42 dX0_refusalOfImport_35 rfl (fun hd1 => ?_) (fun hd1 => ?_)
          · refine aw_iconst (pc := 42) C (v := 0) dX0_refusalOfImport_42 rfl ?_
            rw [if_pos hd1] at kJ
            exact kJ
          · refine aw_iconst (pc := 38) C (v := 3) dX0_refusalOfImport_38 rfl ?_
            refine aw_goto (pc := 39) C 43 dX0_refusalOfImport_39 rfl ?_
            rw [if_neg hd1] at kJ
            exact kJ
        · replace h := ite_T h hc
          refine aw_iconst (pc := 27) C (v := 2) dX0_refusalOfImport_27 rfl ?_
          cases h
          exact aw_iret (pc := 28) C dX0_refusalOfImport_28
    · replace h := ite_T h hc
      refine aw_iconst (pc := 16) C (v := 1) dX0_refusalOfImport_16 rfl ?_
      cases h
      exact aw_iret (pc := 17) C dX0_refusalOfImport_17
/-! ### NameScopes$Facts.refusalOfScope(I)I -/
theorem ok_X0_refusalOfScope {l : Launch} (htr : l.stackTraces = false) {a0 : Nat} {v1 : Int32} {μ : Mm} {r : Int32} (ha0 : isF a0) (h : X0_refusalOfScope a0 v1 μ = some r) : MetX l yX0_refusalOfScope cX0_refusalOfScope 2 (some .int) 1 (fun ad => [.ref (ad a0), .int v1]) μ (.inr (some (.int r))) μ := by
  refine MetX.of htr (by decide) rfl (fun ad => Nat.le_of_ble_eq_true rfl) (fun p e s m args below meth c D cI cL ad C hex hw => ?_)
  show AV l p e s m args below meth c D cI cL ad 1 2 (.inr (some (.int r))) μ 0 [(0, .ref (ad a0)), (1, .int v1)] [] μ
  unfold X0_refusalOfScope at h
  refine aw_aload_n (pc := 0) C dX0_refusalOfScope_0 rfl 0 rfl ?_
  refine aw_iload_n (pc := 1) C dX0_refusalOfScope_1 rfl 1 rfl ?_
  obtain ⟨q2, hq1, h⟩ := bi_some h
  refine aw_Vi (pc := 2) (a := a0) (Bs := [.int v1]) C (ok_X0_hasScope C.tr ha0 hq1) kv_X0_hasScope q461 (kdF ha0) rfl rfl rfl dX0_refusalOfScope_2 ⟨(show 1 ≤ 1 by decide), (show 21 ≤ 31 by decide)⟩ ⟨Nat.zero_le _, Nat.zero_le _⟩ [] (Nat.le_of_ble_eq_true rfl) rfl ?_
  refine aw_if_ne (pc := 5) C 10 dX0_refusalOfScope_5 rfl (fun hc => ?_) (fun hc => ?_)
  · replace h := ite_F h hc
    refine aw_aload_n (pc := 10) C dX0_refusalOfScope_10 rfl 0 rfl ?_
    refine aw_get (pc := 11) C (a := a0) (k := 0) (v := .int (μ.1 a0 0)) inX0 (kdF ha0) rfl (by decide) q76 dX0_refusalOfScope_11 rfl ?_
    refine aw_bipush (pc := 14) C (v := 16) dX0_refusalOfScope_14 rfl ?_
    have kJ : AV l p e s m args below meth c D cI cL ad 1 2 (.inr (some (.int r))) μ 24 [(0, .ref (ad a0)), (1, .int v1)] [.int (if (μ.1 a0 0) < 16 then (0 : Int32) else 3)] μ := by
      cases h
      exact aw_iret (pc := 24) C dX0_refusalOfScope_24
    refine aw_icmp_lt (pc := 16) C 23 dX0_refusalOfScope_16 rfl (fun hd1 => ?_) (fun hd1 => ?_)
    · refine aw_iconst (pc := 23) C (v := 0) dX0_refusalOfScope_23 rfl ?_
      rw [if_pos hd1] at kJ
      exact kJ
    · refine aw_iconst (pc := 19) C (v := 3) dX0_refusalOfScope_19 rfl ?_
      refine aw_goto (pc := 20) C 24 dX0_refusalOfScope_20 rfl ?_
      rw [if_neg hd1] at kJ
      exact kJ
  · replace h := ite_T h hc
    refine aw_iconst (pc := 8) C (v := 1) dX0_refusalOfScope_8 rfl ?_
    cases h
    exact aw_iret (pc := 9) C dX0_refusalOfScope_9
/-! ### NameScopes$Facts.refusalOfUse(II)I -/
theorem ok_X0_refusalOfUse {l : Launch} (htr : l.stackTraces = false) {a0 : Nat} {v1 : Int32} {v2 : Int32} {μ : Mm} {r : Int32} (ha0 : isF a0) (h : X0_refusalOfUse a0 v1 v2 μ = some r) : MetX l yX0_refusalOfUse cX0_refusalOfUse 3 (some .int) 1 (fun ad => [.ref (ad a0), .int v1, .int v2]) μ (.inr (some (.int r))) μ := by
  refine MetX.of htr (by decide) rfl (fun ad => Nat.le_of_ble_eq_true rfl) (fun p e s m args below meth c D cI cL ad C hex hw => ?_)
  show AV l p e s m args below meth c D cI cL ad 1 3 (.inr (some (.int r))) μ 0 [(0, .ref (ad a0)), (1, .int v1), (2, .int v2)] [] μ
  unfold X0_refusalOfUse at h
  refine aw_aload_n (pc := 0) C dX0_refusalOfUse_0 rfl 0 rfl ?_
  refine aw_iload_n (pc := 1) C dX0_refusalOfUse_1 rfl 1 rfl ?_
  obtain ⟨q2, hq1, h⟩ := bi_some h
  refine aw_Vi (pc := 2) (a := a0) (Bs := [.int v1]) C (ok_X0_hasScope C.tr ha0 hq1) kv_X0_hasScope q461 (kdF ha0) rfl rfl rfl dX0_refusalOfUse_2 ⟨(show 1 ≤ 1 by decide), (show 21 ≤ 31 by decide)⟩ ⟨Nat.zero_le _, Nat.zero_le _⟩ [] (Nat.le_of_ble_eq_true rfl) rfl ?_
  refine aw_if_ne (pc := 5) C 10 dX0_refusalOfUse_5 rfl (fun hc => ?_) (fun hc => ?_)
  · replace h := ite_F h hc
    refine aw_iload_n (pc := 10) C dX0_refusalOfUse_10 rfl 2 rfl ?_
    obtain ⟨q4, hq3, h⟩ := bi_some h
    refine aw_SNi (pc := 11) (Bs := [.int v2]) C (ok_X3_isName C.tr hq3) kv_X3_isName q502 rfl rfl dX0_refusalOfUse_11 ⟨(show 1 ≤ 1 by decide), (show 20 ≤ 31 by decide)⟩ ⟨Nat.zero_le _, Nat.zero_le _⟩ [] (Nat.le_of_ble_eq_true rfl) rfl ?_
    refine aw_if_ne (pc := 14) C 19 dX0_refusalOfUse_14 rfl (fun hc => ?_) (fun hc => ?_)
    · replace h := ite_F h hc
      refine aw_aload_n (pc := 19) C dX0_refusalOfUse_19 rfl 0 rfl ?_
      refine aw_get (pc := 20) C (a := a0) (k := 13) (v := .int (μ.1 a0 13)) inX0 (kdF ha0) rfl (by decide) q113 dX0_refusalOfUse_20 rfl ?_
      refine aw_bipush (pc := 23) C (v := 30) dX0_refusalOfUse_23 rfl ?_
      have kJ : AV l p e s m args below meth c D cI cL ad 1 3 (.inr (some (.int r))) μ 33 [(0, .ref (ad a0)), (1, .int v1), (2, .int v2)] [.int (if (μ.1 a0 13) < 30 then (0 : Int32) else 3)] μ := by
        cases h
        exact aw_iret (pc := 33) C dX0_refusalOfUse_33
      refine aw_icmp_lt (pc := 25) C 32 dX0_refusalOfUse_25 rfl (fun hd1 => ?_) (fun hd1 => ?_)
      · refine aw_iconst (pc := 32) C (v := 0) dX0_refusalOfUse_32 rfl ?_
        rw [if_pos hd1] at kJ
        exact kJ
      · refine aw_iconst (pc := 28) C (v := 3) dX0_refusalOfUse_28 rfl ?_
        refine aw_goto (pc := 29) C 33 dX0_refusalOfUse_29 rfl ?_
        rw [if_neg hd1] at kJ
        exact kJ
    · replace h := ite_T h hc
      refine aw_iconst (pc := 17) C (v := 2) dX0_refusalOfUse_17 rfl ?_
      cases h
      exact aw_iret (pc := 18) C dX0_refusalOfUse_18
  · replace h := ite_T h hc
    refine aw_iconst (pc := 8) C (v := 1) dX0_refusalOfUse_8 rfl ?_
    cases h
    exact aw_iret (pc := 9) C dX0_refusalOfUse_9
/-! ### NameScopes$Facts.reset()V -/
theorem ok_X0_reset {l : Launch} (htr : l.stackTraces = false) {a0 : Nat} {μ : Mm} {r : Mm} (ha0 : isF a0) (h : X0_reset a0 μ = some r) : MetX l yX0_reset cX0_reset 1 none 0 (fun ad => [.ref (ad a0)]) μ (.inr none) r := by
  refine MetX.of htr (by decide) rfl (fun ad => Nat.le_of_ble_eq_true rfl) (fun p e s m args below meth c D cI cL ad C hex hw => ?_)
  show AV l p e s m args below meth c D cI cL ad 0 1 (.inr none) r 0 [(0, .ref (ad a0))] [] μ
  unfold X0_reset at h
  refine aw_aload_n (pc := 0) C dX0_reset_0 rfl 0 rfl ?_
  refine aw_iconst (pc := 1) C (v := 1) dX0_reset_1 rfl ?_
  obtain ⟨μ1, eμ1, h⟩ := bd_some h
  refine aw_putI (pc := 2) C (a := a0) (k := 0) (ty := .int) inX0 tyX0 tyX0_ok nmX0 (kdF ha0) rfl (by decide) q76 rfl (by decide +kernel) rfl rfl (by show 0 < 18; decide) dX0_reset_2 fl_0_0 eμ1 ?_
  refine aw_aload_n (pc := 5) C dX0_reset_5 rfl 0 rfl ?_
  refine aw_iconst (pc := 6) C (v := 0) dX0_reset_6 rfl ?_
  obtain ⟨μ2, eμ2, h⟩ := bd_some h
  refine aw_putI (pc := 7) C (a := a0) (k := 2) (ty := .int) inX0 tyX0 tyX0_ok nmX0 (kdF ha0) rfl (by decide) q80 rfl (by decide +kernel) rfl rfl (by show 2 < 18; decide) dX0_reset_7 fl_0_2 eμ2 ?_
  refine aw_aload_n (pc := 10) C dX0_reset_10 rfl 0 rfl ?_
  refine aw_iconst (pc := 11) C (v := 0) dX0_reset_11 rfl ?_
  obtain ⟨μ3, eμ3, h⟩ := bd_some h
  refine aw_putI (pc := 12) C (a := a0) (k := 6) (ty := .int) inX0 tyX0 tyX0_ok nmX0 (kdF ha0) rfl (by decide) q92 rfl (by decide +kernel) rfl rfl (by show 6 < 18; decide) dX0_reset_12 fl_0_6 eμ3 ?_
  refine aw_aload_n (pc := 15) C dX0_reset_15 rfl 0 rfl ?_
  refine aw_iconst (pc := 16) C (v := 0) dX0_reset_16 rfl ?_
  obtain ⟨μ4, eμ4, h⟩ := bd_some h
  refine aw_putI (pc := 17) C (a := a0) (k := 13) (ty := .int) inX0 tyX0 tyX0_ok nmX0 (kdF ha0) rfl (by decide) q113 rfl (by decide +kernel) rfl rfl (by show 13 < 18; decide) dX0_reset_17 fl_0_13 eμ4 ?_
  cases h
  exact aw_vret (pc := 20) C dX0_reset_20
/-! ### NameScopes$Facts.scopesThatOffer(I)I -/
theorem ok_X0_scopesThatOffer_l18 {l : Launch} {p : Program} {e : Env} {s : State} {m : MethodId} {args : Array Value} {below : List Frame} {meth : Method} {c : Code} {D : va_G} {cI cL : ClassId} {ad : Nat → Nat} (C : CX p l s m args meth c RX0 cX0_scopesThatOffer 6 (some .int) D cI cL (AA ad s.heap.size)) (hex : ∀ x ∈ c.exceptionTable.toList, False) {r : Int32} {a0 : Nat} {v1 : Int32} {μ : Mm} (ha0 : isF a0) {k4 : Int32 → Int32 → Option Int32} {k18 : Int32 → Int32 → Int32 → Int32 → Option Int32} (hk4 : ∀ (v2 : Int32) (v3 : Int32), k4 v2 v3 = some r → AV l p e s m args below meth c D cI cL ad 0 6 (.inr (some (.int r))) μ 4 [(0, .ref (ad a0)), (1, .int v1), (2, .int v2), (3, .int v3)] [] μ) (hk18 : ∀ (v2 : Int32) (v3 : Int32) (v4 : Int32) (v5 : Int32), k18 v2 v3 v4 v5 = some r → AV l p e s m args below meth c D cI cL ad 0 6 (.inr (some (.int r))) μ 18 [(0, .ref (ad a0)), (1, .int v1), (2, .int v2), (3, .int v3), (4, .int v4), (5, .int v5)] [] μ) {v2 : Int32} {v3 : Int32} {v4 : Int32} {v5 : Int32}  (h : X0_scopesThatOffer_l18 a0 v1 μ k4 k18 v2 v3 v4 v5 = some r) : AV l p e s m args below meth c D cI cL ad 0 6 (.inr (some (.int r))) μ 18 [(0, .ref (ad a0)), (1, .int v1), (2, .int v2), (3, .int v3), (4, .int v4), (5, .int v5)] [] μ := by
  unfold X0_scopesThatOffer_l18 at h
  refine aw_iload (pc := 18) C dX0_scopesThatOffer_18 5 rfl ?_
  refine aw_bipush (pc := 20) C (v := 26) dX0_scopesThatOffer_20 rfl ?_
  refine aw_icmp_ge (pc := 22) C 51 dX0_scopesThatOffer_22 rfl (fun hc => ?_) (fun hc => ?_)
  · replace h := ite_T h hc
    refine aw_iload_n (pc := 51) C dX0_scopesThatOffer_51 rfl 2 rfl ?_
    refine aw_iload (pc := 52) C dX0_scopesThatOffer_52 4 rfl ?_
    refine aw_iload_n (pc := 54) C dX0_scopesThatOffer_54 rfl 1 rfl ?_
    refine aw_ishr (pc := 55) C dX0_scopesThatOffer_55 ?_
    refine aw_iconst (pc := 56) C (v := 1) dX0_scopesThatOffer_56 rfl ?_
    refine aw_iand (pc := 57) C dX0_scopesThatOffer_57 ?_
    refine aw_iadd (pc := 58) C dX0_scopesThatOffer_58 ?_
    obtain ⟨x1, ex1, h⟩ := bd_some h
    refine aw_istore_n (pc := 59) C (x := x1) (lv' := [(2, .int x1), (0, .ref (ad a0)), (1, .int v1), (3, .int v3), (4, .int v4), (5, .int v5)]) dX0_scopesThatOffer_59 rfl (by decide) ex1 rfl ?_
    refine aw_iinc (pc := 60) C (v := (v3 + 1)) (lv' := [(3, .int (v3 + 1)), (2, .int x1), (0, .ref (ad a0)), (1, .int v1), (4, .int v4), (5, .int v5)]) dX0_scopesThatOffer_60 3 rfl (by decide) rfl rfl ?_
    refine aw_goto (pc := 63) C 4 dX0_scopesThatOffer_63 rfl ?_
    refine aw_sub [2, 3, 1, 0] rfl ?_
    exact hk4 x1 (v3 + 1) h
  · replace h := ite_F h hc
    refine aw_iload (pc := 25) C dX0_scopesThatOffer_25 4 rfl ?_
    refine aw_aload_n (pc := 27) C dX0_scopesThatOffer_27 rfl 0 rfl ?_
    refine aw_get (pc := 28) C (a := a0) (k := 17) (v := .ref (ad (a0 + 14))) inX0 (kdF ha0) rfl (by decide) q121 dX0_scopesThatOffer_28 rfl ?_
    refine aw_getN (pc := 31) C (a := (a0 + 14)) (k := 0) (v := .ref (ad ((a0 + 14) + 1))) inX1 (kdL_ (isFL ha0)) rfl (by decide) q53 dX0_scopesThatOffer_31 rfl ?_
    refine aw_iload_n (pc := 34) C dX0_scopesThatOffer_34 rfl 3 rfl ?_
    refine aw_bipush (pc := 35) C (v := 26) dX0_scopesThatOffer_35 rfl ?_
    refine aw_imul (pc := 37) C dX0_scopesThatOffer_37 ?_
    refine aw_iload (pc := 38) C dX0_scopesThatOffer_38 5 rfl ?_
    refine aw_iadd (pc := 40) C dX0_scopesThatOffer_40 ?_
    obtain ⟨g2, h⟩ := ck_some h
    refine aw_iaload (pc := 41) C (a := ((a0 + 14) + 1)) ((kdLk (k := 1) (isFL ha0) rfl rfl)) g2 dX0_scopesThatOffer_41 ?_
    refine aw_ior (pc := 42) C dX0_scopesThatOffer_42 ?_
    obtain ⟨x3, ex3, h⟩ := bd_some h
    refine aw_istore (pc := 43) C (x := x3) (lv' := [(4, .int x3), (0, .ref (ad a0)), (1, .int v1), (2, .int v2), (3, .int v3), (5, .int v5)]) dX0_scopesThatOffer_43 (by decide) ex3 rfl ?_
    refine aw_iinc (pc := 45) C (v := (v5 + 1)) (lv' := [(5, .int (v5 + 1)), (4, .int x3), (0, .ref (ad a0)), (1, .int v1), (2, .int v2), (3, .int v3)]) dX0_scopesThatOffer_45 5 rfl (by decide) rfl rfl ?_
    refine aw_goto (pc := 48) C 18 dX0_scopesThatOffer_48 rfl ?_
    refine aw_sub [2, 3, 4, 5, 1, 0] rfl ?_
    exact hk18 v2 v3 x3 (v5 + 1) h
theorem ok_X0_scopesThatOffer_l18_w {l : Launch} {p : Program} {e : Env} {s : State} {m : MethodId} {args : Array Value} {below : List Frame} {meth : Method} {c : Code} {D : va_G} {cI cL : ClassId} {ad : Nat → Nat} (C : CX p l s m args meth c RX0 cX0_scopesThatOffer 6 (some .int) D cI cL (AA ad s.heap.size)) (hex : ∀ x ∈ c.exceptionTable.toList, False) {r : Int32} {a0 : Nat} {v1 : Int32} {μ : Mm} (ha0 : isF a0) {k4 : Int32 → Int32 → Option Int32} (hk4 : ∀ (v2 : Int32) (v3 : Int32), k4 v2 v3 = some r → AV l p e s m args below meth c D cI cL ad 0 6 (.inr (some (.int r))) μ 4 [(0, .ref (ad a0)), (1, .int v1), (2, .int v2), (3, .int v3)] [] μ) : ∀ (n : Nat) (v2 : Int32) (v3 : Int32) (v4 : Int32) (v5 : Int32) , itr (X0_scopesThatOffer_l18 a0 v1 μ k4) (fun _ _ _ _ => none) n v2 v3 v4 v5 = some r → AV l p e s m args below meth c D cI cL ad 0 6 (.inr (some (.int r))) μ 18 [(0, .ref (ad a0)), (1, .int v1), (2, .int v2), (3, .int v3), (4, .int v4), (5, .int v5)] [] μ := by
  intro n
  induction n with
  | zero => intro v2 v3 v4 v5 h; exact nomatch (show (none : Option Int32) = some r from h)
  | succ n ih => intro v2 v3 v4 v5 h; exact ok_X0_scopesThatOffer_l18 C hex (a0 := a0) (v1 := v1) (μ := μ) ha0 hk4 ih h
theorem ok_X0_scopesThatOffer_l4 {l : Launch} {p : Program} {e : Env} {s : State} {m : MethodId} {args : Array Value} {below : List Frame} {meth : Method} {c : Code} {D : va_G} {cI cL : ClassId} {ad : Nat → Nat} (C : CX p l s m args meth c RX0 cX0_scopesThatOffer 6 (some .int) D cI cL (AA ad s.heap.size)) (hex : ∀ x ∈ c.exceptionTable.toList, False) {r : Int32} {a0 : Nat} {v1 : Int32} {μ : Mm} (ha0 : isF a0) {k4 : Int32 → Int32 → Option Int32} (hk4 : ∀ (v2 : Int32) (v3 : Int32), k4 v2 v3 = some r → AV l p e s m args below meth c D cI cL ad 0 6 (.inr (some (.int r))) μ 4 [(0, .ref (ad a0)), (1, .int v1), (2, .int v2), (3, .int v3)] [] μ) {v2 : Int32} {v3 : Int32}  (h : X0_scopesThatOffer_l4 a0 v1 μ k4 v2 v3 = some r) : AV l p e s m args below meth c D cI cL ad 0 6 (.inr (some (.int r))) μ 4 [(0, .ref (ad a0)), (1, .int v1), (2, .int v2), (3, .int v3)] [] μ := by
  unfold X0_scopesThatOffer_l4 at h
  refine aw_iload_n (pc := 4) C dX0_scopesThatOffer_4 rfl 3 rfl ?_
  refine aw_aload_n (pc := 5) C dX0_scopesThatOffer_5 rfl 0 rfl ?_
  refine aw_get (pc := 6) C (a := a0) (k := 0) (v := .int (μ.1 a0 0)) inX0 (kdF ha0) rfl (by decide) q76 dX0_scopesThatOffer_6 rfl ?_
  refine aw_icmp_ge (pc := 9) C 66 dX0_scopesThatOffer_9 rfl (fun hc => ?_) (fun hc => ?_)
  · replace h := ite_T h hc
    refine aw_iload_n (pc := 66) C dX0_scopesThatOffer_66 rfl 2 rfl ?_
    cases h
    exact aw_iret (pc := 67) C dX0_scopesThatOffer_67
  · replace h := ite_F h hc
    refine aw_iconst (pc := 12) C (v := 0) dX0_scopesThatOffer_12 rfl ?_
    refine aw_istore (pc := 13) C (x := 0) (lv' := [(4, .int 0), (0, .ref (ad a0)), (1, .int v1), (2, .int v2), (3, .int v3)]) dX0_scopesThatOffer_13 (by decide) rfl rfl ?_
    refine aw_iconst (pc := 15) C (v := 0) dX0_scopesThatOffer_15 rfl ?_
    refine aw_istore (pc := 16) C (x := 0) (lv' := [(5, .int 0), (4, .int 0), (0, .ref (ad a0)), (1, .int v1), (2, .int v2), (3, .int v3)]) dX0_scopesThatOffer_16 (by decide) rfl rfl ?_
    refine aw_sub [2, 3, 4, 5, 1, 0] rfl ?_
    exact ok_X0_scopesThatOffer_l18_w C hex ha0 hk4 big v2 v3 0 0 h
theorem ok_X0_scopesThatOffer_l4_w {l : Launch} {p : Program} {e : Env} {s : State} {m : MethodId} {args : Array Value} {below : List Frame} {meth : Method} {c : Code} {D : va_G} {cI cL : ClassId} {ad : Nat → Nat} (C : CX p l s m args meth c RX0 cX0_scopesThatOffer 6 (some .int) D cI cL (AA ad s.heap.size)) (hex : ∀ x ∈ c.exceptionTable.toList, False) {r : Int32} {a0 : Nat} {v1 : Int32} {μ : Mm} (ha0 : isF a0) : ∀ (n : Nat) (v2 : Int32) (v3 : Int32) , itr (X0_scopesThatOffer_l4 a0 v1 μ) (fun _ _ => none) n v2 v3 = some r → AV l p e s m args below meth c D cI cL ad 0 6 (.inr (some (.int r))) μ 4 [(0, .ref (ad a0)), (1, .int v1), (2, .int v2), (3, .int v3)] [] μ := by
  intro n
  induction n with
  | zero => intro v2 v3 h; exact nomatch (show (none : Option Int32) = some r from h)
  | succ n ih => intro v2 v3 h; exact ok_X0_scopesThatOffer_l4 C hex (a0 := a0) (v1 := v1) (μ := μ) ha0 ih h
theorem ok_X0_scopesThatOffer {l : Launch} (htr : l.stackTraces = false) {a0 : Nat} {v1 : Int32} {μ : Mm} {r : Int32} (ha0 : isF a0) (h : X0_scopesThatOffer a0 v1 μ = some r) : MetX l yX0_scopesThatOffer cX0_scopesThatOffer 6 (some .int) 0 (fun ad => [.ref (ad a0), .int v1]) μ (.inr (some (.int r))) μ := by
  refine MetX.of htr (by decide) rfl (fun ad => Nat.le_of_ble_eq_true rfl) (fun p e s m args below meth c D cI cL ad C hex hw => ?_)
  show AV l p e s m args below meth c D cI cL ad 0 6 (.inr (some (.int r))) μ 0 [(0, .ref (ad a0)), (1, .int v1)] [] μ
  unfold X0_scopesThatOffer at h
  refine aw_iconst (pc := 0) C (v := 0) dX0_scopesThatOffer_0 rfl ?_
  refine aw_istore_n (pc := 1) C (x := 0) (lv' := [(2, .int 0), (0, .ref (ad a0)), (1, .int v1)]) dX0_scopesThatOffer_1 rfl (by decide) rfl rfl ?_
  refine aw_iconst (pc := 2) C (v := 0) dX0_scopesThatOffer_2 rfl ?_
  refine aw_istore_n (pc := 3) C (x := 0) (lv' := [(3, .int 0), (2, .int 0), (0, .ref (ad a0)), (1, .int v1)]) dX0_scopesThatOffer_3 rfl (by decide) rfl rfl ?_
  refine aw_sub [2, 3, 1, 0] rfl ?_
  exact ok_X0_scopesThatOffer_l4_w C hex ha0 big 0 0 h
/-! ### NameScopes$Facts.scopesThatSee(I)I -/
theorem ok_X0_scopesThatSee_l4 {l : Launch} {p : Program} {e : Env} {s : State} {m : MethodId} {args : Array Value} {below : List Frame} {meth : Method} {c : Code} {D : va_G} {cI cL : ClassId} {ad : Nat → Nat} (C : CX p l s m args meth c RX0 cX0_scopesThatSee 4 (some .int) D cI cL (AA ad s.heap.size)) (hex : ∀ x ∈ c.exceptionTable.toList, False) {r : Int32} {a0 : Nat} {v1 : Int32} {μ : Mm} (ha0 : isF a0) {k4 : Int32 → Int32 → Option Int32} (hk4 : ∀ (v2 : Int32) (v3 : Int32), k4 v2 v3 = some r → AV l p e s m args below meth c D cI cL ad 1 4 (.inr (some (.int r))) μ 4 [(0, .ref (ad a0)), (1, .int v1), (2, .int v2), (3, .int v3)] [] μ) {v2 : Int32} {v3 : Int32}  (h : X0_scopesThatSee_l4 a0 v1 μ k4 v2 v3 = some r) : AV l p e s m args below meth c D cI cL ad 1 4 (.inr (some (.int r))) μ 4 [(0, .ref (ad a0)), (1, .int v1), (2, .int v2), (3, .int v3)] [] μ := by
  unfold X0_scopesThatSee_l4 at h
  refine aw_iload_n (pc := 4) C dX0_scopesThatSee_4 rfl 3 rfl ?_
  refine aw_aload_n (pc := 5) C dX0_scopesThatSee_5 rfl 0 rfl ?_
  refine aw_get (pc := 6) C (a := a0) (k := 0) (v := .int (μ.1 a0 0)) inX0 (kdF ha0) rfl (by decide) q76 dX0_scopesThatSee_6 rfl ?_
  refine aw_icmp_ge (pc := 9) C 43 dX0_scopesThatSee_9 rfl (fun hc => ?_) (fun hc => ?_)
  · replace h := ite_T h hc
    refine aw_iload_n (pc := 43) C dX0_scopesThatSee_43 rfl 2 rfl ?_
    cases h
    exact aw_iret (pc := 44) C dX0_scopesThatSee_44
  · replace h := ite_F h hc
    refine aw_iload_n (pc := 12) C dX0_scopesThatSee_12 rfl 2 rfl ?_
    refine aw_aload_n (pc := 13) C dX0_scopesThatSee_13 rfl 0 rfl ?_
    refine aw_iload_n (pc := 14) C dX0_scopesThatSee_14 rfl 3 rfl ?_
    refine aw_aload_n (pc := 15) C dX0_scopesThatSee_15 rfl 0 rfl ?_
    refine aw_get (pc := 16) C (a := a0) (k := 4) (v := .ref (ad (a0 + 3))) inX0 (kdF ha0) rfl (by decide) q86 dX0_scopesThatSee_16 rfl ?_
    refine aw_iload_n (pc := 19) C dX0_scopesThatSee_19 rfl 1 rfl ?_
    obtain ⟨g1, h⟩ := ck_some h
    refine aw_iaload (pc := 20) C (a := (a0 + 3)) ((kdFk (k := 3) ha0 rfl rfl)) g1 dX0_scopesThatSee_20 ?_
    obtain ⟨q3, hq2, h⟩ := bi_some h
    refine aw_Vi (pc := 21) (a := a0) (Bs := [.int v3, .int (μ.1 (a0 + 3) (v1 : Int32).toNatClampNeg)]) C (ok_X0_firstLayer C.tr ha0 hq2) kv_X0_firstLayer q241 (kdF ha0) rfl rfl rfl dX0_scopesThatSee_21 ⟨(show 1 ≤ 1 by decide), (show 25 ≤ 31 by decide)⟩ ⟨Nat.zero_le _, Nat.zero_le _⟩ [.int v2] (Nat.le_of_ble_eq_true rfl) rfl ?_
    refine aw_iconst (pc := 24) C (v := 1) dX0_scopesThatSee_24 rfl ?_
    refine aw_iload_n (pc := 25) C dX0_scopesThatSee_25 rfl 1 rfl ?_
    refine aw_ishl (pc := 26) C dX0_scopesThatSee_26 ?_
    have kJ : AV l p e s m args below meth c D cI cL ad 1 4 (.inr (some (.int r))) μ 35 [(0, .ref (ad a0)), (1, .int v1), (2, .int v2), (3, .int v3)] [.int (if q3 = (1 <<< (v1 &&& 31)) then (1 : Int32) else 0), .int v2] μ := by
      refine aw_iadd (pc := 35) C dX0_scopesThatSee_35 ?_
      obtain ⟨x4, ex4, h⟩ := bd_some h
      refine aw_istore_n (pc := 36) C (x := x4) (lv' := [(2, .int x4), (0, .ref (ad a0)), (1, .int v1), (3, .int v3)]) dX0_scopesThatSee_36 rfl (by decide) ex4 rfl ?_
      refine aw_iinc (pc := 37) C (v := (v3 + 1)) (lv' := [(3, .int (v3 + 1)), (2, .int x4), (0, .ref (ad a0)), (1, .int v1)]) dX0_scopesThatSee_37 3 rfl (by decide) rfl rfl ?_
      refine aw_goto (pc := 40) C 4 dX0_scopesThatSee_40 rfl ?_
      refine aw_sub [2, 3, 1, 0] rfl ?_
      exact hk4 x4 (v3 + 1) h
    refine aw_icmp_ne (pc := 27) C 34 dX0_scopesThatSee_27 rfl (fun hd1 => ?_) (fun hd1 => ?_)
    · refine aw_iconst (pc := 34) C (v := 0) dX0_scopesThatSee_34 rfl ?_
      rw [if_neg hd1] at kJ
      exact kJ
    · refine aw_iconst (pc := 30) C (v := 1) dX0_scopesThatSee_30 rfl ?_
      refine aw_goto (pc := 31) C 35 dX0_scopesThatSee_31 rfl ?_
      rw [if_pos hd1] at kJ
      exact kJ
theorem ok_X0_scopesThatSee_l4_w {l : Launch} {p : Program} {e : Env} {s : State} {m : MethodId} {args : Array Value} {below : List Frame} {meth : Method} {c : Code} {D : va_G} {cI cL : ClassId} {ad : Nat → Nat} (C : CX p l s m args meth c RX0 cX0_scopesThatSee 4 (some .int) D cI cL (AA ad s.heap.size)) (hex : ∀ x ∈ c.exceptionTable.toList, False) {r : Int32} {a0 : Nat} {v1 : Int32} {μ : Mm} (ha0 : isF a0) : ∀ (n : Nat) (v2 : Int32) (v3 : Int32) , itr (X0_scopesThatSee_l4 a0 v1 μ) (fun _ _ => none) n v2 v3 = some r → AV l p e s m args below meth c D cI cL ad 1 4 (.inr (some (.int r))) μ 4 [(0, .ref (ad a0)), (1, .int v1), (2, .int v2), (3, .int v3)] [] μ := by
  intro n
  induction n with
  | zero => intro v2 v3 h; exact nomatch (show (none : Option Int32) = some r from h)
  | succ n ih => intro v2 v3 h; exact ok_X0_scopesThatSee_l4 C hex (a0 := a0) (v1 := v1) (μ := μ) ha0 ih h
theorem ok_X0_scopesThatSee {l : Launch} (htr : l.stackTraces = false) {a0 : Nat} {v1 : Int32} {μ : Mm} {r : Int32} (ha0 : isF a0) (h : X0_scopesThatSee a0 v1 μ = some r) : MetX l yX0_scopesThatSee cX0_scopesThatSee 4 (some .int) 1 (fun ad => [.ref (ad a0), .int v1]) μ (.inr (some (.int r))) μ := by
  refine MetX.of htr (by decide) rfl (fun ad => Nat.le_of_ble_eq_true rfl) (fun p e s m args below meth c D cI cL ad C hex hw => ?_)
  show AV l p e s m args below meth c D cI cL ad 1 4 (.inr (some (.int r))) μ 0 [(0, .ref (ad a0)), (1, .int v1)] [] μ
  unfold X0_scopesThatSee at h
  refine aw_iconst (pc := 0) C (v := 0) dX0_scopesThatSee_0 rfl ?_
  refine aw_istore_n (pc := 1) C (x := 0) (lv' := [(2, .int 0), (0, .ref (ad a0)), (1, .int v1)]) dX0_scopesThatSee_1 rfl (by decide) rfl rfl ?_
  refine aw_iconst (pc := 2) C (v := 0) dX0_scopesThatSee_2 rfl ?_
  refine aw_istore_n (pc := 3) C (x := 0) (lv' := [(3, .int 0), (2, .int 0), (0, .ref (ad a0)), (1, .int v1)]) dX0_scopesThatSee_3 rfl (by decide) rfl rfl ?_
  refine aw_sub [2, 3, 1, 0] rfl ?_
  exact ok_X0_scopesThatSee_l4_w C hex ha0 big 0 0 h
/-! ### NameScopes$Layers.clear()V -/
theorem ok_X1_clear {l : Launch} (htr : l.stackTraces = false) {a0 : Nat} {μ : Mm} {r : Mm} (ha0 : isL a0) (h : X1_clear a0 μ = some r) : MetX l yX1_clear cX1_clear 1 none 1 (fun ad => [.ref (ad a0)]) μ (.inr none) r := by
  refine MetX.of htr (by decide) rfl (fun ad => Nat.le_of_ble_eq_true rfl) (fun p e s m args below meth c D cI cL ad C hex hw => ?_)
  show AV l p e s m args below meth c D cI cL ad 1 1 (.inr none) r 0 [(0, .ref (ad a0))] [] μ
  unfold X1_clear at h
  refine aw_aload_n (pc := 0) C dX1_clear_0 rfl 0 rfl ?_
  refine aw_get (pc := 1) C (a := a0) (k := 0) (v := .ref (ad (a0 + 1))) inX1 (kdL_ ha0) rfl (by decide) q51 dX1_clear_1 rfl ?_
  refine aw_iconst (pc := 4) C (v := 0) dX1_clear_4 rfl ?_
  obtain ⟨μ3, hq1, h⟩ := bi_some h
  refine aw_Sv (pc := 5) (Bs := [.ref (ad (a0 + 1)), .int 0]) C (ok_J7_fill_53178 C.tr (isArr_of ((kdLk (k := 1) ha0 rfl rfl))) hq1) kv_J7_fill_53178 q189 rfl rfl dX1_clear_5 ⟨(show 1 ≤ 1 by decide), (show 23 ≤ 31 by decide)⟩ ⟨Nat.zero_le _, Nat.zero_le _⟩ [] (Nat.le_of_ble_eq_true rfl) rfl ?_
  refine aw_aload_n (pc := 8) C dX1_clear_8 rfl 0 rfl ?_
  refine aw_get (pc := 9) C (a := a0) (k := 1) (v := .ref (ad (a0 + 2))) inX1 (kdL_ ha0) rfl (by decide) q54 dX1_clear_9 rfl ?_
  refine aw_iconst (pc := 12) C (v := 0) dX1_clear_12 rfl ?_
  obtain ⟨μ6, hq4, h⟩ := bi_some h
  refine aw_Sv (pc := 13) (Bs := [.ref (ad (a0 + 2)), .int 0]) C (ok_J7_fill_53178 C.tr (isArr_of ((kdLk (k := 2) ha0 rfl rfl))) hq4) kv_J7_fill_53178 q189 rfl rfl dX1_clear_13 ⟨(show 1 ≤ 1 by decide), (show 23 ≤ 31 by decide)⟩ ⟨Nat.zero_le _, Nat.zero_le _⟩ [] (Nat.le_of_ble_eq_true rfl) rfl ?_
  refine aw_aload_n (pc := 16) C dX1_clear_16 rfl 0 rfl ?_
  refine aw_get (pc := 17) C (a := a0) (k := 2) (v := .ref (ad (a0 + 3))) inX1 (kdL_ ha0) rfl (by decide) q57 dX1_clear_17 rfl ?_
  refine aw_iconst (pc := 20) C (v := 0) dX1_clear_20 rfl ?_
  obtain ⟨μ9, hq7, h⟩ := bi_some h
  refine aw_Sv (pc := 21) (Bs := [.ref (ad (a0 + 3)), .int 0]) C (ok_J7_fill_53178 C.tr (isArr_of ((kdLk (k := 3) ha0 rfl rfl))) hq7) kv_J7_fill_53178 q189 rfl rfl dX1_clear_21 ⟨(show 1 ≤ 1 by decide), (show 23 ≤ 31 by decide)⟩ ⟨Nat.zero_le _, Nat.zero_le _⟩ [] (Nat.le_of_ble_eq_true rfl) rfl ?_
  refine aw_aload_n (pc := 24) C dX1_clear_24 rfl 0 rfl ?_
  refine aw_get (pc := 25) C (a := a0) (k := 3) (v := .ref (ad (a0 + 4))) inX1 (kdL_ ha0) rfl (by decide) q59 dX1_clear_25 rfl ?_
  refine aw_iconst (pc := 28) C (v := 0) dX1_clear_28 rfl ?_
  obtain ⟨μ12, hq10, h⟩ := bi_some h
  refine aw_Sv (pc := 29) (Bs := [.ref (ad (a0 + 4)), .int 0]) C (ok_J7_fill_53178 C.tr (isArr_of ((kdLk (k := 4) ha0 rfl rfl))) hq10) kv_J7_fill_53178 q189 rfl rfl dX1_clear_29 ⟨(show 1 ≤ 1 by decide), (show 23 ≤ 31 by decide)⟩ ⟨Nat.zero_le _, Nat.zero_le _⟩ [] (Nat.le_of_ble_eq_true rfl) rfl ?_
  refine aw_aload_n (pc := 32) C dX1_clear_32 rfl 0 rfl ?_
  refine aw_get (pc := 33) C (a := a0) (k := 4) (v := .ref (ad (a0 + 5))) inX1 (kdL_ ha0) rfl (by decide) q61 dX1_clear_33 rfl ?_
  refine aw_iconst (pc := 36) C (v := 0) dX1_clear_36 rfl ?_
  obtain ⟨μ15, hq13, h⟩ := bi_some h
  refine aw_Sv (pc := 37) (Bs := [.ref (ad (a0 + 5)), .int 0]) C (ok_J7_fill_53178 C.tr (isArr_of ((kdLk (k := 5) ha0 rfl rfl))) hq13) kv_J7_fill_53178 q189 rfl rfl dX1_clear_37 ⟨(show 1 ≤ 1 by decide), (show 23 ≤ 31 by decide)⟩ ⟨Nat.zero_le _, Nat.zero_le _⟩ [] (Nat.le_of_ble_eq_true rfl) rfl ?_
  refine aw_aload_n (pc := 40) C dX1_clear_40 rfl 0 rfl ?_
  refine aw_get (pc := 41) C (a := a0) (k := 5) (v := .ref (ad (a0 + 6))) inX1 (kdL_ ha0) rfl (by decide) q62 dX1_clear_41 rfl ?_
  refine aw_iconst (pc := 44) C (v := 0) dX1_clear_44 rfl ?_
  obtain ⟨μ18, hq16, h⟩ := bi_some h
  refine aw_Sv (pc := 45) (Bs := [.ref (ad (a0 + 6)), .int 0]) C (ok_J7_fill_53178 C.tr (isArr_of ((kdLk (k := 6) ha0 rfl rfl))) hq16) kv_J7_fill_53178 q189 rfl rfl dX1_clear_45 ⟨(show 1 ≤ 1 by decide), (show 23 ≤ 31 by decide)⟩ ⟨Nat.zero_le _, Nat.zero_le _⟩ [] (Nat.le_of_ble_eq_true rfl) rfl ?_
  cases h
  exact aw_vret (pc := 48) C dX1_clear_48
/-! ### NameScopes$Layers.placeDeclarations(LNameScopes$Facts;)V -/
theorem ok_X1_placeDeclarations_l2 {l : Launch} {p : Program} {e : Env} {s : State} {m : MethodId} {args : Array Value} {below : List Frame} {meth : Method} {c : Code} {D : va_G} {cI cL : ClassId} {ad : Nat → Nat} (C : CX p l s m args meth c RX1 cX1_placeDeclarations 5 none D cI cL (AA ad s.heap.size)) (hex : ∀ x ∈ c.exceptionTable.toList, False) {r : Mm} {a0 : Nat} {a1 : Nat} (ha0 : isL a0) (ha1 : isF a1) {k2 : Int32 → Mm → Option Mm} (hk2 : ∀ (v2 : Int32) (μ : Mm), k2 v2 μ = some r → AV l p e s m args below meth c D cI cL ad 0 5 (.inr none) r 2 [(0, .ref (ad a0)), (1, .ref (ad a1)), (2, .int v2)] [] μ) {v2 : Int32} {μ : Mm}  (h : X1_placeDeclarations_l2 a0 a1 k2 v2 μ = some r) : AV l p e s m args below meth c D cI cL ad 0 5 (.inr none) r 2 [(0, .ref (ad a0)), (1, .ref (ad a1)), (2, .int v2)] [] μ := by
  unfold X1_placeDeclarations_l2 at h
  refine aw_iload_n (pc := 2) C dX1_placeDeclarations_2 rfl 2 rfl ?_
  refine aw_aload_n (pc := 3) C dX1_placeDeclarations_3 rfl 1 rfl ?_
  refine aw_getN (pc := 4) C (a := a1) (k := 2) (v := .int (μ.1 a1 2)) inX0 (kdF ha1) rfl (by decide) q81 dX1_placeDeclarations_4 rfl ?_
  refine aw_icmp_ge (pc := 7) C 96 dX1_placeDeclarations_7 rfl (fun hc => ?_) (fun hc => ?_)
  · replace h := ite_T h hc
    cases h
    exact aw_vret (pc := 96) C dX1_placeDeclarations_96
  · replace h := ite_F h hc
    refine aw_aload_n (pc := 10) C dX1_placeDeclarations_10 rfl 1 rfl ?_
    refine aw_getN (pc := 11) C (a := a1) (k := 3) (v := .ref (ad (a1 + 2))) inX0 (kdF ha1) rfl (by decide) q84 dX1_placeDeclarations_11 rfl ?_
    refine aw_iload_n (pc := 14) C dX1_placeDeclarations_14 rfl 2 rfl ?_
    obtain ⟨g1, h⟩ := ck_some h
    refine aw_iaload (pc := 15) C (a := (a1 + 2)) ((kdFk (k := 2) ha1 rfl rfl)) g1 dX1_placeDeclarations_15 ?_
    obtain ⟨x2, ex2, h⟩ := bd_some h
    refine aw_istore_n (pc := 16) C (x := x2) (lv' := [(3, .int x2), (0, .ref (ad a0)), (1, .ref (ad a1)), (2, .int v2)]) dX1_placeDeclarations_16 rfl (by decide) ex2 rfl ?_
    refine aw_aload_n (pc := 17) C dX1_placeDeclarations_17 rfl 2 rfl ?_
    refine aw_getN (pc := 18) C (a := a1) (k := 4) (v := .ref (ad (a1 + 3))) inX0 (kdF ha1) rfl (by decide) q87 dX1_placeDeclarations_18 rfl ?_
    refine aw_iload_n (pc := 21) C dX1_placeDeclarations_21 rfl 3 rfl ?_
    obtain ⟨g3, h⟩ := ck_some h
    refine aw_iaload (pc := 22) C (a := (a1 + 3)) ((kdFk (k := 3) ha1 rfl rfl)) g3 dX1_placeDeclarations_22 ?_
    obtain ⟨x4, ex4, h⟩ := bd_some h
    refine aw_istore (pc := 23) C (x := x4) (lv' := [(4, .int x4), (3, .int x2), (0, .ref (ad a0)), (1, .ref (ad a1)), (2, .int v2)]) dX1_placeDeclarations_23 (by decide) ex4 rfl ?_
    refine aw_aload_n (pc := 25) C dX1_placeDeclarations_25 rfl 2 rfl ?_
    refine aw_get (pc := 26) C (a := a0) (k := 1) (v := .ref (ad (a0 + 2))) inX1 (kdL_ ha0) rfl (by decide) q54 dX1_placeDeclarations_26 rfl ?_
    refine aw_iload_n (pc := 29) C dX1_placeDeclarations_29 rfl 1 rfl ?_
    refine aw_bipush (pc := 30) C (v := 26) dX1_placeDeclarations_30 rfl ?_
    refine aw_imul (pc := 32) C dX1_placeDeclarations_32 ?_
    refine aw_iload (pc := 33) C dX1_placeDeclarations_33 0 rfl ?_
    refine aw_iadd (pc := 35) C dX1_placeDeclarations_35 ?_
    refine aw_iconst (pc := 36) C (v := 1) dX1_placeDeclarations_36 rfl ?_
    refine aw_iload_n (pc := 37) C dX1_placeDeclarations_37 rfl 4 rfl ?_
    refine aw_ishl (pc := 38) C dX1_placeDeclarations_38 ?_
    obtain ⟨g5, h⟩ := ck_some h
    obtain ⟨μ6, eμ6, h⟩ := bd_some h
    refine aw_iastore (pc := 39) C (a := (a0 + 2)) ((kdLk (k := 2) ha0 rfl rfl)) g5 dX1_placeDeclarations_39 eμ6 ?_
    refine aw_aload_n (pc := 40) C dX1_placeDeclarations_40 rfl 2 rfl ?_
    refine aw_get (pc := 41) C (a := a0) (k := 5) (v := .ref (ad (a0 + 6))) inX1 (kdL_ ha0) rfl (by decide) q62 dX1_placeDeclarations_41 rfl ?_
    refine aw_iload_n (pc := 44) C dX1_placeDeclarations_44 rfl 1 rfl ?_
    refine aw_dup2 (pc := 45) C dX1_placeDeclarations_45 rfl rfl ?_
    obtain ⟨g7, h⟩ := ck_some h
    refine aw_iaload (pc := 46) C (a := (a0 + 6)) ((kdLk (k := 6) ha0 rfl rfl)) g7 dX1_placeDeclarations_46 ?_
    refine aw_iconst (pc := 47) C (v := 1) dX1_placeDeclarations_47 rfl ?_
    refine aw_iload (pc := 48) C dX1_placeDeclarations_48 0 rfl ?_
    refine aw_ishl (pc := 50) C dX1_placeDeclarations_50 ?_
    refine aw_ior (pc := 51) C dX1_placeDeclarations_51 ?_
    obtain ⟨g8, h⟩ := ck_some h
    obtain ⟨μ9, eμ9, h⟩ := bd_some h
    refine aw_iastore (pc := 52) C (a := (a0 + 6)) ((kdLk (k := 6) ha0 rfl rfl)) g8 dX1_placeDeclarations_52 eμ9 ?_
    refine aw_aload_n (pc := 53) C dX1_placeDeclarations_53 rfl 3 rfl ?_
    refine aw_getN (pc := 54) C (a := a1) (k := 5) (v := .ref (ad (a1 + 4))) inX0 (kdF ha1) rfl (by decide) q90 dX1_placeDeclarations_54 rfl ?_
    refine aw_iload_n (pc := 57) C dX1_placeDeclarations_57 rfl 4 rfl ?_
    obtain ⟨g10, h⟩ := ck_some h
    refine aw_iaload (pc := 58) C (a := (a1 + 4)) ((kdFk (k := 4) ha1 rfl rfl)) g10 dX1_placeDeclarations_58 ?_
    refine aw_if_eq (pc := 59) C 90 dX1_placeDeclarations_59 rfl (fun hc => ?_) (fun hc => ?_)
    · replace h := ite_T h hc
      refine aw_iinc (pc := 90) C (v := (v2 + 1)) (lv' := [(2, .int (v2 + 1)), (4, .int x4), (3, .int x2), (0, .ref (ad a0)), (1, .ref (ad a1))]) dX1_placeDeclarations_90 4 rfl (by decide) rfl rfl ?_
      refine aw_goto (pc := 93) C 2 dX1_placeDeclarations_93 rfl ?_
      refine aw_sub [3, 4, 0] rfl ?_
      exact hk2 (v2 + 1) μ9 h
    · replace h := ite_F h hc
      refine aw_aload_n (pc := 62) C dX1_placeDeclarations_62 rfl 2 rfl ?_
      refine aw_get (pc := 63) C (a := a0) (k := 0) (v := .ref (ad (a0 + 1))) inX1 (kdL_ ha0) rfl (by decide) q51 dX1_placeDeclarations_63 rfl ?_
      refine aw_iload_n (pc := 66) C dX1_placeDeclarations_66 rfl 1 rfl ?_
      refine aw_bipush (pc := 67) C (v := 26) dX1_placeDeclarations_67 rfl ?_
      refine aw_imul (pc := 69) C dX1_placeDeclarations_69 ?_
      refine aw_iload (pc := 70) C dX1_placeDeclarations_70 0 rfl ?_
      refine aw_iadd (pc := 72) C dX1_placeDeclarations_72 ?_
      refine aw_iconst (pc := 73) C (v := 1) dX1_placeDeclarations_73 rfl ?_
      refine aw_iload_n (pc := 74) C dX1_placeDeclarations_74 rfl 4 rfl ?_
      refine aw_ishl (pc := 75) C dX1_placeDeclarations_75 ?_
      obtain ⟨g11, h⟩ := ck_some h
      obtain ⟨μ12, eμ12, h⟩ := bd_some h
      refine aw_iastore (pc := 76) C (a := (a0 + 1)) ((kdLk (k := 1) ha0 rfl rfl)) g11 dX1_placeDeclarations_76 eμ12 ?_
      refine aw_aload_n (pc := 77) C dX1_placeDeclarations_77 rfl 2 rfl ?_
      refine aw_get (pc := 78) C (a := a0) (k := 4) (v := .ref (ad (a0 + 5))) inX1 (kdL_ ha0) rfl (by decide) q61 dX1_placeDeclarations_78 rfl ?_
      refine aw_iload_n (pc := 81) C dX1_placeDeclarations_81 rfl 1 rfl ?_
      refine aw_dup2 (pc := 82) C dX1_placeDeclarations_82 rfl rfl ?_
      obtain ⟨g13, h⟩ := ck_some h
      refine aw_iaload (pc := 83) C (a := (a0 + 5)) ((kdLk (k := 5) ha0 rfl rfl)) g13 dX1_placeDeclarations_83 ?_
      refine aw_iconst (pc := 84) C (v := 1) dX1_placeDeclarations_84 rfl ?_
      refine aw_iload (pc := 85) C dX1_placeDeclarations_85 0 rfl ?_
      refine aw_ishl (pc := 87) C dX1_placeDeclarations_87 ?_
      refine aw_ior (pc := 88) C dX1_placeDeclarations_88 ?_
      obtain ⟨g14, h⟩ := ck_some h
      obtain ⟨μ15, eμ15, h⟩ := bd_some h
      refine aw_iastore (pc := 89) C (a := (a0 + 5)) ((kdLk (k := 5) ha0 rfl rfl)) g14 dX1_placeDeclarations_89 eμ15 ?_
      refine aw_iinc (pc := 90) C (v := (v2 + 1)) (lv' := [(2, .int (v2 + 1)), (4, .int x4), (3, .int x2), (0, .ref (ad a0)), (1, .ref (ad a1))]) dX1_placeDeclarations_90 4 rfl (by decide) rfl rfl ?_
      refine aw_goto (pc := 93) C 2 dX1_placeDeclarations_93 rfl ?_
      refine aw_sub [3, 4, 0] rfl ?_
      exact hk2 (v2 + 1) μ15 h
theorem ok_X1_placeDeclarations_l2_w {l : Launch} {p : Program} {e : Env} {s : State} {m : MethodId} {args : Array Value} {below : List Frame} {meth : Method} {c : Code} {D : va_G} {cI cL : ClassId} {ad : Nat → Nat} (C : CX p l s m args meth c RX1 cX1_placeDeclarations 5 none D cI cL (AA ad s.heap.size)) (hex : ∀ x ∈ c.exceptionTable.toList, False) {r : Mm} {a0 : Nat} {a1 : Nat} (ha0 : isL a0) (ha1 : isF a1) : ∀ (n : Nat) (v2 : Int32) (μ : Mm) , itr (X1_placeDeclarations_l2 a0 a1) (fun _ _ => none) n v2 μ = some r → AV l p e s m args below meth c D cI cL ad 0 5 (.inr none) r 2 [(0, .ref (ad a0)), (1, .ref (ad a1)), (2, .int v2)] [] μ := by
  intro n
  induction n with
  | zero => intro v2 μ h; exact nomatch (show (none : Option Mm) = some r from h)
  | succ n ih => intro v2 μ h; exact ok_X1_placeDeclarations_l2 C hex (a0 := a0) (a1 := a1) ha0 ha1 ih h
theorem ok_X1_placeDeclarations {l : Launch} (htr : l.stackTraces = false) {a0 : Nat} {a1 : Nat} {μ : Mm} {r : Mm} (ha0 : isL a0) (ha1 : isF a1) (h : X1_placeDeclarations a0 a1 μ = some r) : MetX l yX1_placeDeclarations cX1_placeDeclarations 5 none 0 (fun ad => [.ref (ad a0), .ref (ad a1)]) μ (.inr none) r := by
  refine MetX.of htr (by decide) rfl (fun ad => Nat.le_of_ble_eq_true rfl) (fun p e s m args below meth c D cI cL ad C hex hw => ?_)
  show AV l p e s m args below meth c D cI cL ad 0 5 (.inr none) r 0 [(0, .ref (ad a0)), (1, .ref (ad a1))] [] μ
  unfold X1_placeDeclarations at h
  refine aw_iconst (pc := 0) C (v := 0) dX1_placeDeclarations_0 rfl ?_
  refine aw_istore_n (pc := 1) C (x := 0) (lv' := [(2, .int 0), (0, .ref (ad a0)), (1, .ref (ad a1))]) dX1_placeDeclarations_1 rfl (by decide) rfl rfl ?_
  refine aw_sub [1, 2, 0] rfl ?_
  exact ok_X1_placeDeclarations_l2_w C hex ha0 ha1 big 0 μ h
/-! ### NameScopes$Layers.passOn(LNameScopes$Facts;I)Z -/
theorem ok_X1_passOn_j92 {l : Launch} {p : Program} {e : Env} {s : State} {m : MethodId} {args : Array Value} {below : List Frame} {meth : Method} {c : Code} {D : va_G} {cI cL : ClassId} {ad : Nat → Nat} (C : CX p l s m args meth c RX1 cX1_passOn 12 (some .boolean) D cI cL (AA ad s.heap.size)) (hex : ∀ x ∈ c.exceptionTable.toList, False) {r : (Int32 × Mm)} {a0 : Nat} {a1 : Nat} {v2 : Int32} (ha0 : isL a0) (ha1 : isF a1) {k60 : Int32 → Int32 → Int32 → Int32 → Int32 → Int32 → Mm → Option (Int32 × Mm)} (hk60 : ∀ (v3 : Int32) (v4 : Int32) (v5 : Int32) (v6 : Int32) (v7 : Int32) (v8 : Int32) (μ : Mm), k60 v3 v4 v5 v6 v7 v8 μ = some r → AV l p e s m args below meth c D cI cL ad 0 12 (.inr (some (.int r.1))) r.2 60 [(0, .ref (ad a0)), (1, .ref (ad a1)), (2, .int v2), (3, .int v3), (4, .int v4), (5, .int v5), (6, .int v6), (7, .int v7), (8, .int v8)] [] μ) {v3 : Int32} {v4 : Int32} {v5 : Int32} {v6 : Int32} {v7 : Int32} {v8 : Int32} {s0 : Int32} {μ : Mm}  (h : X1_passOn_j92 a0 a1 v2 k60 v3 v4 v5 v6 v7 v8 s0 μ = some r) : AV l p e s m args below meth c D cI cL ad 0 12 (.inr (some (.int r.1))) r.2 92 [(0, .ref (ad a0)), (1, .ref (ad a1)), (2, .int v2), (3, .int v3), (4, .int v4), (5, .int v5), (6, .int v6), (7, .int v7), (8, .int v8)] [.int s0] μ := by
  unfold X1_passOn_j92 at h
  refine aw_istore (pc := 92) C (x := s0) (lv' := [(9, .int s0), (0, .ref (ad a0)), (1, .ref (ad a1)), (2, .int v2), (3, .int v3), (4, .int v4), (5, .int v5), (6, .int v6), (7, .int v7), (8, .int v8)]) dX1_passOn_92 (by decide) rfl rfl ?_
  refine aw_iload (pc := 94) C dX1_passOn_94 7 rfl ?_
  refine aw_iload (pc := 96) C dX1_passOn_96 9 rfl ?_
  refine aw_ishr (pc := 98) C dX1_passOn_98 ?_
  refine aw_iconst (pc := 99) C (v := 1) dX1_passOn_99 rfl ?_
  refine aw_iand (pc := 100) C dX1_passOn_100 ?_
  refine aw_if_eq (pc := 101) C 194 dX1_passOn_101 rfl (fun hc => ?_) (fun hc => ?_)
  · replace h := ite_T h hc
    refine aw_iinc (pc := 194) C (v := (v8 + 1)) (lv' := [(8, .int (v8 + 1)), (9, .int s0), (0, .ref (ad a0)), (1, .ref (ad a1)), (2, .int v2), (3, .int v3), (4, .int v4), (5, .int v5), (6, .int v6), (7, .int v7)]) dX1_passOn_194 9 rfl (by decide) rfl rfl ?_
    refine aw_goto (pc := 197) C 60 dX1_passOn_197 rfl ?_
    refine aw_sub [2, 3, 4, 5, 6, 7, 8, 9, 0] rfl ?_
    exact hk60 v3 v4 v5 v6 v7 (v8 + 1) μ h
  · replace h := ite_F h hc
    refine aw_aload_n (pc := 104) C dX1_passOn_104 rfl 1 rfl ?_
    refine aw_get (pc := 105) C (a := a0) (k := 5) (v := .ref (ad (a0 + 6))) inX1 (kdL_ ha0) rfl (by decide) q62 dX1_passOn_105 rfl ?_
    refine aw_iload_n (pc := 108) C dX1_passOn_108 rfl 4 rfl ?_
    obtain ⟨g12, h⟩ := ck_some h
    refine aw_iaload (pc := 109) C (a := (a0 + 6)) ((kdLk (k := 6) ha0 rfl rfl)) g12 dX1_passOn_109 ?_
    refine aw_iload (pc := 110) C dX1_passOn_110 0 rfl ?_
    refine aw_ishr (pc := 112) C dX1_passOn_112 ?_
    refine aw_iconst (pc := 113) C (v := 1) dX1_passOn_113 rfl ?_
    refine aw_iand (pc := 114) C dX1_passOn_114 ?_
    refine aw_if_ne (pc := 115) C 194 dX1_passOn_115 rfl (fun hc => ?_) (fun hc => ?_)
    · replace h := ite_F h hc
      refine aw_iinc (pc := 194) C (v := (v8 + 1)) (lv' := [(8, .int (v8 + 1)), (9, .int s0), (0, .ref (ad a0)), (1, .ref (ad a1)), (2, .int v2), (3, .int v3), (4, .int v4), (5, .int v5), (6, .int v6), (7, .int v7)]) dX1_passOn_194 9 rfl (by decide) rfl rfl ?_
      refine aw_goto (pc := 197) C 60 dX1_passOn_197 rfl ?_
      refine aw_sub [2, 3, 4, 5, 6, 7, 8, 9, 0] rfl ?_
      exact hk60 v3 v4 v5 v6 v7 (v8 + 1) μ h
    · replace h := ite_T h hc
      refine aw_iload_n (pc := 118) C dX1_passOn_118 rfl 4 rfl ?_
      refine aw_bipush (pc := 119) C (v := 26) dX1_passOn_119 rfl ?_
      refine aw_imul (pc := 121) C dX1_passOn_121 ?_
      refine aw_iload (pc := 122) C dX1_passOn_122 0 rfl ?_
      refine aw_iadd (pc := 124) C dX1_passOn_124 ?_
      obtain ⟨x13, ex13, h⟩ := bd_some h
      refine aw_istore (pc := 125) C (x := x13) (lv' := [(10, .int x13), (9, .int s0), (0, .ref (ad a0)), (1, .ref (ad a1)), (2, .int v2), (3, .int v3), (4, .int v4), (5, .int v5), (6, .int v6), (7, .int v7), (8, .int v8)]) dX1_passOn_125 (by decide) ex13 rfl ?_
      refine aw_aload_n (pc := 127) C dX1_passOn_127 rfl 2 rfl ?_
      refine aw_get (pc := 128) C (a := a0) (k := 0) (v := .ref (ad (a0 + 1))) inX1 (kdL_ ha0) rfl (by decide) q51 dX1_passOn_128 rfl ?_
      refine aw_iload (pc := 131) C dX1_passOn_131 0 rfl ?_
      obtain ⟨g14, h⟩ := ck_some h
      refine aw_iaload (pc := 133) C (a := (a0 + 1)) ((kdLk (k := 1) ha0 rfl rfl)) g14 dX1_passOn_133 ?_
      obtain ⟨x15, ex15, h⟩ := bd_some h
      refine aw_istore (pc := 134) C (x := x15) (lv' := [(11, .int x15), (10, .int x13), (9, .int s0), (0, .ref (ad a0)), (1, .ref (ad a1)), (2, .int v2), (3, .int v3), (4, .int v4), (5, .int v5), (6, .int v6), (7, .int v7), (8, .int v8)]) dX1_passOn_134 (by decide) ex15 rfl ?_
      refine aw_aload_n (pc := 136) C dX1_passOn_136 rfl 3 rfl ?_
      refine aw_get (pc := 137) C (a := a0) (k := 0) (v := .ref (ad (a0 + 1))) inX1 (kdL_ ha0) rfl (by decide) q51 dX1_passOn_137 rfl ?_
      refine aw_iload (pc := 140) C dX1_passOn_140 1 rfl ?_
      refine aw_dup2 (pc := 142) C dX1_passOn_142 rfl rfl ?_
      obtain ⟨g16, h⟩ := ck_some h
      refine aw_iaload (pc := 143) C (a := (a0 + 1)) ((kdLk (k := 1) ha0 rfl rfl)) g16 dX1_passOn_143 ?_
      refine aw_aload_n (pc := 144) C dX1_passOn_144 rfl 3 rfl ?_
      refine aw_get (pc := 145) C (a := a0) (k := 0) (v := .ref (ad (a0 + 1))) inX1 (kdL_ ha0) rfl (by decide) q51 dX1_passOn_145 rfl ?_
      refine aw_iload (pc := 148) C dX1_passOn_148 7 rfl ?_
      refine aw_bipush (pc := 150) C (v := 26) dX1_passOn_150 rfl ?_
      refine aw_imul (pc := 152) C dX1_passOn_152 ?_
      refine aw_iload (pc := 153) C dX1_passOn_153 11 rfl ?_
      refine aw_iadd (pc := 155) C dX1_passOn_155 ?_
      obtain ⟨g17, h⟩ := ck_some h
      refine aw_iaload (pc := 156) C (a := (a0 + 1)) ((kdLk (k := 1) ha0 rfl rfl)) g17 dX1_passOn_156 ?_
      refine aw_ior (pc := 157) C dX1_passOn_157 ?_
      obtain ⟨g18, h⟩ := ck_some h
      obtain ⟨μ19, eμ19, h⟩ := bd_some h
      refine aw_iastore (pc := 158) C (a := (a0 + 1)) ((kdLk (k := 1) ha0 rfl rfl)) g18 dX1_passOn_158 eμ19 ?_
      refine aw_aload_n (pc := 159) C dX1_passOn_159 rfl 3 rfl ?_
      refine aw_get (pc := 160) C (a := a0) (k := 4) (v := .ref (ad (a0 + 5))) inX1 (kdL_ ha0) rfl (by decide) q61 dX1_passOn_160 rfl ?_
      refine aw_iload_n (pc := 163) C dX1_passOn_163 rfl 6 rfl ?_
      refine aw_dup2 (pc := 164) C dX1_passOn_164 rfl rfl ?_
      obtain ⟨g20, h⟩ := ck_some h
      refine aw_iaload (pc := 165) C (a := (a0 + 5)) ((kdLk (k := 5) ha0 rfl rfl)) g20 dX1_passOn_165 ?_
      refine aw_iconst (pc := 166) C (v := 1) dX1_passOn_166 rfl ?_
      refine aw_iload (pc := 167) C dX1_passOn_167 2 rfl ?_
      refine aw_ishl (pc := 169) C dX1_passOn_169 ?_
      refine aw_ior (pc := 170) C dX1_passOn_170 ?_
      obtain ⟨g21, h⟩ := ck_some h
      obtain ⟨μ22, eμ22, h⟩ := bd_some h
      refine aw_iastore (pc := 171) C (a := (a0 + 5)) ((kdLk (k := 5) ha0 rfl rfl)) g21 dX1_passOn_171 eμ22 ?_
      refine aw_iload (pc := 172) C dX1_passOn_172 10 rfl ?_
      refine aw_aload_n (pc := 174) C dX1_passOn_174 rfl 3 rfl ?_
      refine aw_get (pc := 175) C (a := a0) (k := 0) (v := .ref (ad (a0 + 1))) inX1 (kdL_ ha0) rfl (by decide) q51 dX1_passOn_175 rfl ?_
      refine aw_iload (pc := 178) C dX1_passOn_178 1 rfl ?_
      obtain ⟨g23, h⟩ := ck_some h
      refine aw_iaload (pc := 180) C (a := (a0 + 1)) ((kdLk (k := 1) ha0 rfl rfl)) g23 dX1_passOn_180 ?_
      refine aw_iload (pc := 181) C dX1_passOn_181 0 rfl ?_
      have kJ : AV l p e s m args below meth c D cI cL ad 0 12 (.inr (some (.int r.1))) r.2 191 [(11, .int x15), (10, .int x13), (9, .int s0), (0, .ref (ad a0)), (1, .ref (ad a1)), (2, .int v2), (3, .int v3), (4, .int v4), (5, .int v5), (6, .int v6), (7, .int v7), (8, .int v8)] [.int (if (μ22.1 (a0 + 1) (x13 : Int32).toNatClampNeg) = x15 then (0 : Int32) else 1), .int v7] μ22 := by
        refine aw_ior (pc := 191) C dX1_passOn_191 ?_
        obtain ⟨x24, ex24, h⟩ := bd_some h
        refine aw_istore (pc := 192) C (x := x24) (lv' := [(7, .int x24), (11, .int x15), (10, .int x13), (9, .int s0), (0, .ref (ad a0)), (1, .ref (ad a1)), (2, .int v2), (3, .int v3), (4, .int v4), (5, .int v5), (6, .int v6), (8, .int v8)]) dX1_passOn_192 (by decide) ex24 rfl ?_
        refine aw_iinc (pc := 194) C (v := (v8 + 1)) (lv' := [(8, .int (v8 + 1)), (7, .int x24), (11, .int x15), (10, .int x13), (9, .int s0), (0, .ref (ad a0)), (1, .ref (ad a1)), (2, .int v2), (3, .int v3), (4, .int v4), (5, .int v5), (6, .int v6)]) dX1_passOn_194 11 rfl (by decide) rfl rfl ?_
        refine aw_goto (pc := 197) C 60 dX1_passOn_197 rfl ?_
        refine aw_sub [5, 6, 7, 8, 9, 10, 11, 1, 0] rfl ?_
        exact hk60 v3 v4 v5 v6 x24 (v8 + 1) μ22 h
      refine aw_icmp_eq (pc := 183) C 190 dX1_passOn_183 rfl (fun hd1 => ?_) (fun hd1 => ?_)
      · refine aw_iconst (pc := 190) C (v := 0) dX1_passOn_190 rfl ?_
        rw [if_pos hd1] at kJ
        exact kJ
      · refine aw_iconst (pc := 186) C (v := 1) dX1_passOn_186 rfl ?_
        refine aw_goto (pc := 187) C 191 dX1_passOn_187 rfl ?_
        rw [if_neg hd1] at kJ
        exact kJ
theorem ok_X1_passOn_l60 {l : Launch} {p : Program} {e : Env} {s : State} {m : MethodId} {args : Array Value} {below : List Frame} {meth : Method} {c : Code} {D : va_G} {cI cL : ClassId} {ad : Nat → Nat} (C : CX p l s m args meth c RX1 cX1_passOn 12 (some .boolean) D cI cL (AA ad s.heap.size)) (hex : ∀ x ∈ c.exceptionTable.toList, False) {r : (Int32 × Mm)} {a0 : Nat} {a1 : Nat} {v2 : Int32} (ha0 : isL a0) (ha1 : isF a1) {k60 : Int32 → Int32 → Int32 → Int32 → Int32 → Int32 → Mm → Option (Int32 × Mm)} (hk60 : ∀ (v3 : Int32) (v4 : Int32) (v5 : Int32) (v6 : Int32) (v7 : Int32) (v8 : Int32) (μ : Mm), k60 v3 v4 v5 v6 v7 v8 μ = some r → AV l p e s m args below meth c D cI cL ad 0 12 (.inr (some (.int r.1))) r.2 60 [(0, .ref (ad a0)), (1, .ref (ad a1)), (2, .int v2), (3, .int v3), (4, .int v4), (5, .int v5), (6, .int v6), (7, .int v7), (8, .int v8)] [] μ) {v3 : Int32} {v4 : Int32} {v5 : Int32} {v6 : Int32} {v7 : Int32} {v8 : Int32} {μ : Mm}  (h : X1_passOn_l60 a0 a1 v2 k60 v3 v4 v5 v6 v7 v8 μ = some r) : AV l p e s m args below meth c D cI cL ad 0 12 (.inr (some (.int r.1))) r.2 60 [(0, .ref (ad a0)), (1, .ref (ad a1)), (2, .int v2), (3, .int v3), (4, .int v4), (5, .int v5), (6, .int v6), (7, .int v7), (8, .int v8)] [] μ := by
  unfold X1_passOn_l60 at h
  refine aw_iload (pc := 60) C dX1_passOn_60 8 rfl ?_
  refine aw_bipush (pc := 62) C (v := 26) dX1_passOn_62 rfl ?_
  refine aw_icmp_ge (pc := 64) C 200 dX1_passOn_64 rfl (fun hc => ?_) (fun hc => ?_)
  · replace h := ite_T h hc
    refine aw_iload (pc := 200) C dX1_passOn_200 7 rfl ?_
    obtain ⟨g10, h⟩ := rz_some h
    cases h
    exact aw_zret (pc := 202) C (b01_nar g10) dX1_passOn_202
  · replace h := ite_F h hc
    refine aw_iload (pc := 67) C dX1_passOn_67 6 rfl ?_
    refine aw_iload (pc := 69) C dX1_passOn_69 8 rfl ?_
    refine aw_ishr (pc := 71) C dX1_passOn_71 ?_
    refine aw_if_eq (pc := 72) C 200 dX1_passOn_72 rfl (fun hc => ?_) (fun hc => ?_)
    · replace h := ite_T h hc
      refine aw_iload (pc := 200) C dX1_passOn_200 7 rfl ?_
      obtain ⟨g11, h⟩ := rz_some h
      cases h
      exact aw_zret (pc := 202) C (b01_nar g11) dX1_passOn_202
    · replace h := ite_F h hc
      refine aw_iload (pc := 75) C dX1_passOn_75 5 rfl ?_
      refine aw_iconst (pc := 77) C (v := (-1)) dX1_passOn_77 rfl ?_
      refine aw_icmp_eq (pc := 78) C 90 dX1_passOn_78 rfl (fun hc => ?_) (fun hc => ?_)
      · replace h := ite_T h hc
        refine aw_iload (pc := 90) C dX1_passOn_90 8 rfl ?_
        refine aw_sub [0, 1, 2, 3, 4, 5, 6, 7, 8] rfl ?_
        exact ok_X1_passOn_j92 C hex ha0 ha1 hk60 h
      · replace h := ite_F h hc
        refine aw_aload_n (pc := 81) C dX1_passOn_81 rfl 1 rfl ?_
        refine aw_getN (pc := 82) C (a := a1) (k := 10) (v := .ref (ad (a1 + 8))) inX0 (kdF ha1) rfl (by decide) q105 dX1_passOn_82 rfl ?_
        refine aw_iload_n (pc := 85) C dX1_passOn_85 rfl 2 rfl ?_
        obtain ⟨g25, h⟩ := ck_some h
        refine aw_iaload (pc := 86) C (a := (a1 + 8)) ((kdFk (k := 8) ha1 rfl rfl)) g25 dX1_passOn_86 ?_
        refine aw_goto (pc := 87) C 92 dX1_passOn_87 rfl ?_
        refine aw_sub [0, 1, 2, 3, 4, 5, 6, 7, 8] rfl ?_
        exact ok_X1_passOn_j92 C hex ha0 ha1 hk60 h
theorem ok_X1_passOn_l60_w {l : Launch} {p : Program} {e : Env} {s : State} {m : MethodId} {args : Array Value} {below : List Frame} {meth : Method} {c : Code} {D : va_G} {cI cL : ClassId} {ad : Nat → Nat} (C : CX p l s m args meth c RX1 cX1_passOn 12 (some .boolean) D cI cL (AA ad s.heap.size)) (hex : ∀ x ∈ c.exceptionTable.toList, False) {r : (Int32 × Mm)} {a0 : Nat} {a1 : Nat} {v2 : Int32} (ha0 : isL a0) (ha1 : isF a1) : ∀ (n : Nat) (v3 : Int32) (v4 : Int32) (v5 : Int32) (v6 : Int32) (v7 : Int32) (v8 : Int32) (μ : Mm) , itr (X1_passOn_l60 a0 a1 v2) (fun _ _ _ _ _ _ _ => none) n v3 v4 v5 v6 v7 v8 μ = some r → AV l p e s m args below meth c D cI cL ad 0 12 (.inr (some (.int r.1))) r.2 60 [(0, .ref (ad a0)), (1, .ref (ad a1)), (2, .int v2), (3, .int v3), (4, .int v4), (5, .int v5), (6, .int v6), (7, .int v7), (8, .int v8)] [] μ := by
  intro n
  induction n with
  | zero => intro v3 v4 v5 v6 v7 v8 μ h; exact nomatch (show (none : Option (Int32 × Mm)) = some r from h)
  | succ n ih => intro v3 v4 v5 v6 v7 v8 μ h; exact ok_X1_passOn_l60 C hex (a0 := a0) (a1 := a1) (v2 := v2) ha0 ha1 ih h
theorem ok_X1_passOn {l : Launch} (htr : l.stackTraces = false) {a0 : Nat} {a1 : Nat} {v2 : Int32} {μ : Mm} {r : (Int32 × Mm)} (ha0 : isL a0) (ha1 : isF a1) (h : X1_passOn a0 a1 v2 μ = some r) : MetX l yX1_passOn cX1_passOn 12 (some .boolean) 0 (fun ad => [.ref (ad a0), .ref (ad a1), .int v2]) μ (.inr (some (.int r.1))) r.2 := by
  refine MetX.of htr (by decide) rfl (fun ad => Nat.le_of_ble_eq_true rfl) (fun p e s m args below meth c D cI cL ad C hex hw => ?_)
  show AV l p e s m args below meth c D cI cL ad 0 12 (.inr (some (.int r.1))) r.2 0 [(0, .ref (ad a0)), (1, .ref (ad a1)), (2, .int v2)] [] μ
  unfold X1_passOn at h
  refine aw_aload_n (pc := 0) C dX1_passOn_0 rfl 1 rfl ?_
  refine aw_getN (pc := 1) C (a := a1) (k := 7) (v := .ref (ad (a1 + 5))) inX0 (kdF ha1) rfl (by decide) q96 dX1_passOn_1 rfl ?_
  refine aw_iload_n (pc := 4) C dX1_passOn_4 rfl 2 rfl ?_
  obtain ⟨g1, h⟩ := ck_some h
  refine aw_iaload (pc := 5) C (a := (a1 + 5)) ((kdFk (k := 5) ha1 rfl rfl)) g1 dX1_passOn_5 ?_
  obtain ⟨x2, ex2, h⟩ := bd_some h
  refine aw_istore_n (pc := 6) C (x := x2) (lv' := [(3, .int x2), (0, .ref (ad a0)), (1, .ref (ad a1)), (2, .int v2)]) dX1_passOn_6 rfl (by decide) ex2 rfl ?_
  refine aw_aload_n (pc := 7) C dX1_passOn_7 rfl 2 rfl ?_
  refine aw_getN (pc := 8) C (a := a1) (k := 8) (v := .ref (ad (a1 + 6))) inX0 (kdF ha1) rfl (by decide) q99 dX1_passOn_8 rfl ?_
  refine aw_iload_n (pc := 11) C dX1_passOn_11 rfl 3 rfl ?_
  obtain ⟨g3, h⟩ := ck_some h
  refine aw_iaload (pc := 12) C (a := (a1 + 6)) ((kdFk (k := 6) ha1 rfl rfl)) g3 dX1_passOn_12 ?_
  obtain ⟨x4, ex4, h⟩ := bd_some h
  refine aw_istore (pc := 13) C (x := x4) (lv' := [(4, .int x4), (3, .int x2), (0, .ref (ad a0)), (1, .ref (ad a1)), (2, .int v2)]) dX1_passOn_13 (by decide) ex4 rfl ?_
  refine aw_aload_n (pc := 15) C dX1_passOn_15 rfl 3 rfl ?_
  refine aw_getN (pc := 16) C (a := a1) (k := 9) (v := .ref (ad (a1 + 7))) inX0 (kdF ha1) rfl (by decide) q102 dX1_passOn_16 rfl ?_
  refine aw_iload_n (pc := 19) C dX1_passOn_19 rfl 4 rfl ?_
  obtain ⟨g5, h⟩ := ck_some h
  refine aw_iaload (pc := 20) C (a := (a1 + 7)) ((kdFk (k := 7) ha1 rfl rfl)) g5 dX1_passOn_20 ?_
  obtain ⟨x6, ex6, h⟩ := bd_some h
  refine aw_istore (pc := 21) C (x := x6) (lv' := [(5, .int x6), (4, .int x4), (3, .int x2), (0, .ref (ad a0)), (1, .ref (ad a1)), (2, .int v2)]) dX1_passOn_21 (by decide) ex6 rfl ?_
  refine aw_aload_n (pc := 23) C dX1_passOn_23 rfl 3 rfl ?_
  refine aw_get (pc := 24) C (a := a0) (k := 4) (v := .ref (ad (a0 + 5))) inX1 (kdL_ ha0) rfl (by decide) q61 dX1_passOn_24 rfl ?_
  refine aw_iload (pc := 27) C dX1_passOn_27 1 rfl ?_
  obtain ⟨g7, h⟩ := ck_some h
  refine aw_iaload (pc := 29) C (a := (a0 + 5)) ((kdLk (k := 5) ha0 rfl rfl)) g7 dX1_passOn_29 ?_
  refine aw_iload (pc := 30) C dX1_passOn_30 0 rfl ?_
  refine aw_iconst (pc := 32) C (v := (-1)) dX1_passOn_32 rfl ?_
  refine aw_icmp_eq (pc := 33) C 43 dX1_passOn_33 rfl (fun hc => ?_) (fun hc => ?_)
  · replace h := ite_T h hc
    refine aw_aload_n (pc := 43) C dX1_passOn_43 rfl 4 rfl ?_
    refine aw_getN (pc := 44) C (a := a1) (k := 11) (v := .ref (ad (a1 + 9))) inX0 (kdF ha1) rfl (by decide) q108 dX1_passOn_44 rfl ?_
    refine aw_iload_n (pc := 47) C dX1_passOn_47 rfl 5 rfl ?_
    obtain ⟨g8, h⟩ := ck_some h
    refine aw_iaload (pc := 48) C (a := (a1 + 9)) ((kdFk (k := 9) ha1 rfl rfl)) g8 dX1_passOn_48 ?_
    refine aw_iconst (pc := 49) C (v := (-1)) dX1_passOn_49 rfl ?_
    refine aw_ixor (pc := 50) C dX1_passOn_50 ?_
    refine aw_iand (pc := 51) C dX1_passOn_51 ?_
    obtain ⟨x9, ex9, h⟩ := bd_some h
    refine aw_istore (pc := 52) C (x := x9) (lv' := [(6, .int x9), (5, .int x6), (4, .int x4), (3, .int x2), (0, .ref (ad a0)), (1, .ref (ad a1)), (2, .int v2)]) dX1_passOn_52 (by decide) ex9 rfl ?_
    refine aw_iconst (pc := 54) C (v := 0) dX1_passOn_54 rfl ?_
    refine aw_istore (pc := 55) C (x := 0) (lv' := [(7, .int 0), (6, .int x9), (5, .int x6), (4, .int x4), (3, .int x2), (0, .ref (ad a0)), (1, .ref (ad a1)), (2, .int v2)]) dX1_passOn_55 (by decide) rfl rfl ?_
    refine aw_iconst (pc := 57) C (v := 0) dX1_passOn_57 rfl ?_
    refine aw_istore (pc := 58) C (x := 0) (lv' := [(8, .int 0), (7, .int 0), (6, .int x9), (5, .int x6), (4, .int x4), (3, .int x2), (0, .ref (ad a0)), (1, .ref (ad a1)), (2, .int v2)]) dX1_passOn_58 (by decide) rfl rfl ?_
    refine aw_sub [6, 7, 8, 5, 4, 3, 2, 1, 0] rfl ?_
    exact ok_X1_passOn_l60_w C hex ha0 ha1 big x2 x4 x6 x9 0 0 μ h
  · replace h := ite_F h hc
    refine aw_iconst (pc := 36) C (v := 1) dX1_passOn_36 rfl ?_
    refine aw_iload (pc := 37) C dX1_passOn_37 0 rfl ?_
    refine aw_ishl (pc := 39) C dX1_passOn_39 ?_
    refine aw_goto (pc := 40) C 51 dX1_passOn_40 rfl ?_
    refine aw_iand (pc := 51) C dX1_passOn_51 ?_
    obtain ⟨x26, ex26, h⟩ := bd_some h
    refine aw_istore (pc := 52) C (x := x26) (lv' := [(6, .int x26), (5, .int x6), (4, .int x4), (3, .int x2), (0, .ref (ad a0)), (1, .ref (ad a1)), (2, .int v2)]) dX1_passOn_52 (by decide) ex26 rfl ?_
    refine aw_iconst (pc := 54) C (v := 0) dX1_passOn_54 rfl ?_
    refine aw_istore (pc := 55) C (x := 0) (lv' := [(7, .int 0), (6, .int x26), (5, .int x6), (4, .int x4), (3, .int x2), (0, .ref (ad a0)), (1, .ref (ad a1)), (2, .int v2)]) dX1_passOn_55 (by decide) rfl rfl ?_
    refine aw_iconst (pc := 57) C (v := 0) dX1_passOn_57 rfl ?_
    refine aw_istore (pc := 58) C (x := 0) (lv' := [(8, .int 0), (7, .int 0), (6, .int x26), (5, .int x6), (4, .int x4), (3, .int x2), (0, .ref (ad a0)), (1, .ref (ad a1)), (2, .int v2)]) dX1_passOn_58 (by decide) rfl rfl ?_
    refine aw_sub [6, 7, 8, 5, 4, 3, 2, 1, 0] rfl ?_
    exact ok_X1_passOn_l60_w C hex ha0 ha1 big x2 x4 x6 x26 0 0 μ h
/-! ### NameScopes$Layers.passOnAll(LNameScopes$Facts;)V -/
theorem ok_X1_passOnAll_l22 {l : Launch} {p : Program} {e : Env} {s : State} {m : MethodId} {args : Array Value} {below : List Frame} {meth : Method} {c : Code} {D : va_G} {cI cL : ClassId} {ad : Nat → Nat} (C : CX p l s m args meth c RX1 cX1_passOnAll 7 none D cI cL (AA ad s.heap.size)) (hex : ∀ x ∈ c.exceptionTable.toList, False) {r : Mm} {a0 : Nat} {a1 : Nat} (ha0 : isL a0) (ha1 : isF a1) {k5 : Int32 → Int32 → Mm → Option Mm} {k22 : Int32 → Int32 → Int32 → Int32 → Mm → Option Mm} (hk5 : ∀ (v2 : Int32) (v3 : Int32) (μ : Mm), k5 v2 v3 μ = some r → AV l p e s m args below meth c D cI cL ad 1 7 (.inr none) r 5 [(0, .ref (ad a0)), (1, .ref (ad a1)), (2, .int v2), (3, .int v3)] [] μ) (hk22 : ∀ (v2 : Int32) (v3 : Int32) (v4 : Int32) (v5 : Int32) (μ : Mm), k22 v2 v3 v4 v5 μ = some r → AV l p e s m args below meth c D cI cL ad 1 7 (.inr none) r 22 [(0, .ref (ad a0)), (1, .ref (ad a1)), (2, .int v2), (3, .int v3), (4, .int v4), (5, .int v5)] [] μ) {v2 : Int32} {v3 : Int32} {v4 : Int32} {v5 : Int32} {μ : Mm}  (h : X1_passOnAll_l22 a0 a1 k5 k22 v2 v3 v4 v5 μ = some r) : AV l p e s m args below meth c D cI cL ad 1 7 (.inr none) r 22 [(0, .ref (ad a0)), (1, .ref (ad a1)), (2, .int v2), (3, .int v3), (4, .int v4), (5, .int v5)] [] μ := by
  unfold X1_passOnAll_l22 at h
  refine aw_iload (pc := 22) C dX1_passOnAll_22 5 rfl ?_
  refine aw_aload_n (pc := 24) C dX1_passOnAll_24 rfl 1 rfl ?_
  refine aw_getN (pc := 25) C (a := a1) (k := 6) (v := .int (μ.1 a1 6)) inX0 (kdF ha1) rfl (by decide) q93 dX1_passOnAll_25 rfl ?_
  refine aw_icmp_ge (pc := 28) C 100 dX1_passOnAll_28 rfl (fun hc => ?_) (fun hc => ?_)
  · replace h := ite_T h hc
    refine aw_iload (pc := 100) C dX1_passOnAll_100 4 rfl ?_
    refine aw_istore_n (pc := 102) C (x := v4) (lv' := [(2, .int v4), (0, .ref (ad a0)), (1, .ref (ad a1)), (3, .int v3), (4, .int v4), (5, .int v5)]) dX1_passOnAll_102 rfl (by decide) rfl rfl ?_
    refine aw_iinc (pc := 103) C (v := (v3 + 1)) (lv' := [(3, .int (v3 + 1)), (2, .int v4), (0, .ref (ad a0)), (1, .ref (ad a1)), (4, .int v4), (5, .int v5)]) dX1_passOnAll_103 3 rfl (by decide) rfl rfl ?_
    refine aw_goto (pc := 106) C 5 dX1_passOnAll_106 rfl ?_
    refine aw_sub [2, 3, 1, 0] rfl ?_
    exact hk5 v4 (v3 + 1) μ h
  · replace h := ite_F h hc
    refine aw_iload_n (pc := 31) C dX1_passOnAll_31 rfl 2 rfl ?_
    refine aw_iload (pc := 32) C dX1_passOnAll_32 4 rfl ?_
    refine aw_ior (pc := 34) C dX1_passOnAll_34 ?_
    refine aw_aload_n (pc := 35) C dX1_passOnAll_35 rfl 1 rfl ?_
    refine aw_getN (pc := 36) C (a := a1) (k := 8) (v := .ref (ad (a1 + 6))) inX0 (kdF ha1) rfl (by decide) q99 dX1_passOnAll_36 rfl ?_
    refine aw_iload (pc := 39) C dX1_passOnAll_39 5 rfl ?_
    obtain ⟨g1, h⟩ := ck_some h
    refine aw_iaload (pc := 41) C (a := (a1 + 6)) ((kdFk (k := 6) ha1 rfl rfl)) g1 dX1_passOnAll_41 ?_
    refine aw_ishr (pc := 42) C dX1_passOnAll_42 ?_
    refine aw_iconst (pc := 43) C (v := 1) dX1_passOnAll_43 rfl ?_
    refine aw_iand (pc := 44) C dX1_passOnAll_44 ?_
    have kJ : AV l p e s m args below meth c D cI cL ad 1 7 (.inr none) r 53 [(0, .ref (ad a0)), (1, .ref (ad a1)), (2, .int v2), (3, .int v3), (4, .int v4), (5, .int v5)] [.int (if (((v2 ||| v4) >>> ((μ.1 (a1 + 6) (v5 : Int32).toNatClampNeg) &&& 31)) &&& 1) = 0 then (0 : Int32) else 1)] μ := by
      obtain ⟨x2, ex2, h⟩ := bd_some h
      refine aw_istore (pc := 53) C (x := x2) (lv' := [(6, .int x2), (0, .ref (ad a0)), (1, .ref (ad a1)), (2, .int v2), (3, .int v3), (4, .int v4), (5, .int v5)]) dX1_passOnAll_53 (by decide) ex2 rfl ?_
      refine aw_iload (pc := 55) C dX1_passOnAll_55 0 rfl ?_
      refine aw_if_eq (pc := 57) C 94 dX1_passOnAll_57 rfl (fun hc => ?_) (fun hc => ?_)
      · replace h := ite_T h hc
        refine aw_iinc (pc := 94) C (v := (v5 + 1)) (lv' := [(5, .int (v5 + 1)), (6, .int x2), (0, .ref (ad a0)), (1, .ref (ad a1)), (2, .int v2), (3, .int v3), (4, .int v4)]) dX1_passOnAll_94 6 rfl (by decide) rfl rfl ?_
        refine aw_goto (pc := 97) C 22 dX1_passOnAll_97 rfl ?_
        refine aw_sub [2, 3, 4, 5, 6, 0] rfl ?_
        exact hk22 v2 v3 v4 (v5 + 1) μ h
      · replace h := ite_F h hc
        refine aw_aload_n (pc := 60) C dX1_passOnAll_60 rfl 2 rfl ?_
        refine aw_getN (pc := 61) C (a := a1) (k := 12) (v := .ref (ad (a1 + 10))) inX0 (kdF ha1) rfl (by decide) q111 dX1_passOnAll_61 rfl ?_
        refine aw_iload (pc := 64) C dX1_passOnAll_64 6 rfl ?_
        obtain ⟨g3, h⟩ := ck_some h
        refine aw_iaload (pc := 66) C (a := (a1 + 10)) ((kdFk (k := 10) ha1 rfl rfl)) g3 dX1_passOnAll_66 ?_
        refine aw_if_eq (pc := 67) C 94 dX1_passOnAll_67 rfl (fun hc => ?_) (fun hc => ?_)
        · replace h := ite_T h hc
          refine aw_iinc (pc := 94) C (v := (v5 + 1)) (lv' := [(5, .int (v5 + 1)), (6, .int x2), (0, .ref (ad a0)), (1, .ref (ad a1)), (2, .int v2), (3, .int v3), (4, .int v4)]) dX1_passOnAll_94 6 rfl (by decide) rfl rfl ?_
          refine aw_goto (pc := 97) C 22 dX1_passOnAll_97 rfl ?_
          refine aw_sub [2, 3, 4, 5, 6, 0] rfl ?_
          exact hk22 v2 v3 v4 (v5 + 1) μ h
        · replace h := ite_F h hc
          refine aw_aload_n (pc := 70) C dX1_passOnAll_70 rfl 1 rfl ?_
          refine aw_aload_n (pc := 71) C dX1_passOnAll_71 rfl 2 rfl ?_
          refine aw_iload (pc := 72) C dX1_passOnAll_72 6 rfl ?_
          obtain ⟨q5, μ6, hq4, h⟩ := bn_some h
          refine aw_Vi (pc := 74) (a := a0) (Bs := [.ref (ad a1), .int v5]) C (ok_X1_passOn C.tr ha0 ha1 hq4) kv_X1_passOn q199 (kdL_ ha0) rfl rfl rfl dX1_passOnAll_74 ⟨(show 1 ≤ 1 by decide), (show 31 ≤ 31 by decide)⟩ ⟨Nat.zero_le _, Nat.zero_le _⟩ [] (Nat.le_of_ble_eq_true rfl) rfl ?_
          refine aw_if_eq (pc := 77) C 94 dX1_passOnAll_77 rfl (fun hc => ?_) (fun hc => ?_)
          · replace h := ite_T h hc
            refine aw_iinc (pc := 94) C (v := (v5 + 1)) (lv' := [(5, .int (v5 + 1)), (6, .int x2), (0, .ref (ad a0)), (1, .ref (ad a1)), (2, .int v2), (3, .int v3), (4, .int v4)]) dX1_passOnAll_94 6 rfl (by decide) rfl rfl ?_
            refine aw_goto (pc := 97) C 22 dX1_passOnAll_97 rfl ?_
            refine aw_sub [2, 3, 4, 5, 6, 0] rfl ?_
            exact hk22 v2 v3 v4 (v5 + 1) μ6 h
          · replace h := ite_F h hc
            refine aw_iload (pc := 80) C dX1_passOnAll_80 5 rfl ?_
            refine aw_iconst (pc := 82) C (v := 1) dX1_passOnAll_82 rfl ?_
            refine aw_aload_n (pc := 83) C dX1_passOnAll_83 rfl 2 rfl ?_
            refine aw_getN (pc := 84) C (a := a1) (k := 7) (v := .ref (ad (a1 + 5))) inX0 (kdF ha1) rfl (by decide) q96 dX1_passOnAll_84 rfl ?_
            refine aw_iload (pc := 87) C dX1_passOnAll_87 6 rfl ?_
            obtain ⟨g7, h⟩ := ck_some h
            refine aw_iaload (pc := 89) C (a := (a1 + 5)) ((kdFk (k := 5) ha1 rfl rfl)) g7 dX1_passOnAll_89 ?_
            refine aw_ishl (pc := 90) C dX1_passOnAll_90 ?_
            refine aw_ior (pc := 91) C dX1_passOnAll_91 ?_
            obtain ⟨x8, ex8, h⟩ := bd_some h
            refine aw_istore (pc := 92) C (x := x8) (lv' := [(4, .int x8), (6, .int x2), (0, .ref (ad a0)), (1, .ref (ad a1)), (2, .int v2), (3, .int v3), (5, .int v5)]) dX1_passOnAll_92 (by decide) ex8 rfl ?_
            refine aw_iinc (pc := 94) C (v := (v5 + 1)) (lv' := [(5, .int (v5 + 1)), (4, .int x8), (6, .int x2), (0, .ref (ad a0)), (1, .ref (ad a1)), (2, .int v2), (3, .int v3)]) dX1_passOnAll_94 6 rfl (by decide) rfl rfl ?_
            refine aw_goto (pc := 97) C 22 dX1_passOnAll_97 rfl ?_
            refine aw_sub [3, 4, 5, 6, 1, 0] rfl ?_
            exact hk22 v2 v3 x8 (v5 + 1) μ6 h
    refine aw_if_eq (pc := 45) C 52 dX1_passOnAll_45 rfl (fun hd1 => ?_) (fun hd1 => ?_)
    · refine aw_iconst (pc := 52) C (v := 0) dX1_passOnAll_52 rfl ?_
      rw [if_pos hd1] at kJ
      exact kJ
    · refine aw_iconst (pc := 48) C (v := 1) dX1_passOnAll_48 rfl ?_
      refine aw_goto (pc := 49) C 53 dX1_passOnAll_49 rfl ?_
      rw [if_neg hd1] at kJ
      exact kJ
theorem ok_X1_passOnAll_l22_w {l : Launch} {p : Program} {e : Env} {s : State} {m : MethodId} {args : Array Value} {below : List Frame} {meth : Method} {c : Code} {D : va_G} {cI cL : ClassId} {ad : Nat → Nat} (C : CX p l s m args meth c RX1 cX1_passOnAll 7 none D cI cL (AA ad s.heap.size)) (hex : ∀ x ∈ c.exceptionTable.toList, False) {r : Mm} {a0 : Nat} {a1 : Nat} (ha0 : isL a0) (ha1 : isF a1) {k5 : Int32 → Int32 → Mm → Option Mm} (hk5 : ∀ (v2 : Int32) (v3 : Int32) (μ : Mm), k5 v2 v3 μ = some r → AV l p e s m args below meth c D cI cL ad 1 7 (.inr none) r 5 [(0, .ref (ad a0)), (1, .ref (ad a1)), (2, .int v2), (3, .int v3)] [] μ) : ∀ (n : Nat) (v2 : Int32) (v3 : Int32) (v4 : Int32) (v5 : Int32) (μ : Mm) , itr (X1_passOnAll_l22 a0 a1 k5) (fun _ _ _ _ _ => none) n v2 v3 v4 v5 μ = some r → AV l p e s m args below meth c D cI cL ad 1 7 (.inr none) r 22 [(0, .ref (ad a0)), (1, .ref (ad a1)), (2, .int v2), (3, .int v3), (4, .int v4), (5, .int v5)] [] μ := by
  intro n
  induction n with
  | zero => intro v2 v3 v4 v5 μ h; exact nomatch (show (none : Option Mm) = some r from h)
  | succ n ih => intro v2 v3 v4 v5 μ h; exact ok_X1_passOnAll_l22 C hex (a0 := a0) (a1 := a1) ha0 ha1 hk5 ih h
theorem ok_X1_passOnAll_l5 {l : Launch} {p : Program} {e : Env} {s : State} {m : MethodId} {args : Array Value} {below : List Frame} {meth : Method} {c : Code} {D : va_G} {cI cL : ClassId} {ad : Nat → Nat} (C : CX p l s m args meth c RX1 cX1_passOnAll 7 none D cI cL (AA ad s.heap.size)) (hex : ∀ x ∈ c.exceptionTable.toList, False) {r : Mm} {a0 : Nat} {a1 : Nat} (ha0 : isL a0) (ha1 : isF a1) {k5 : Int32 → Int32 → Mm → Option Mm} (hk5 : ∀ (v2 : Int32) (v3 : Int32) (μ : Mm), k5 v2 v3 μ = some r → AV l p e s m args below meth c D cI cL ad 1 7 (.inr none) r 5 [(0, .ref (ad a0)), (1, .ref (ad a1)), (2, .int v2), (3, .int v3)] [] μ) {v2 : Int32} {v3 : Int32} {μ : Mm}  (h : X1_passOnAll_l5 a0 a1 k5 v2 v3 μ = some r) : AV l p e s m args below meth c D cI cL ad 1 7 (.inr none) r 5 [(0, .ref (ad a0)), (1, .ref (ad a1)), (2, .int v2), (3, .int v3)] [] μ := by
  unfold X1_passOnAll_l5 at h
  refine aw_iload_n (pc := 5) C dX1_passOnAll_5 rfl 3 rfl ?_
  refine aw_sipush (pc := 6) C (v := 12480) dX1_passOnAll_6 rfl ?_
  refine aw_icmp_gt (pc := 9) C 109 dX1_passOnAll_9 rfl (fun hc => ?_) (fun hc => ?_)
  · replace h := ite_T h hc
    cases h
    exact aw_vret (pc := 109) C dX1_passOnAll_109
  · replace h := ite_F h hc
    refine aw_iload_n (pc := 12) C dX1_passOnAll_12 rfl 2 rfl ?_
    refine aw_if_eq (pc := 13) C 109 dX1_passOnAll_13 rfl (fun hc => ?_) (fun hc => ?_)
    · replace h := ite_T h hc
      cases h
      exact aw_vret (pc := 109) C dX1_passOnAll_109
    · replace h := ite_F h hc
      refine aw_iconst (pc := 16) C (v := 0) dX1_passOnAll_16 rfl ?_
      refine aw_istore (pc := 17) C (x := 0) (lv' := [(4, .int 0), (0, .ref (ad a0)), (1, .ref (ad a1)), (2, .int v2), (3, .int v3)]) dX1_passOnAll_17 (by decide) rfl rfl ?_
      refine aw_iconst (pc := 19) C (v := 0) dX1_passOnAll_19 rfl ?_
      refine aw_istore (pc := 20) C (x := 0) (lv' := [(5, .int 0), (4, .int 0), (0, .ref (ad a0)), (1, .ref (ad a1)), (2, .int v2), (3, .int v3)]) dX1_passOnAll_20 (by decide) rfl rfl ?_
      refine aw_sub [2, 3, 4, 5, 1, 0] rfl ?_
      exact ok_X1_passOnAll_l22_w C hex ha0 ha1 hk5 big v2 v3 0 0 μ h
theorem ok_X1_passOnAll_l5_w {l : Launch} {p : Program} {e : Env} {s : State} {m : MethodId} {args : Array Value} {below : List Frame} {meth : Method} {c : Code} {D : va_G} {cI cL : ClassId} {ad : Nat → Nat} (C : CX p l s m args meth c RX1 cX1_passOnAll 7 none D cI cL (AA ad s.heap.size)) (hex : ∀ x ∈ c.exceptionTable.toList, False) {r : Mm} {a0 : Nat} {a1 : Nat} (ha0 : isL a0) (ha1 : isF a1) : ∀ (n : Nat) (v2 : Int32) (v3 : Int32) (μ : Mm) , itr (X1_passOnAll_l5 a0 a1) (fun _ _ _ => none) n v2 v3 μ = some r → AV l p e s m args below meth c D cI cL ad 1 7 (.inr none) r 5 [(0, .ref (ad a0)), (1, .ref (ad a1)), (2, .int v2), (3, .int v3)] [] μ := by
  intro n
  induction n with
  | zero => intro v2 v3 μ h; exact nomatch (show (none : Option Mm) = some r from h)
  | succ n ih => intro v2 v3 μ h; exact ok_X1_passOnAll_l5 C hex (a0 := a0) (a1 := a1) ha0 ha1 ih h
theorem ok_X1_passOnAll {l : Launch} (htr : l.stackTraces = false) {a0 : Nat} {a1 : Nat} {μ : Mm} {r : Mm} (ha0 : isL a0) (ha1 : isF a1) (h : X1_passOnAll a0 a1 μ = some r) : MetX l yX1_passOnAll cX1_passOnAll 7 none 1 (fun ad => [.ref (ad a0), .ref (ad a1)]) μ (.inr none) r := by
  refine MetX.of htr (by decide) rfl (fun ad => Nat.le_of_ble_eq_true rfl) (fun p e s m args below meth c D cI cL ad C hex hw => ?_)
  show AV l p e s m args below meth c D cI cL ad 1 7 (.inr none) r 0 [(0, .ref (ad a0)), (1, .ref (ad a1))] [] μ
  unfold X1_passOnAll at h
  refine aw_ldc (pc := 0) C dX1_passOnAll_0 q198 ?_
  refine aw_istore_n (pc := 2) C (x := 65535) (lv' := [(2, .int 65535), (0, .ref (ad a0)), (1, .ref (ad a1))]) dX1_passOnAll_2 rfl (by decide) rfl rfl ?_
  refine aw_iconst (pc := 3) C (v := 0) dX1_passOnAll_3 rfl ?_
  refine aw_istore_n (pc := 4) C (x := 0) (lv' := [(3, .int 0), (2, .int 65535), (0, .ref (ad a0)), (1, .ref (ad a1))]) dX1_passOnAll_4 rfl (by decide) rfl rfl ?_
  refine aw_sub [2, 3, 1, 0] rfl ?_
  exact ok_X1_passOnAll_l5_w C hex ha0 ha1 big 65535 0 μ h
