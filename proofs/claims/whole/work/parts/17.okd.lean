/-! ### NameScopesModel.begin()I -/
theorem ok_X4_begin {l : Launch} (htr : l.stackTraces = false) {μ : Mm} {r : (Int32 × Mm)}  (h : X4_begin μ = some r) : MetX l yX4_begin cX4_begin 2 (some .int) 1 (fun ad => [.ref (ad 45)]) μ (.inr (some (.int r.1))) r.2 := by
  refine MetX.of htr (by decide) rfl (fun ad => Nat.le_of_ble_eq_true rfl) (fun p e s m args below meth c D cI cL ad C hex hw => ?_)
  show AV l p e s m args below meth c D cI cL ad 1 2 (.inr (some (.int r.1))) r.2 0 [(0, .ref (ad 45))] [] μ
  unfold X4_begin at h
  refine aw_aload_n (pc := 0) C dX4_begin_0 rfl 0 rfl ?_
  refine aw_iconst (pc := 1) C (v := 0) dX4_begin_1 rfl ?_
  obtain ⟨μ1, eμ1, h⟩ := bd_some h
  refine aw_putI (pc := 2) C (a := 45) (k := 0) (ty := .int) inX4 tyX4 tyX4_ok nmX4 rfl rfl (by decide) q740 rfl (by decide +kernel) rfl rfl (by show 0 < 26; decide) dX4_begin_2 fl_4_0 eμ1 ?_
  refine aw_aload_n (pc := 5) C dX4_begin_5 rfl 0 rfl ?_
  refine aw_get (pc := 6) C (a := 45) (k := 1) (v := .ref (ad 46)) inX4 rfl rfl (by decide) q741 dX4_begin_6 rfl ?_
  refine aw_iconst (pc := 9) C (v := 0) dX4_begin_9 rfl ?_
  obtain ⟨g2, h⟩ := ck_some h
  refine aw_iaload (pc := 10) C (a := 46) rfl g2 dX4_begin_10 ?_
  obtain ⟨x3, ex3, h⟩ := bd_some h
  refine aw_istore_n (pc := 11) C (x := x3) (lv' := [(1, .int x3), (0, .ref (ad 45))]) dX4_begin_11 rfl (by decide) ex3 rfl ?_
  refine aw_aload_n (pc := 12) C dX4_begin_12 rfl 1 rfl ?_
  obtain ⟨μ6, hq4, h⟩ := bi_some h
  refine aw_Vv (pc := 13) (a := 45) (Bs := []) C (ok_X4_fresh C.tr hq4) kv_X4_fresh q736 rfl rfl rfl rfl dX4_begin_13 ⟨(show 1 ≤ 1 by decide), (show 21 ≤ 31 by decide)⟩ ⟨Nat.zero_le _, Nat.zero_le _⟩ [] (Nat.le_of_ble_eq_true rfl) rfl ?_
  refine aw_iload_n (pc := 16) C dX4_begin_16 rfl 0 rfl ?_
  cases h
  exact aw_iret (pc := 17) C dX4_begin_17
/-! ### NameScopesModel.canEnd()Z -/
theorem ok_X4_canEnd_j26 {l : Launch} {p : Program} {e : Env} {s : State} {m : MethodId} {args : Array Value} {below : List Frame} {meth : Method} {c : Code} {D : va_G} {cI cL : ClassId} {ad : Nat → Nat} (C : CX p l s m args meth c RX4 cX4_canEnd 1 (some .boolean) D cI cL (AA ad s.heap.size)) (hex : ∀ x ∈ c.exceptionTable.toList, False) {r : Int32} {μ : Mm}  (h : X4_canEnd_j26 μ = some r) : AV l p e s m args below meth c D cI cL ad 0 1 (.inr (some (.int r))) μ 26 [] [] μ := by
  unfold X4_canEnd_j26 at h
  refine aw_iconst (pc := 26) C (v := 1) dX4_canEnd_26 rfl ?_
  refine aw_goto (pc := 27) C 31 dX4_canEnd_27 rfl ?_
  cases h
  exact aw_zret (pc := 31) C (b01_nar b01_1) dX4_canEnd_31
theorem ok_X4_canEnd {l : Launch} (htr : l.stackTraces = false) {μ : Mm} {r : Int32}  (h : X4_canEnd μ = some r) : MetX l yX4_canEnd cX4_canEnd 1 (some .boolean) 0 (fun ad => [.ref (ad 45)]) μ (.inr (some (.int r))) μ := by
  refine MetX.of htr (by decide) rfl (fun ad => Nat.le_of_ble_eq_true rfl) (fun p e s m args below meth c D cI cL ad C hex hw => ?_)
  show AV l p e s m args below meth c D cI cL ad 0 1 (.inr (some (.int r))) μ 0 [(0, .ref (ad 45))] [] μ
  unfold X4_canEnd at h
  refine aw_aload_n (pc := 0) C dX4_canEnd_0 rfl 0 rfl ?_
  refine aw_get (pc := 1) C (a := 45) (k := 12) (v := .int (μ.1 45 12)) inX4 rfl rfl (by decide) q752 dX4_canEnd_1 rfl ?_
  refine aw_iconst (pc := 4) C (v := 5) dX4_canEnd_4 rfl ?_
  refine aw_icmp_eq (pc := 5) C 26 dX4_canEnd_5 rfl (fun hc => ?_) (fun hc => ?_)
  · replace h := ite_T h hc
    refine aw_sub [] rfl ?_
    exact ok_X4_canEnd_j26 C hex h
  · replace h := ite_F h hc
    refine aw_aload_n (pc := 8) C dX4_canEnd_8 rfl 0 rfl ?_
    refine aw_get (pc := 9) C (a := 45) (k := 12) (v := .int (μ.1 45 12)) inX4 rfl rfl (by decide) q752 dX4_canEnd_9 rfl ?_
    refine aw_bipush (pc := 12) C (v := 7) dX4_canEnd_12 rfl ?_
    refine aw_icmp_eq (pc := 14) C 26 dX4_canEnd_14 rfl (fun hc => ?_) (fun hc => ?_)
    · replace h := ite_T h hc
      refine aw_sub [] rfl ?_
      exact ok_X4_canEnd_j26 C hex h
    · replace h := ite_F h hc
      refine aw_aload_n (pc := 17) C dX4_canEnd_17 rfl 0 rfl ?_
      refine aw_get (pc := 18) C (a := 45) (k := 12) (v := .int (μ.1 45 12)) inX4 rfl rfl (by decide) q752 dX4_canEnd_18 rfl ?_
      refine aw_bipush (pc := 21) C (v := 10) dX4_canEnd_21 rfl ?_
      have kJ : AV l p e s m args below meth c D cI cL ad 0 1 (.inr (some (.int r))) μ 31 [(0, .ref (ad 45))] [.int (if (μ.1 45 12) < 10 then (0 : Int32) else 1)] μ := by
        cases h
        exact aw_zret (pc := 31) C (b01_nar (b01_ite b01_0 b01_1)) dX4_canEnd_31
      refine aw_icmp_lt (pc := 23) C 30 dX4_canEnd_23 rfl (fun hd1 => ?_) (fun hd1 => ?_)
      · refine aw_iconst (pc := 30) C (v := 0) dX4_canEnd_30 rfl ?_
        rw [if_pos hd1] at kJ
        exact kJ
      · refine aw_iconst (pc := 26) C (v := 1) dX4_canEnd_26 rfl ?_
        refine aw_goto (pc := 27) C 31 dX4_canEnd_27 rfl ?_
        rw [if_neg hd1] at kJ
        exact kJ
/-! ### NameScopesModel.isName(I)Z -/
theorem ok_X4_isName {l : Launch} (htr : l.stackTraces = false) {v0 : Int32} {μ : Mm} {r : Int32}  (h : X4_isName v0 = some r) : MetX l yX4_isName cX4_isName 1 (some .boolean) 1 (fun ad => [.int v0]) μ (.inr (some (.int r))) μ := by
  refine MetX.of htr (by decide) rfl (fun ad => Nat.le_of_ble_eq_true rfl) (fun p e s m args below meth c D cI cL ad C hex hw => ?_)
  show AV l p e s m args below meth c D cI cL ad 1 1 (.inr (some (.int r))) μ 0 [(0, .int v0)] [] μ
  unfold X4_isName at h
  refine aw_iload_n (pc := 0) C dX4_isName_0 rfl 0 rfl ?_
  refine aw_iconst (pc := 1) C (v := 0) dX4_isName_1 rfl ?_
  refine aw_bipush (pc := 2) C (v := 25) dX4_isName_2 rfl ?_
  obtain ⟨q2, hq1, h⟩ := bi_some h
  refine aw_Si (pc := 4) (Bs := [.int v0, .int 0, .int 25]) C (ok_X4_within C.tr hq1) kv_X4_within q835 rfl rfl dX4_isName_4 ⟨(show 1 ≤ 1 by decide), (show 22 ≤ 31 by decide)⟩ ⟨Nat.zero_le _, Nat.zero_le _⟩ [] (Nat.le_of_ble_eq_true rfl) rfl ?_
  obtain ⟨g3, h⟩ := rz_some h
  cases h
  exact aw_zret (pc := 7) C (b01_nar g3) dX4_isName_7
/-! ### NameScopesModel.layer(III)I -/
theorem ok_X4_layer_j79 {l : Launch} {p : Program} {e : Env} {s : State} {m : MethodId} {args : Array Value} {below : List Frame} {meth : Method} {c : Code} {D : va_G} {cI cL : ClassId} {ad : Nat → Nat} (C : CX p l s m args meth c RX4 cX4_layer 7 (some .int) D cI cL (AA ad s.heap.size)) (hex : ∀ x ∈ c.exceptionTable.toList, False) {r : Int32} {v1 : Int32} {v2 : Int32} {v3 : Int32} {μ : Mm} {k33 : Int32 → Int32 → Option Int32} (hk33 : ∀ (v4 : Int32) (v5 : Int32), k33 v4 v5 = some r → AV l p e s m args below meth c D cI cL ad 3 7 (.inr (some (.int r))) μ 33 [(0, .ref (ad 45)), (1, .int v1), (2, .int v2), (3, .int v3), (4, .int v4), (5, .int v5)] [] μ) {v4 : Int32} {v5 : Int32} {s0 : Int32}  (h : X4_layer_j79 v1 v2 v3 μ k33 v4 v5 s0 = some r) : AV l p e s m args below meth c D cI cL ad 3 7 (.inr (some (.int r))) μ 79 [(0, .ref (ad 45)), (1, .int v1), (2, .int v2), (3, .int v3), (4, .int v4), (5, .int v5)] [.int s0] μ := by
  unfold X4_layer_j79 at h
  refine aw_istore (pc := 79) C (x := s0) (lv' := [(6, .int s0), (0, .ref (ad 45)), (1, .int v1), (2, .int v2), (3, .int v3), (4, .int v4), (5, .int v5)]) dX4_layer_79 (by decide) rfl rfl ?_
  refine aw_iload (pc := 81) C dX4_layer_81 5 rfl ?_
  refine aw_iload (pc := 83) C dX4_layer_83 0 rfl ?_
  refine aw_if_eq (pc := 85) C 98 dX4_layer_85 rfl (fun hc => ?_) (fun hc => ?_)
  · replace h := ite_T h hc
    refine aw_iconst (pc := 98) C (v := 0) dX4_layer_98 rfl ?_
    refine aw_ior (pc := 99) C dX4_layer_99 ?_
    obtain ⟨x4, ex4, h⟩ := bd_some h
    refine aw_istore (pc := 100) C (x := x4) (lv' := [(4, .int x4), (6, .int s0), (0, .ref (ad 45)), (1, .int v1), (2, .int v2), (3, .int v3), (5, .int v5)]) dX4_layer_100 (by decide) ex4 rfl ?_
    refine aw_iinc (pc := 102) C (v := (v5 + 1)) (lv' := [(5, .int (v5 + 1)), (4, .int x4), (6, .int s0), (0, .ref (ad 45)), (1, .int v1), (2, .int v2), (3, .int v3)]) dX4_layer_102 6 rfl (by decide) rfl rfl ?_
    refine aw_goto (pc := 105) C 33 dX4_layer_105 rfl ?_
    refine aw_sub [3, 4, 5, 6, 1, 0] rfl ?_
    exact hk33 x4 (v5 + 1) h
  · replace h := ite_F h hc
    refine aw_aload_n (pc := 88) C dX4_layer_88 rfl 1 rfl ?_
    refine aw_iload (pc := 89) C dX4_layer_89 6 rfl ?_
    refine aw_iload_n (pc := 91) C dX4_layer_91 rfl 3 rfl ?_
    obtain ⟨q6, hq5, h⟩ := bi_some h
    refine aw_Vi (pc := 92) (a := 45) (Bs := [.int v5, .int v2]) C (ok_X4_brought C.tr hq5) kv_X4_brought q918 rfl rfl rfl rfl dX4_layer_92 ⟨(show 3 ≤ 3 by decide), (show 84 ≤ 93 by decide)⟩ ⟨Nat.zero_le _, Nat.zero_le _⟩ [.int v4] (Nat.le_of_ble_eq_true rfl) rfl ?_
    refine aw_goto (pc := 95) C 99 dX4_layer_95 rfl ?_
    refine aw_ior (pc := 99) C dX4_layer_99 ?_
    obtain ⟨x7, ex7, h⟩ := bd_some h
    refine aw_istore (pc := 100) C (x := x7) (lv' := [(4, .int x7), (6, .int s0), (0, .ref (ad 45)), (1, .int v1), (2, .int v2), (3, .int v3), (5, .int v5)]) dX4_layer_100 (by decide) ex7 rfl ?_
    refine aw_iinc (pc := 102) C (v := (v5 + 1)) (lv' := [(5, .int (v5 + 1)), (4, .int x7), (6, .int s0), (0, .ref (ad 45)), (1, .int v1), (2, .int v2), (3, .int v3)]) dX4_layer_102 6 rfl (by decide) rfl rfl ?_
    refine aw_goto (pc := 105) C 33 dX4_layer_105 rfl ?_
    refine aw_sub [3, 4, 5, 6, 1, 0] rfl ?_
    exact hk33 x7 (v5 + 1) h
theorem ok_X4_layer_j78 {l : Launch} {p : Program} {e : Env} {s : State} {m : MethodId} {args : Array Value} {below : List Frame} {meth : Method} {c : Code} {D : va_G} {cI cL : ClassId} {ad : Nat → Nat} (C : CX p l s m args meth c RX4 cX4_layer 7 (some .int) D cI cL (AA ad s.heap.size)) (hex : ∀ x ∈ c.exceptionTable.toList, False) {r : Int32} {v1 : Int32} {v2 : Int32} {v3 : Int32} {μ : Mm} {k33 : Int32 → Int32 → Option Int32} (hk33 : ∀ (v4 : Int32) (v5 : Int32), k33 v4 v5 = some r → AV l p e s m args below meth c D cI cL ad 3 7 (.inr (some (.int r))) μ 33 [(0, .ref (ad 45)), (1, .int v1), (2, .int v2), (3, .int v3), (4, .int v4), (5, .int v5)] [] μ) {v4 : Int32} {v5 : Int32}  (h : X4_layer_j78 v1 v2 v3 μ k33 v4 v5 = some r) : AV l p e s m args below meth c D cI cL ad 3 7 (.inr (some (.int r))) μ 78 [(0, .ref (ad 45)), (1, .int v1), (2, .int v2), (3, .int v3), (4, .int v4), (5, .int v5)] [] μ := by
  unfold X4_layer_j78 at h
  refine aw_iconst (pc := 78) C (v := 0) dX4_layer_78 rfl ?_
  refine aw_sub [0, 1, 2, 3, 4, 5] rfl ?_
  exact ok_X4_layer_j79 C hex hk33 h
theorem ok_X4_layer_l33 {l : Launch} {p : Program} {e : Env} {s : State} {m : MethodId} {args : Array Value} {below : List Frame} {meth : Method} {c : Code} {D : va_G} {cI cL : ClassId} {ad : Nat → Nat} (C : CX p l s m args meth c RX4 cX4_layer 7 (some .int) D cI cL (AA ad s.heap.size)) (hex : ∀ x ∈ c.exceptionTable.toList, False) {r : Int32} {v1 : Int32} {v2 : Int32} {v3 : Int32} {μ : Mm} {k33 : Int32 → Int32 → Option Int32} (hk33 : ∀ (v4 : Int32) (v5 : Int32), k33 v4 v5 = some r → AV l p e s m args below meth c D cI cL ad 3 7 (.inr (some (.int r))) μ 33 [(0, .ref (ad 45)), (1, .int v1), (2, .int v2), (3, .int v3), (4, .int v4), (5, .int v5)] [] μ) {v4 : Int32} {v5 : Int32}  (h : X4_layer_l33 v1 v2 v3 μ k33 v4 v5 = some r) : AV l p e s m args below meth c D cI cL ad 3 7 (.inr (some (.int r))) μ 33 [(0, .ref (ad 45)), (1, .int v1), (2, .int v2), (3, .int v3), (4, .int v4), (5, .int v5)] [] μ := by
  unfold X4_layer_l33 at h
  refine aw_iload (pc := 33) C dX4_layer_33 5 rfl ?_
  refine aw_aload_n (pc := 35) C dX4_layer_35 rfl 0 rfl ?_
  refine aw_get (pc := 36) C (a := 45) (k := 1) (v := .ref (ad 46)) inX4 rfl rfl (by decide) q741 dX4_layer_36 rfl ?_
  refine aw_iconst (pc := 39) C (v := 2) dX4_layer_39 rfl ?_
  obtain ⟨g1, h⟩ := ck_some h
  refine aw_iaload (pc := 40) C (a := 46) rfl g1 dX4_layer_40 ?_
  refine aw_icmp_ge (pc := 41) C 108 dX4_layer_41 rfl (fun hc => ?_) (fun hc => ?_)
  · replace h := ite_T h hc
    refine aw_iload (pc := 108) C dX4_layer_108 4 rfl ?_
    cases h
    exact aw_iret (pc := 110) C dX4_layer_110
  · replace h := ite_F h hc
    refine aw_aload_n (pc := 44) C dX4_layer_44 rfl 0 rfl ?_
    refine aw_iload (pc := 45) C dX4_layer_45 5 rfl ?_
    refine aw_iconst (pc := 47) C (v := 0) dX4_layer_47 rfl ?_
    obtain ⟨q3, hq2, h⟩ := bi_some h
    refine aw_Vi (pc := 48) (a := 45) (Bs := [.int v5, .int 0]) C (ok_X4_at C.tr hq2) kv_X4_at q914 rfl rfl rfl rfl dX4_layer_48 ⟨(show 1 ≤ 3 by decide), (show 22 ≤ 93 by decide)⟩ ⟨Nat.zero_le _, Nat.zero_le _⟩ [] (Nat.le_of_ble_eq_true rfl) rfl ?_
    refine aw_iload_n (pc := 51) C dX4_layer_51 rfl 1 rfl ?_
    refine aw_icmp_ne (pc := 52) C 78 dX4_layer_52 rfl (fun hc => ?_) (fun hc => ?_)
    · replace h := ite_F h hc
      refine aw_sub [0, 1, 2, 3, 4, 5] rfl ?_
      exact ok_X4_layer_j78 C hex hk33 h
    · replace h := ite_T h hc
      refine aw_aload_n (pc := 55) C dX4_layer_55 rfl 0 rfl ?_
      refine aw_iload (pc := 56) C dX4_layer_56 5 rfl ?_
      obtain ⟨q9, hq8, h⟩ := bi_some h
      refine aw_Vi (pc := 58) (a := 45) (Bs := [.int v5]) C (ok_X4_isSingle C.tr hq8) kv_X4_isSingle q922 rfl rfl rfl rfl dX4_layer_58 ⟨(show 2 ≤ 3 by decide), (show 52 ≤ 93 by decide)⟩ ⟨Nat.zero_le _, Nat.zero_le _⟩ [] (Nat.le_of_ble_eq_true rfl) rfl ?_
      refine aw_iload_n (pc := 61) C dX4_layer_61 rfl 3 rfl ?_
      refine aw_iconst (pc := 62) C (v := 1) dX4_layer_62 rfl ?_
      have kJ : AV l p e s m args below meth c D cI cL ad 3 7 (.inr (some (.int r))) μ 71 [(0, .ref (ad 45)), (1, .int v1), (2, .int v2), (3, .int v3), (4, .int v4), (5, .int v5)] [.int (if v3 = 1 then (1 : Int32) else 0), .int q9] μ := by
        have kJ : AV l p e s m args below meth c D cI cL ad 3 7 (.inr (some (.int r))) μ 79 [(0, .ref (ad 45)), (1, .int v1), (2, .int v2), (3, .int v3), (4, .int v4), (5, .int v5)] [.int (if q9 = (if v3 = 1 then (1 : Int32) else 0) then (1 : Int32) else 0)] μ := by
          obtain ⟨x10, ex10, h⟩ := bd_some h
          refine aw_istore (pc := 79) C (x := x10) (lv' := [(6, .int x10), (0, .ref (ad 45)), (1, .int v1), (2, .int v2), (3, .int v3), (4, .int v4), (5, .int v5)]) dX4_layer_79 (by decide) ex10 rfl ?_
          refine aw_iload (pc := 81) C dX4_layer_81 5 rfl ?_
          refine aw_iload (pc := 83) C dX4_layer_83 0 rfl ?_
          refine aw_if_eq (pc := 85) C 98 dX4_layer_85 rfl (fun hc => ?_) (fun hc => ?_)
          · replace h := ite_T h hc
            refine aw_iconst (pc := 98) C (v := 0) dX4_layer_98 rfl ?_
            refine aw_ior (pc := 99) C dX4_layer_99 ?_
            obtain ⟨x11, ex11, h⟩ := bd_some h
            refine aw_istore (pc := 100) C (x := x11) (lv' := [(4, .int x11), (6, .int x10), (0, .ref (ad 45)), (1, .int v1), (2, .int v2), (3, .int v3), (5, .int v5)]) dX4_layer_100 (by decide) ex11 rfl ?_
            refine aw_iinc (pc := 102) C (v := (v5 + 1)) (lv' := [(5, .int (v5 + 1)), (4, .int x11), (6, .int x10), (0, .ref (ad 45)), (1, .int v1), (2, .int v2), (3, .int v3)]) dX4_layer_102 6 rfl (by decide) rfl rfl ?_
            refine aw_goto (pc := 105) C 33 dX4_layer_105 rfl ?_
            refine aw_sub [3, 4, 5, 6, 1, 0] rfl ?_
            exact hk33 x11 (v5 + 1) h
          · replace h := ite_F h hc
            refine aw_aload_n (pc := 88) C dX4_layer_88 rfl 1 rfl ?_
            refine aw_iload (pc := 89) C dX4_layer_89 6 rfl ?_
            refine aw_iload_n (pc := 91) C dX4_layer_91 rfl 3 rfl ?_
            obtain ⟨q13, hq12, h⟩ := bi_some h
            refine aw_Vi (pc := 92) (a := 45) (Bs := [.int v5, .int v2]) C (ok_X4_brought C.tr hq12) kv_X4_brought q918 rfl rfl rfl rfl dX4_layer_92 ⟨(show 3 ≤ 3 by decide), (show 84 ≤ 93 by decide)⟩ ⟨Nat.zero_le _, Nat.zero_le _⟩ [.int v4] (Nat.le_of_ble_eq_true rfl) rfl ?_
            refine aw_goto (pc := 95) C 99 dX4_layer_95 rfl ?_
            refine aw_ior (pc := 99) C dX4_layer_99 ?_
            obtain ⟨x14, ex14, h⟩ := bd_some h
            refine aw_istore (pc := 100) C (x := x14) (lv' := [(4, .int x14), (6, .int x10), (0, .ref (ad 45)), (1, .int v1), (2, .int v2), (3, .int v3), (5, .int v5)]) dX4_layer_100 (by decide) ex14 rfl ?_
            refine aw_iinc (pc := 102) C (v := (v5 + 1)) (lv' := [(5, .int (v5 + 1)), (4, .int x14), (6, .int x10), (0, .ref (ad 45)), (1, .int v1), (2, .int v2), (3, .int v3)]) dX4_layer_102 6 rfl (by decide) rfl rfl ?_
            refine aw_goto (pc := 105) C 33 dX4_layer_105 rfl ?_
            refine aw_sub [3, 4, 5, 6, 1, 0] rfl ?_
            exact hk33 x14 (v5 + 1) h
        refine aw_icmp_ne (pc := 71) C 78 dX4_layer_71 rfl (fun hd1 => ?_) (fun hd1 => ?_)
        · refine aw_iconst (pc := 78) C (v := 0) dX4_layer_78 rfl ?_
          rw [if_neg hd1] at kJ
          exact kJ
        · refine aw_iconst (pc := 74) C (v := 1) dX4_layer_74 rfl ?_
          refine aw_goto (pc := 75) C 79 dX4_layer_75 rfl ?_
          rw [if_pos hd1] at kJ
          exact kJ
      refine aw_icmp_ne (pc := 63) C 70 dX4_layer_63 rfl (fun hd1 => ?_) (fun hd1 => ?_)
      · refine aw_iconst (pc := 70) C (v := 0) dX4_layer_70 rfl ?_
        rw [if_neg hd1] at kJ
        exact kJ
      · refine aw_iconst (pc := 66) C (v := 1) dX4_layer_66 rfl ?_
        refine aw_goto (pc := 67) C 71 dX4_layer_67 rfl ?_
        rw [if_pos hd1] at kJ
        exact kJ
theorem ok_X4_layer_l33_w {l : Launch} {p : Program} {e : Env} {s : State} {m : MethodId} {args : Array Value} {below : List Frame} {meth : Method} {c : Code} {D : va_G} {cI cL : ClassId} {ad : Nat → Nat} (C : CX p l s m args meth c RX4 cX4_layer 7 (some .int) D cI cL (AA ad s.heap.size)) (hex : ∀ x ∈ c.exceptionTable.toList, False) {r : Int32} {v1 : Int32} {v2 : Int32} {v3 : Int32} {μ : Mm} : ∀ (n : Nat) (v4 : Int32) (v5 : Int32) , itr (X4_layer_l33 v1 v2 v3 μ) (fun _ _ => none) n v4 v5 = some r → AV l p e s m args below meth c D cI cL ad 3 7 (.inr (some (.int r))) μ 33 [(0, .ref (ad 45)), (1, .int v1), (2, .int v2), (3, .int v3), (4, .int v4), (5, .int v5)] [] μ := by
  intro n
  induction n with
  | zero => intro v4 v5 h; exact nomatch (show (none : Option Int32) = some r from h)
  | succ n ih => intro v4 v5 h; exact ok_X4_layer_l33 C hex (v1 := v1) (v2 := v2) (v3 := v3) (μ := μ) ih h
theorem ok_X4_layer {l : Launch} (htr : l.stackTraces = false) {v1 : Int32} {v2 : Int32} {v3 : Int32} {μ : Mm} {r : Int32}  (h : X4_layer v1 v2 v3 μ = some r) : MetX l yX4_layer cX4_layer 7 (some .int) 3 (fun ad => [.ref (ad 45), .int v1, .int v2, .int v3]) μ (.inr (some (.int r))) μ := by
  refine MetX.of htr (by decide) rfl (fun ad => Nat.le_of_ble_eq_true rfl) (fun p e s m args below meth c D cI cL ad C hex hw => ?_)
  show AV l p e s m args below meth c D cI cL ad 3 7 (.inr (some (.int r))) μ 0 [(0, .ref (ad 45)), (1, .int v1), (2, .int v2), (3, .int v3)] [] μ
  unfold X4_layer at h
  refine aw_iload_n (pc := 0) C dX4_layer_0 rfl 3 rfl ?_
  refine aw_if_ne (pc := 1) C 27 dX4_layer_1 rfl (fun hc => ?_) (fun hc => ?_)
  · replace h := ite_F h hc
    refine aw_iconst (pc := 27) C (v := 0) dX4_layer_27 rfl ?_
    refine aw_istore (pc := 28) C (x := 0) (lv' := [(4, .int 0), (0, .ref (ad 45)), (1, .int v1), (2, .int v2), (3, .int v3)]) dX4_layer_28 (by decide) rfl rfl ?_
    refine aw_iconst (pc := 30) C (v := 0) dX4_layer_30 rfl ?_
    refine aw_istore (pc := 31) C (x := 0) (lv' := [(5, .int 0), (4, .int 0), (0, .ref (ad 45)), (1, .int v1), (2, .int v2), (3, .int v3)]) dX4_layer_31 (by decide) rfl rfl ?_
    refine aw_sub [2, 3, 4, 5, 1, 0] rfl ?_
    exact ok_X4_layer_l33_w C hex big 0 0 h
  · replace h := ite_T h hc
    refine aw_aload_n (pc := 4) C dX4_layer_4 rfl 0 rfl ?_
    refine aw_iload_n (pc := 5) C dX4_layer_5 rfl 1 rfl ?_
    refine aw_iload_n (pc := 6) C dX4_layer_6 rfl 2 rfl ?_
    obtain ⟨q16, hq15, h⟩ := bi_some h
    refine aw_Vi (pc := 7) (a := 45) (Bs := [.int v1, .int v2]) C (ok_X4_declaredIn C.tr hq15) kv_X4_declaredIn q845 rfl rfl rfl rfl dX4_layer_7 ⟨(show 2 ≤ 3 by decide), (show 55 ≤ 93 by decide)⟩ ⟨Nat.zero_le _, Nat.zero_le _⟩ [] (Nat.le_of_ble_eq_true rfl) rfl ?_
    refine aw_istore (pc := 10) C (x := q16) (lv' := [(4, .int q16), (0, .ref (ad 45)), (1, .int v1), (2, .int v2), (3, .int v3)]) dX4_layer_10 (by decide) rfl rfl ?_
    refine aw_iload (pc := 12) C dX4_layer_12 0 rfl ?_
    refine aw_iconst (pc := 14) C (v := (-1)) dX4_layer_14 rfl ?_
    have kJ : AV l p e s m args below meth c D cI cL ad 3 7 (.inr (some (.int r))) μ 26 [(4, .int q16), (0, .ref (ad 45)), (1, .int v1), (2, .int v2), (3, .int v3)] [.int (if q16 = (-1) then (0 : Int32) else (1 <<< (q16 &&& 31)))] μ := by
      cases h
      exact aw_iret (pc := 26) C dX4_layer_26
    refine aw_icmp_ne (pc := 15) C 22 dX4_layer_15 rfl (fun hd1 => ?_) (fun hd1 => ?_)
    · refine aw_iconst (pc := 22) C (v := 1) dX4_layer_22 rfl ?_
      refine aw_iload (pc := 23) C dX4_layer_23 0 rfl ?_
      refine aw_ishl (pc := 25) C dX4_layer_25 ?_
      rw [if_neg hd1] at kJ
      exact kJ
    · refine aw_iconst (pc := 18) C (v := 0) dX4_layer_18 rfl ?_
      refine aw_goto (pc := 19) C 26 dX4_layer_19 rfl ?_
      rw [if_pos hd1] at kJ
      exact kJ
/-! ### NameScopesModel.layLayers(II)V -/
theorem ok_X4_layLayers_l23 {l : Launch} {p : Program} {e : Env} {s : State} {m : MethodId} {args : Array Value} {below : List Frame} {meth : Method} {c : Code} {D : va_G} {cI cL : ClassId} {ad : Nat → Nat} (C : CX p l s m args meth c RX4 cX4_layLayers 7 none D cI cL (AA ad s.heap.size)) (hex : ∀ x ∈ c.exceptionTable.toList, False) {r : Mm} {v1 : Int32} {v2 : Int32} {k14 : Int32 → Int32 → Mm → Option Mm} {k23 : Int32 → Int32 → Int32 → Mm → Option Mm} (hk14 : ∀ (v3 : Int32) (v4 : Int32) (μ : Mm), k14 v3 v4 μ = some r → AV l p e s m args below meth c D cI cL ad 5 7 (.inr none) r 14 [(0, .ref (ad 45)), (2, .int v2), (3, .int v3), (4, .int v4)] [] μ) (hk23 : ∀ (v3 : Int32) (v4 : Int32) (v5 : Int32) (μ : Mm), k23 v3 v4 v5 μ = some r → AV l p e s m args below meth c D cI cL ad 5 7 (.inr none) r 23 [(0, .ref (ad 45)), (2, .int v2), (3, .int v3), (4, .int v4), (5, .int v5)] [] μ) {v3 : Int32} {v4 : Int32} {v5 : Int32} {μ : Mm}  (h : X4_layLayers_l23 v1 v2 k14 k23 v3 v4 v5 μ = some r) : AV l p e s m args below meth c D cI cL ad 5 7 (.inr none) r 23 [(0, .ref (ad 45)), (2, .int v2), (3, .int v3), (4, .int v4), (5, .int v5)] [] μ := by
  unfold X4_layLayers_l23 at h
  refine aw_iload (pc := 23) C dX4_layLayers_23 4 rfl ?_
  refine aw_iconst (pc := 25) C (v := 3) dX4_layLayers_25 rfl ?_
  refine aw_icmp_ge (pc := 26) C 97 dX4_layLayers_26 rfl (fun hc => ?_) (fun hc => ?_)
  · replace h := ite_T h hc
    refine aw_iinc (pc := 97) C (v := (v3 + 1)) (lv' := [(3, .int (v3 + 1)), (0, .ref (ad 45)), (2, .int v2), (4, .int v4), (5, .int v5)]) dX4_layLayers_97 2 rfl (by decide) rfl rfl ?_
    refine aw_aload_n (pc := 100) C dX4_layLayers_100 rfl 1 rfl ?_
    refine aw_get (pc := 101) C (a := 45) (k := 1) (v := .ref (ad 46)) inX4 rfl rfl (by decide) q741 dX4_layLayers_101 rfl ?_
    refine aw_iconst (pc := 104) C (v := 4) dX4_layLayers_104 rfl ?_
    refine aw_iload (pc := 105) C dX4_layLayers_105 3 rfl ?_
    refine aw_iadd (pc := 107) C dX4_layLayers_107 ?_
    obtain ⟨g5, h⟩ := ck_some h
    refine aw_iaload (pc := 108) C (a := 46) rfl g5 dX4_layLayers_108 ?_
    obtain ⟨x6, ex6, h⟩ := bd_some h
    refine aw_istore (pc := 109) C (x := x6) (lv' := [(4, .int x6), (3, .int (v3 + 1)), (0, .ref (ad 45)), (2, .int v2), (5, .int v5)]) dX4_layLayers_109 (by decide) ex6 rfl ?_
    refine aw_goto (pc := 111) C 14 dX4_layLayers_111 rfl ?_
    refine aw_sub [2, 3, 1, 0] rfl ?_
    exact hk14 (v3 + 1) x6 μ h
  · replace h := ite_F h hc
    refine aw_aload_n (pc := 29) C dX4_layLayers_29 rfl 0 rfl ?_
    refine aw_iload (pc := 30) C dX4_layLayers_30 3 rfl ?_
    refine aw_iload_n (pc := 32) C dX4_layLayers_32 rfl 1 rfl ?_
    refine aw_iload (pc := 33) C dX4_layLayers_33 4 rfl ?_
    obtain ⟨q8, hq7, h⟩ := bi_some h
    refine aw_Vi (pc := 35) (a := 45) (Bs := [.int v4, .int v2, .int v5]) C (ok_X4_layer C.tr hq7) kv_X4_layer q930 rfl rfl rfl rfl dX4_layLayers_35 ⟨(show 4 ≤ 5 by decide), (show 119 ≤ 155 by decide)⟩ ⟨Nat.zero_le _, Nat.zero_le _⟩ [] (Nat.le_of_ble_eq_true rfl) rfl ?_
    refine aw_istore (pc := 38) C (x := q8) (lv' := [(6, .int q8), (0, .ref (ad 45)), (2, .int v2), (3, .int v3), (4, .int v4), (5, .int v5)]) dX4_layLayers_38 (by decide) rfl rfl ?_
    refine aw_aload_n (pc := 40) C dX4_layLayers_40 rfl 1 rfl ?_
    refine aw_get (pc := 41) C (a := 45) (k := 8) (v := .ref (ad 50)) inX4 rfl rfl (by decide) q748 dX4_layLayers_41 rfl ?_
    refine aw_aload_n (pc := 44) C dX4_layLayers_44 rfl 1 rfl ?_
    refine aw_get (pc := 45) C (a := 45) (k := 7) (v := .int (μ.1 45 7)) inX4 rfl rfl (by decide) q747 dX4_layLayers_45 rfl ?_
    refine aw_iload (pc := 48) C dX4_layLayers_48 0 rfl ?_
    obtain ⟨g9, h⟩ := ck_some h
    obtain ⟨μ10, eμ10, h⟩ := bd_some h
    refine aw_iastore (pc := 50) C (a := 50) rfl g9 dX4_layLayers_50 eμ10 ?_
    refine aw_aload_n (pc := 51) C dX4_layLayers_51 rfl 1 rfl ?_
    refine aw_get (pc := 52) C (a := 45) (k := 9) (v := .ref (ad 51)) inX4 rfl rfl (by decide) q749 dX4_layLayers_52 rfl ?_
    refine aw_aload_n (pc := 55) C dX4_layLayers_55 rfl 1 rfl ?_
    refine aw_get (pc := 56) C (a := 45) (k := 7) (v := .int (μ10.1 45 7)) inX4 rfl rfl (by decide) q747 dX4_layLayers_56 rfl ?_
    refine aw_iload (pc := 59) C dX4_layLayers_59 5 rfl ?_
    obtain ⟨g11, h⟩ := ck_some h
    obtain ⟨μ12, eμ12, h⟩ := bd_some h
    refine aw_iastore (pc := 61) C (a := 51) rfl g11 dX4_layLayers_61 eμ12 ?_
    refine aw_aload_n (pc := 62) C dX4_layLayers_62 rfl 1 rfl ?_
    refine aw_get (pc := 63) C (a := 45) (k := 10) (v := .ref (ad 52)) inX4 rfl rfl (by decide) q750 dX4_layLayers_63 rfl ?_
    refine aw_aload_n (pc := 66) C dX4_layLayers_66 rfl 1 rfl ?_
    refine aw_get (pc := 67) C (a := 45) (k := 7) (v := .int (μ12.1 45 7)) inX4 rfl rfl (by decide) q747 dX4_layLayers_67 rfl ?_
    refine aw_iload_n (pc := 70) C dX4_layLayers_70 rfl 3 rfl ?_
    obtain ⟨g13, h⟩ := ck_some h
    obtain ⟨μ14, eμ14, h⟩ := bd_some h
    refine aw_iastore (pc := 71) C (a := 52) rfl g13 dX4_layLayers_71 eμ14 ?_
    refine aw_aload_n (pc := 72) C dX4_layLayers_72 rfl 1 rfl ?_
    refine aw_dup (pc := 73) C dX4_layLayers_73 rfl ?_
    refine aw_get (pc := 74) C (a := 45) (k := 7) (v := .int (μ14.1 45 7)) inX4 rfl rfl (by decide) q747 dX4_layLayers_74 rfl ?_
    refine aw_iload (pc := 77) C dX4_layLayers_77 0 rfl ?_
    have kJ : AV l p e s m args below meth c D cI cL ad 5 7 (.inr none) r 87 [(6, .int q8), (0, .ref (ad 45)), (2, .int v2), (3, .int v3), (4, .int v4), (5, .int v5)] [.int (if q8 = 0 then (0 : Int32) else 1), .int (μ14.1 45 7), .ref (ad 45)] μ14 := by
      refine aw_iadd (pc := 87) C dX4_layLayers_87 ?_
      obtain ⟨μ15, eμ15, h⟩ := bd_some h
      refine aw_putI (pc := 88) C (a := 45) (k := 7) (ty := .int) inX4 tyX4 tyX4_ok nmX4 rfl rfl (by decide) q747 rfl (by decide +kernel) rfl rfl (by show 7 < 26; decide) dX4_layLayers_88 fl_4_7 eμ15 ?_
      refine aw_iinc (pc := 91) C (v := (v5 + 1)) (lv' := [(5, .int (v5 + 1)), (6, .int q8), (0, .ref (ad 45)), (2, .int v2), (3, .int v3), (4, .int v4)]) dX4_layLayers_91 5 rfl (by decide) rfl rfl ?_
      refine aw_goto (pc := 94) C 23 dX4_layLayers_94 rfl ?_
      refine aw_sub [2, 3, 4, 5, 0] rfl ?_
      exact hk23 v3 v4 (v5 + 1) μ15 h
    refine aw_if_ne (pc := 79) C 86 dX4_layLayers_79 rfl (fun hd1 => ?_) (fun hd1 => ?_)
    · refine aw_iconst (pc := 86) C (v := 1) dX4_layLayers_86 rfl ?_
      rw [if_neg hd1] at kJ
      exact kJ
    · refine aw_iconst (pc := 82) C (v := 0) dX4_layLayers_82 rfl ?_
      refine aw_goto (pc := 83) C 87 dX4_layLayers_83 rfl ?_
      rw [if_pos hd1] at kJ
      exact kJ
theorem ok_X4_layLayers_l23_w {l : Launch} {p : Program} {e : Env} {s : State} {m : MethodId} {args : Array Value} {below : List Frame} {meth : Method} {c : Code} {D : va_G} {cI cL : ClassId} {ad : Nat → Nat} (C : CX p l s m args meth c RX4 cX4_layLayers 7 none D cI cL (AA ad s.heap.size)) (hex : ∀ x ∈ c.exceptionTable.toList, False) {r : Mm} {v1 : Int32} {v2 : Int32} {k14 : Int32 → Int32 → Mm → Option Mm} (hk14 : ∀ (v3 : Int32) (v4 : Int32) (μ : Mm), k14 v3 v4 μ = some r → AV l p e s m args below meth c D cI cL ad 5 7 (.inr none) r 14 [(0, .ref (ad 45)), (2, .int v2), (3, .int v3), (4, .int v4)] [] μ) : ∀ (n : Nat) (v3 : Int32) (v4 : Int32) (v5 : Int32) (μ : Mm) , itr (X4_layLayers_l23 v1 v2 k14) (fun _ _ _ _ => none) n v3 v4 v5 μ = some r → AV l p e s m args below meth c D cI cL ad 5 7 (.inr none) r 23 [(0, .ref (ad 45)), (2, .int v2), (3, .int v3), (4, .int v4), (5, .int v5)] [] μ := by
  intro n
  induction n with
  | zero => intro v3 v4 v5 μ h; exact nomatch (show (none : Option Mm) = some r from h)
  | succ n ih => intro v3 v4 v5 μ h; exact ok_X4_layLayers_l23 C hex (v1 := v1) (v2 := v2) hk14 ih h
theorem ok_X4_layLayers_l14 {l : Launch} {p : Program} {e : Env} {s : State} {m : MethodId} {args : Array Value} {below : List Frame} {meth : Method} {c : Code} {D : va_G} {cI cL : ClassId} {ad : Nat → Nat} (C : CX p l s m args meth c RX4 cX4_layLayers 7 none D cI cL (AA ad s.heap.size)) (hex : ∀ x ∈ c.exceptionTable.toList, False) {r : Mm} {v1 : Int32} {v2 : Int32} {k14 : Int32 → Int32 → Mm → Option Mm} (hk14 : ∀ (v3 : Int32) (v4 : Int32) (μ : Mm), k14 v3 v4 μ = some r → AV l p e s m args below meth c D cI cL ad 5 7 (.inr none) r 14 [(0, .ref (ad 45)), (2, .int v2), (3, .int v3), (4, .int v4)] [] μ) {v3 : Int32} {v4 : Int32} {μ : Mm}  (h : X4_layLayers_l14 v1 v2 k14 v3 v4 μ = some r) : AV l p e s m args below meth c D cI cL ad 5 7 (.inr none) r 14 [(0, .ref (ad 45)), (2, .int v2), (3, .int v3), (4, .int v4)] [] μ := by
  unfold X4_layLayers_l14 at h
  refine aw_iload (pc := 14) C dX4_layLayers_14 3 rfl ?_
  refine aw_iconst (pc := 16) C (v := (-1)) dX4_layLayers_16 rfl ?_
  refine aw_icmp_eq (pc := 17) C 114 dX4_layLayers_17 rfl (fun hc => ?_) (fun hc => ?_)
  · replace h := ite_T h hc
    cases h
    exact aw_vret (pc := 114) C dX4_layLayers_114
  · replace h := ite_F h hc
    refine aw_iconst (pc := 20) C (v := 0) dX4_layLayers_20 rfl ?_
    refine aw_istore (pc := 21) C (x := 0) (lv' := [(5, .int 0), (0, .ref (ad 45)), (2, .int v2), (3, .int v3), (4, .int v4)]) dX4_layLayers_21 (by decide) rfl rfl ?_
    refine aw_sub [1, 2, 3, 4, 0] rfl ?_
    exact ok_X4_layLayers_l23_w C hex hk14 big v3 v4 0 μ h
theorem ok_X4_layLayers_l14_w {l : Launch} {p : Program} {e : Env} {s : State} {m : MethodId} {args : Array Value} {below : List Frame} {meth : Method} {c : Code} {D : va_G} {cI cL : ClassId} {ad : Nat → Nat} (C : CX p l s m args meth c RX4 cX4_layLayers 7 none D cI cL (AA ad s.heap.size)) (hex : ∀ x ∈ c.exceptionTable.toList, False) {r : Mm} {v1 : Int32} {v2 : Int32} : ∀ (n : Nat) (v3 : Int32) (v4 : Int32) (μ : Mm) , itr (X4_layLayers_l14 v1 v2) (fun _ _ _ => none) n v3 v4 μ = some r → AV l p e s m args below meth c D cI cL ad 5 7 (.inr none) r 14 [(0, .ref (ad 45)), (2, .int v2), (3, .int v3), (4, .int v4)] [] μ := by
  intro n
  induction n with
  | zero => intro v3 v4 μ h; exact nomatch (show (none : Option Mm) = some r from h)
  | succ n ih => intro v3 v4 μ h; exact ok_X4_layLayers_l14 C hex (v1 := v1) (v2 := v2) ih h
theorem ok_X4_layLayers {l : Launch} (htr : l.stackTraces = false) {v1 : Int32} {v2 : Int32} {μ : Mm} {r : Mm}  (h : X4_layLayers v1 v2 μ = some r) : MetX l yX4_layLayers cX4_layLayers 7 none 5 (fun ad => [.ref (ad 45), .int v1, .int v2]) μ (.inr none) r := by
  refine MetX.of htr (by decide) rfl (fun ad => Nat.le_of_ble_eq_true rfl) (fun p e s m args below meth c D cI cL ad C hex hw => ?_)
  show AV l p e s m args below meth c D cI cL ad 5 7 (.inr none) r 0 [(0, .ref (ad 45)), (1, .int v1), (2, .int v2)] [] μ
  unfold X4_layLayers at h
  refine aw_aload_n (pc := 0) C dX4_layLayers_0 rfl 0 rfl ?_
  obtain ⟨μ3, hq1, h⟩ := bi_some h
  refine aw_Vv (pc := 1) (a := 45) (Bs := []) C (ok_X4_lay C.tr hq1) kv_X4_lay q906 rfl rfl rfl rfl dX4_layLayers_1 ⟨(show 5 ≤ 5 by decide), (show 145 ≤ 155 by decide)⟩ ⟨Nat.zero_le _, Nat.zero_le _⟩ [] (Nat.le_of_ble_eq_true rfl) rfl ?_
  refine aw_aload_n (pc := 4) C dX4_layLayers_4 rfl 0 rfl ?_
  refine aw_iconst (pc := 5) C (v := 0) dX4_layLayers_5 rfl ?_
  obtain ⟨μ4, eμ4, h⟩ := bd_some h
  refine aw_putI (pc := 6) C (a := 45) (k := 7) (ty := .int) inX4 tyX4 tyX4_ok nmX4 rfl rfl (by decide) q747 rfl (by decide +kernel) rfl rfl (by show 7 < 26; decide) dX4_layLayers_6 fl_4_7 eμ4 ?_
  refine aw_iconst (pc := 9) C (v := 0) dX4_layLayers_9 rfl ?_
  refine aw_istore_n (pc := 10) C (x := 0) (lv' := [(3, .int 0), (0, .ref (ad 45)), (1, .int v1), (2, .int v2)]) dX4_layLayers_10 rfl (by decide) rfl rfl ?_
  refine aw_iload_n (pc := 11) C dX4_layLayers_11 rfl 2 rfl ?_
  refine aw_istore (pc := 12) C (x := v1) (lv' := [(4, .int v1), (3, .int 0), (0, .ref (ad 45)), (1, .int v1), (2, .int v2)]) dX4_layLayers_12 (by decide) rfl rfl ?_
  refine aw_sub [2, 4, 1, 0] rfl ?_
  exact ok_X4_layLayers_l14_w C hex big 0 v1 μ4 h
/-! ### NameScopesModel.candidateOf(IIII)I -/
theorem ok_X4_candidateOf_l37 {l : Launch} {p : Program} {e : Env} {s : State} {m : MethodId} {args : Array Value} {below : List Frame} {meth : Method} {c : Code} {D : va_G} {cI cL : ClassId} {ad : Nat → Nat} (C : CX p l s m args meth c RX4 cX4_candidateOf 8 (some .int) D cI cL (AA ad s.heap.size)) (hex : ∀ x ∈ c.exceptionTable.toList, False) {r : (Int32 × Mm)} {v1 : Int32} {v2 : Int32} {v3 : Int32} {v4 : Int32} {k37 : Int32 → Int32 → Int32 → Mm → Option (Int32 × Mm)} (hk37 : ∀ (v5 : Int32) (v6 : Int32) (v7 : Int32) (μ : Mm), k37 v5 v6 v7 μ = some r → AV l p e s m args below meth c D cI cL ad 6 8 (.inr (some (.int r.1))) r.2 37 [(0, .ref (ad 45)), (3, .int v3), (5, .int v5), (6, .int v6), (7, .int v7)] [] μ) {v5 : Int32} {v6 : Int32} {v7 : Int32} {μ : Mm}  (h : X4_candidateOf_l37 v1 v2 v3 v4 k37 v5 v6 v7 μ = some r) : AV l p e s m args below meth c D cI cL ad 6 8 (.inr (some (.int r.1))) r.2 37 [(0, .ref (ad 45)), (3, .int v3), (5, .int v5), (6, .int v6), (7, .int v7)] [] μ := by
  unfold X4_candidateOf_l37 at h
  refine aw_iload (pc := 37) C dX4_candidateOf_37 4 rfl ?_
  refine aw_aload_n (pc := 39) C dX4_candidateOf_39 rfl 0 rfl ?_
  refine aw_get (pc := 40) C (a := 45) (k := 1) (v := .ref (ad 46)) inX4 rfl rfl (by decide) q741 dX4_candidateOf_40 rfl ?_
  refine aw_iconst (pc := 43) C (v := 1) dX4_candidateOf_43 rfl ?_
  obtain ⟨g6, h⟩ := ck_some h
  refine aw_iaload (pc := 44) C (a := 46) rfl g6 dX4_candidateOf_44 ?_
  refine aw_icmp_ge (pc := 45) C 86 dX4_candidateOf_45 rfl (fun hc => ?_) (fun hc => ?_)
  · replace h := ite_T h hc
    refine aw_iload (pc := 86) C dX4_candidateOf_86 3 rfl ?_
    cases h
    exact aw_iret (pc := 88) C dX4_candidateOf_88
  · replace h := ite_F h hc
    refine aw_aload_n (pc := 48) C dX4_candidateOf_48 rfl 0 rfl ?_
    refine aw_get (pc := 49) C (a := 45) (k := 8) (v := .ref (ad 50)) inX4 rfl rfl (by decide) q748 dX4_candidateOf_49 rfl ?_
    refine aw_iload_n (pc := 52) C dX4_candidateOf_52 rfl 1 rfl ?_
    obtain ⟨g7, h⟩ := ck_some h
    refine aw_iaload (pc := 53) C (a := 50) rfl g7 dX4_candidateOf_53 ?_
    refine aw_iload (pc := 54) C dX4_candidateOf_54 4 rfl ?_
    refine aw_ishr (pc := 56) C dX4_candidateOf_56 ?_
    refine aw_iconst (pc := 57) C (v := 1) dX4_candidateOf_57 rfl ?_
    refine aw_iand (pc := 58) C dX4_candidateOf_58 ?_
    refine aw_iconst (pc := 59) C (v := 1) dX4_candidateOf_59 rfl ?_
    refine aw_icmp_ne (pc := 60) C 80 dX4_candidateOf_60 rfl (fun hc => ?_) (fun hc => ?_)
    · replace h := ite_F h hc
      refine aw_iinc (pc := 80) C (v := (v7 + 1)) (lv' := [(7, .int (v7 + 1)), (0, .ref (ad 45)), (3, .int v3), (5, .int v5), (6, .int v6)]) dX4_candidateOf_80 4 rfl (by decide) rfl rfl ?_
      refine aw_goto (pc := 83) C 37 dX4_candidateOf_83 rfl ?_
      refine aw_sub [1, 2, 3, 4, 0] rfl ?_
      exact hk37 v5 v6 (v7 + 1) μ h
    · replace h := ite_T h hc
      refine aw_iload (pc := 63) C dX4_candidateOf_63 2 rfl ?_
      have kJ : AV l p e s m args below meth c D cI cL ad 6 8 (.inr (some (.int r.1))) r.2 75 [(0, .ref (ad 45)), (3, .int v3), (5, .int v5), (6, .int v6), (7, .int v7)] [.int (if v5 = 0 then (v7 : Int32) else v6)] μ := by
        obtain ⟨x8, ex8, h⟩ := bd_some h
        refine aw_istore (pc := 75) C (x := x8) (lv' := [(6, .int x8), (0, .ref (ad 45)), (3, .int v3), (5, .int v5), (7, .int v7)]) dX4_candidateOf_75 (by decide) ex8 rfl ?_
        refine aw_iinc (pc := 77) C (v := (v5 + (-1))) (lv' := [(5, .int (v5 + (-1))), (6, .int x8), (0, .ref (ad 45)), (3, .int v3), (7, .int v7)]) dX4_candidateOf_77 3 rfl (by decide) rfl rfl ?_
        refine aw_iinc (pc := 80) C (v := (v7 + 1)) (lv' := [(7, .int (v7 + 1)), (5, .int (v5 + (-1))), (6, .int x8), (0, .ref (ad 45)), (3, .int v3)]) dX4_candidateOf_80 4 rfl (by decide) rfl rfl ?_
        refine aw_goto (pc := 83) C 37 dX4_candidateOf_83 rfl ?_
        refine aw_sub [3, 4, 1, 2, 0] rfl ?_
        exact hk37 (v5 + (-1)) x8 (v7 + 1) μ h
      refine aw_if_ne (pc := 65) C 73 dX4_candidateOf_65 rfl (fun hd1 => ?_) (fun hd1 => ?_)
      · refine aw_iload (pc := 73) C dX4_candidateOf_73 3 rfl ?_
        rw [if_neg hd1] at kJ
        exact kJ
      · refine aw_iload (pc := 68) C dX4_candidateOf_68 4 rfl ?_
        refine aw_goto (pc := 70) C 75 dX4_candidateOf_70 rfl ?_
        rw [if_pos hd1] at kJ
        exact kJ
theorem ok_X4_candidateOf_l37_w {l : Launch} {p : Program} {e : Env} {s : State} {m : MethodId} {args : Array Value} {below : List Frame} {meth : Method} {c : Code} {D : va_G} {cI cL : ClassId} {ad : Nat → Nat} (C : CX p l s m args meth c RX4 cX4_candidateOf 8 (some .int) D cI cL (AA ad s.heap.size)) (hex : ∀ x ∈ c.exceptionTable.toList, False) {r : (Int32 × Mm)} {v1 : Int32} {v2 : Int32} {v3 : Int32} {v4 : Int32} : ∀ (n : Nat) (v5 : Int32) (v6 : Int32) (v7 : Int32) (μ : Mm) , itr (X4_candidateOf_l37 v1 v2 v3 v4) (fun _ _ _ _ => none) n v5 v6 v7 μ = some r → AV l p e s m args below meth c D cI cL ad 6 8 (.inr (some (.int r.1))) r.2 37 [(0, .ref (ad 45)), (3, .int v3), (5, .int v5), (6, .int v6), (7, .int v7)] [] μ := by
  intro n
  induction n with
  | zero => intro v5 v6 v7 μ h; exact nomatch (show (none : Option (Int32 × Mm)) = some r from h)
  | succ n ih => intro v5 v6 v7 μ h; exact ok_X4_candidateOf_l37 C hex (v1 := v1) (v2 := v2) (v3 := v3) (v4 := v4) ih h
theorem ok_X4_candidateOf {l : Launch} (htr : l.stackTraces = false) {v1 : Int32} {v2 : Int32} {v3 : Int32} {v4 : Int32} {μ : Mm} {r : (Int32 × Mm)}  (h : X4_candidateOf v1 v2 v3 v4 μ = some r) : MetX l yX4_candidateOf cX4_candidateOf 8 (some .int) 6 (fun ad => [.ref (ad 45), .int v1, .int v2, .int v3, .int v4]) μ (.inr (some (.int r.1))) r.2 := by
  refine MetX.of htr (by decide) rfl (fun ad => Nat.le_of_ble_eq_true rfl) (fun p e s m args below meth c D cI cL ad C hex hw => ?_)
  show AV l p e s m args below meth c D cI cL ad 6 8 (.inr (some (.int r.1))) r.2 0 [(0, .ref (ad 45)), (1, .int v1), (2, .int v2), (3, .int v3), (4, .int v4)] [] μ
  unfold X4_candidateOf at h
  refine aw_aload_n (pc := 0) C dX4_candidateOf_0 rfl 0 rfl ?_
  refine aw_iload_n (pc := 1) C dX4_candidateOf_1 rfl 1 rfl ?_
  refine aw_iload_n (pc := 2) C dX4_candidateOf_2 rfl 2 rfl ?_
  obtain ⟨μ3, hq1, h⟩ := bi_some h
  refine aw_Vv (pc := 3) (a := 45) (Bs := [.int v1, .int v2]) C (ok_X4_layLayers C.tr hq1) kv_X4_layLayers q902 rfl rfl rfl rfl dX4_candidateOf_3 ⟨(show 6 ≤ 6 by decide), (show 181 ≤ 186 by decide)⟩ ⟨Nat.zero_le _, Nat.zero_le _⟩ [] (Nat.le_of_ble_eq_true rfl) rfl ?_
  refine aw_iload_n (pc := 6) C dX4_candidateOf_6 rfl 3 rfl ?_
  refine aw_iconst (pc := 7) C (v := 0) dX4_candidateOf_7 rfl ?_
  refine aw_aload_n (pc := 8) C dX4_candidateOf_8 rfl 0 rfl ?_
  refine aw_get (pc := 9) C (a := 45) (k := 7) (v := .int (μ3.1 45 7)) inX4 rfl rfl (by decide) q747 dX4_candidateOf_9 rfl ?_
  refine aw_iconst (pc := 12) C (v := 1) dX4_candidateOf_12 rfl ?_
  refine aw_isub (pc := 13) C dX4_candidateOf_13 ?_
  obtain ⟨q5, hq4, h⟩ := bi_some h
  refine aw_Si (pc := 14) (Bs := [.int v3, .int 0, .int ((μ3.1 45 7) - 1)]) C (ok_X4_within C.tr hq4) kv_X4_within q835 rfl rfl dX4_candidateOf_14 ⟨(show 1 ≤ 6 by decide), (show 22 ≤ 186 by decide)⟩ ⟨Nat.zero_le _, Nat.zero_le _⟩ [] (Nat.le_of_ble_eq_true rfl) rfl ?_
  refine aw_if_eq (pc := 17) C 25 dX4_candidateOf_17 rfl (fun hc => ?_) (fun hc => ?_)
  · replace h := ite_T h hc
    refine aw_iconst (pc := 25) C (v := (-1)) dX4_candidateOf_25 rfl ?_
    cases h
    exact aw_iret (pc := 26) C dX4_candidateOf_26
  · replace h := ite_F h hc
    refine aw_iload (pc := 20) C dX4_candidateOf_20 4 rfl ?_
    refine aw_if_ge (pc := 22) C 27 dX4_candidateOf_22 rfl (fun hc => ?_) (fun hc => ?_)
    · replace h := ite_T h hc
      refine aw_iload (pc := 27) C dX4_candidateOf_27 4 rfl ?_
      refine aw_istore (pc := 29) C (x := v4) (lv' := [(5, .int v4), (0, .ref (ad 45)), (1, .int v1), (2, .int v2), (3, .int v3), (4, .int v4)]) dX4_candidateOf_29 (by decide) rfl rfl ?_
      refine aw_iconst (pc := 31) C (v := (-1)) dX4_candidateOf_31 rfl ?_
      refine aw_istore (pc := 32) C (x := (-1)) (lv' := [(6, .int (-1)), (5, .int v4), (0, .ref (ad 45)), (1, .int v1), (2, .int v2), (3, .int v3), (4, .int v4)]) dX4_candidateOf_32 (by decide) rfl rfl ?_
      refine aw_iconst (pc := 34) C (v := 0) dX4_candidateOf_34 rfl ?_
      refine aw_istore (pc := 35) C (x := 0) (lv' := [(7, .int 0), (6, .int (-1)), (5, .int v4), (0, .ref (ad 45)), (1, .int v1), (2, .int v2), (3, .int v3), (4, .int v4)]) dX4_candidateOf_35 (by decide) rfl rfl ?_
      refine aw_sub [3, 6, 2, 1, 0] rfl ?_
      exact ok_X4_candidateOf_l37_w C hex big v4 (-1) 0 μ3 h
    · replace h := ite_F h hc
      refine aw_iconst (pc := 25) C (v := (-1)) dX4_candidateOf_25 rfl ?_
      cases h
      exact aw_iret (pc := 26) C dX4_candidateOf_26
/-! ### NameScopesModel.candidate(IIII)I -/
theorem ok_X4_candidate_j25 {l : Launch} {p : Program} {e : Env} {s : State} {m : MethodId} {args : Array Value} {below : List Frame} {meth : Method} {c : Code} {D : va_G} {cI cL : ClassId} {ad : Nat → Nat} (C : CX p l s m args meth c RX4 cX4_candidate 5 (some .int) D cI cL (AA ad s.heap.size)) (hex : ∀ x ∈ c.exceptionTable.toList, False) {r : (Int32 × Mm)} {v1 : Int32} {v2 : Int32} {v3 : Int32} {v4 : Int32} {s0 : Int32} {μ : Mm}  (h : X4_candidate_j25 v1 v2 v3 v4 s0 μ = some r) : AV l p e s m args below meth c D cI cL ad 7 5 (.inr (some (.int r.1))) r.2 25 [(0, .ref (ad 45)), (1, .int v1), (2, .int v2), (3, .int v3), (4, .int v4)] [.int s0, .ref (ad 45)] μ := by
  unfold X4_candidate_j25 at h
  obtain ⟨μ9, eμ9, h⟩ := bd_some h
  refine aw_putI (pc := 25) C (a := 45) (k := 0) (ty := .int) inX4 tyX4 tyX4_ok nmX4 rfl rfl (by decide) q740 rfl (by decide +kernel) rfl rfl (by show 0 < 26; decide) dX4_candidate_25 fl_4_0 eμ9 ?_
  refine aw_aload_n (pc := 28) C dX4_candidate_28 rfl 0 rfl ?_
  refine aw_get (pc := 29) C (a := 45) (k := 0) (v := .int (μ9.1 45 0)) inX4 rfl rfl (by decide) q740 dX4_candidate_29 rfl ?_
  refine aw_if_le (pc := 32) C 39 dX4_candidate_32 rfl (fun hc => ?_) (fun hc => ?_)
  · replace h := ite_T h hc
    refine aw_aload_n (pc := 39) C dX4_candidate_39 rfl 0 rfl ?_
    refine aw_iload_n (pc := 40) C dX4_candidate_40 rfl 1 rfl ?_
    refine aw_iload_n (pc := 41) C dX4_candidate_41 rfl 2 rfl ?_
    refine aw_iload_n (pc := 42) C dX4_candidate_42 rfl 3 rfl ?_
    refine aw_iload (pc := 43) C dX4_candidate_43 4 rfl ?_
    obtain ⟨q11, μ12, hq10, h⟩ := bn_some h
    refine aw_Vi (pc := 45) (a := 45) (Bs := [.int v1, .int v2, .int v3, .int v4]) C (ok_X4_candidateOf C.tr hq10) kv_X4_candidateOf q1029 rfl rfl rfl rfl dX4_candidate_45 ⟨(show 7 ≤ 7 by decide), (show 213 ≤ 217 by decide)⟩ ⟨Nat.zero_le _, Nat.zero_le _⟩ [] (Nat.le_of_ble_eq_true rfl) rfl ?_
    cases h
    exact aw_iret (pc := 48) C dX4_candidate_48
  · replace h := ite_F h hc
    refine aw_iconst (pc := 35) C (v := 0) dX4_candidate_35 rfl ?_
    refine aw_goto (pc := 36) C 48 dX4_candidate_36 rfl ?_
    cases h
    exact aw_iret (pc := 48) C dX4_candidate_48
theorem ok_X4_candidate {l : Launch} (htr : l.stackTraces = false) {v1 : Int32} {v2 : Int32} {v3 : Int32} {v4 : Int32} {μ : Mm} {r : (Int32 × Mm)}  (h : X4_candidate v1 v2 v3 v4 μ = some r) : MetX l yX4_candidate cX4_candidate 5 (some .int) 7 (fun ad => [.ref (ad 45), .int v1, .int v2, .int v3, .int v4]) μ (.inr (some (.int r.1))) r.2 := by
  refine MetX.of htr (by decide) rfl (fun ad => Nat.le_of_ble_eq_true rfl) (fun p e s m args below meth c D cI cL ad C hex hw => ?_)
  show AV l p e s m args below meth c D cI cL ad 7 5 (.inr (some (.int r.1))) r.2 0 [(0, .ref (ad 45)), (1, .int v1), (2, .int v2), (3, .int v3), (4, .int v4)] [] μ
  unfold X4_candidate at h
  refine aw_aload_n (pc := 0) C dX4_candidate_0 rfl 0 rfl ?_
  refine aw_aload_n (pc := 1) C dX4_candidate_1 rfl 0 rfl ?_
  refine aw_iload_n (pc := 2) C dX4_candidate_2 rfl 1 rfl ?_
  obtain ⟨q2, hq1, h⟩ := bi_some h
  refine aw_Vi (pc := 3) (a := 45) (Bs := [.int v1]) C (ok_X4_isScope C.tr hq1) kv_X4_isScope q831 rfl rfl rfl rfl dX4_candidate_3 ⟨(show 2 ≤ 7 by decide), (show 52 ≤ 217 by decide)⟩ ⟨Nat.zero_le _, Nat.zero_le _⟩ [.ref (ad 45)] (Nat.le_of_ble_eq_true rfl) rfl ?_
  refine aw_if_ne (pc := 6) C 13 dX4_candidate_6 rfl (fun hc => ?_) (fun hc => ?_)
  · replace h := ite_F h hc
    refine aw_iload_n (pc := 13) C dX4_candidate_13 rfl 2 rfl ?_
    obtain ⟨q4, hq3, h⟩ := bi_some h
    refine aw_Si (pc := 14) (Bs := [.int v2]) C (ok_X4_isName C.tr hq3) kv_X4_isName q842 rfl rfl dX4_candidate_14 ⟨(show 2 ≤ 7 by decide), (show 51 ≤ 217 by decide)⟩ ⟨Nat.zero_le _, Nat.zero_le _⟩ [.ref (ad 45)] (Nat.le_of_ble_eq_true rfl) rfl ?_
    have kJ : AV l p e s m args below meth c D cI cL ad 7 5 (.inr (some (.int r.1))) r.2 25 [(0, .ref (ad 45)), (1, .int v1), (2, .int v2), (3, .int v3), (4, .int v4)] [.int (if q4 = 0 then (2 : Int32) else 0), .ref (ad 45)] μ := by
      obtain ⟨μ5, eμ5, h⟩ := bd_some h
      refine aw_putI (pc := 25) C (a := 45) (k := 0) (ty := .int) inX4 tyX4 tyX4_ok nmX4 rfl rfl (by decide) q740 rfl (by decide +kernel) rfl rfl (by show 0 < 26; decide) dX4_candidate_25 fl_4_0 eμ5 ?_
      refine aw_aload_n (pc := 28) C dX4_candidate_28 rfl 0 rfl ?_
      refine aw_get (pc := 29) C (a := 45) (k := 0) (v := .int (μ5.1 45 0)) inX4 rfl rfl (by decide) q740 dX4_candidate_29 rfl ?_
      refine aw_if_le (pc := 32) C 39 dX4_candidate_32 rfl (fun hc => ?_) (fun hc => ?_)
      · replace h := ite_T h hc
        refine aw_aload_n (pc := 39) C dX4_candidate_39 rfl 0 rfl ?_
        refine aw_iload_n (pc := 40) C dX4_candidate_40 rfl 1 rfl ?_
        refine aw_iload_n (pc := 41) C dX4_candidate_41 rfl 2 rfl ?_
        refine aw_iload_n (pc := 42) C dX4_candidate_42 rfl 3 rfl ?_
        refine aw_iload (pc := 43) C dX4_candidate_43 4 rfl ?_
        obtain ⟨q7, μ8, hq6, h⟩ := bn_some h
        refine aw_Vi (pc := 45) (a := 45) (Bs := [.int v1, .int v2, .int v3, .int v4]) C (ok_X4_candidateOf C.tr hq6) kv_X4_candidateOf q1029 rfl rfl rfl rfl dX4_candidate_45 ⟨(show 7 ≤ 7 by decide), (show 213 ≤ 217 by decide)⟩ ⟨Nat.zero_le _, Nat.zero_le _⟩ [] (Nat.le_of_ble_eq_true rfl) rfl ?_
        cases h
        exact aw_iret (pc := 48) C dX4_candidate_48
      · replace h := ite_F h hc
        refine aw_iconst (pc := 35) C (v := 0) dX4_candidate_35 rfl ?_
        refine aw_goto (pc := 36) C 48 dX4_candidate_36 rfl ?_
        cases h
        exact aw_iret (pc := 48) C dX4_candidate_48
    refine aw_if_eq (pc := 17) C 24 dX4_candidate_17 rfl (fun hd1 => ?_) (fun hd1 => ?_)
    · refine aw_iconst (pc := 24) C (v := 2) dX4_candidate_24 rfl ?_
      rw [if_pos hd1] at kJ
      exact kJ
    · refine aw_iconst (pc := 20) C (v := 0) dX4_candidate_20 rfl ?_
      refine aw_goto (pc := 21) C 25 dX4_candidate_21 rfl ?_
      rw [if_neg hd1] at kJ
      exact kJ
  · replace h := ite_T h hc
    refine aw_iconst (pc := 9) C (v := 1) dX4_candidate_9 rfl ?_
    refine aw_goto (pc := 10) C 25 dX4_candidate_10 rfl ?_
    refine aw_sub [0, 1, 2, 3, 4] rfl ?_
    exact ok_X4_candidate_j25 C hex h
/-! ### NameScopesModel.useName(I)I -/
theorem ok_X4_useName {l : Launch} (htr : l.stackTraces = false) {v1 : Int32} {μ : Mm} {r : Int32}  (h : X4_useName v1 μ = some r) : MetX l yX4_useName cX4_useName 2 (some .int) 0 (fun ad => [.ref (ad 45), .int v1]) μ (.inr (some (.int r))) μ := by
  refine MetX.of htr (by decide) rfl (fun ad => Nat.le_of_ble_eq_true rfl) (fun p e s m args below meth c D cI cL ad C hex hw => ?_)
  show AV l p e s m args below meth c D cI cL ad 0 2 (.inr (some (.int r))) μ 0 [(0, .ref (ad 45)), (1, .int v1)] [] μ
  unfold X4_useName at h
  refine aw_aload_n (pc := 0) C dX4_useName_0 rfl 0 rfl ?_
  refine aw_get (pc := 1) C (a := 45) (k := 1) (v := .ref (ad 46)) inX4 rfl rfl (by decide) q741 dX4_useName_1 rfl ?_
  refine aw_sipush (pc := 4) C (v := 230) dX4_useName_4 rfl ?_
  refine aw_iconst (pc := 7) C (v := 2) dX4_useName_7 rfl ?_
  refine aw_iload_n (pc := 8) C dX4_useName_8 rfl 1 rfl ?_
  refine aw_imul (pc := 9) C dX4_useName_9 ?_
  refine aw_iadd (pc := 10) C dX4_useName_10 ?_
  refine aw_iconst (pc := 11) C (v := 1) dX4_useName_11 rfl ?_
  refine aw_iadd (pc := 12) C dX4_useName_12 ?_
  obtain ⟨g1, h⟩ := ck_some h
  refine aw_iaload (pc := 13) C (a := 46) rfl g1 dX4_useName_13 ?_
  cases h
  exact aw_iret (pc := 14) C dX4_useName_14
/-! ### NameScopesModel.changeNames(II)V -/
theorem ok_X4_changeNames_j258 {l : Launch} {p : Program} {e : Env} {s : State} {m : MethodId} {args : Array Value} {below : List Frame} {meth : Method} {c : Code} {D : va_G} {cI cL : ClassId} {ad : Nat → Nat} (C : CX p l s m args meth c RX4 cX4_changeNames 7 none D cI cL (AA ad s.heap.size)) (hex : ∀ x ∈ c.exceptionTable.toList, False) {r : Mm} {v1 : Int32} {v2 : Int32} {k188 : Int32 → Int32 → Mm → Option Mm} (hk188 : ∀ (v3 : Int32) (v4 : Int32) (μ : Mm), k188 v3 v4 μ = some r → AV l p e s m args below meth c D cI cL ad 5 7 (.inr none) r 188 [(0, .ref (ad 45)), (1, .int v1), (2, .int v2), (3, .int v3), (4, .int v4)] [] μ) {v3 : Int32} {v4 : Int32} {s0 : Int32} {s1 : Int32} {s2 : Nat} {μ : Mm} (hs2 : kd s2 = (0, alen s2)) (h : X4_changeNames_j258 v1 v2 k188 v3 v4 s0 s1 s2 μ = some r) : AV l p e s m args below meth c D cI cL ad 5 7 (.inr none) r 258 [(0, .ref (ad 45)), (1, .int v1), (2, .int v2), (3, .int v3), (4, .int v4)] [.int s0, .int s1, .ref (ad s2)] μ := by
  unfold X4_changeNames_j258 at h
  obtain ⟨g15, h⟩ := ck_some h
  obtain ⟨μ16, eμ16, h⟩ := bd_some h
  refine aw_iastore (pc := 258) C (a := s2) hs2 g15 dX4_changeNames_258 eμ16 ?_
  refine aw_iinc (pc := 259) C (v := (v4 + 1)) (lv' := [(4, .int (v4 + 1)), (0, .ref (ad 45)), (1, .int v1), (2, .int v2), (3, .int v3)]) dX4_changeNames_259 4 rfl (by decide) rfl rfl ?_
  refine aw_goto (pc := 262) C 188 dX4_changeNames_262 rfl ?_
  refine aw_sub [1, 2, 3, 4, 0] rfl ?_
  exact hk188 v3 (v4 + 1) μ16 h
theorem ok_X4_changeNames_j227 {l : Launch} {p : Program} {e : Env} {s : State} {m : MethodId} {args : Array Value} {below : List Frame} {meth : Method} {c : Code} {D : va_G} {cI cL : ClassId} {ad : Nat → Nat} (C : CX p l s m args meth c RX4 cX4_changeNames 7 none D cI cL (AA ad s.heap.size)) (hex : ∀ x ∈ c.exceptionTable.toList, False) {r : Mm} {v1 : Int32} {v2 : Int32} {k188 : Int32 → Int32 → Mm → Option Mm} (hk188 : ∀ (v3 : Int32) (v4 : Int32) (μ : Mm), k188 v3 v4 μ = some r → AV l p e s m args below meth c D cI cL ad 5 7 (.inr none) r 188 [(0, .ref (ad 45)), (1, .int v1), (2, .int v2), (3, .int v3), (4, .int v4)] [] μ) {v3 : Int32} {v4 : Int32} {s0 : Int32} {μ : Mm}  (h : X4_changeNames_j227 v1 v2 k188 v3 v4 s0 μ = some r) : AV l p e s m args below meth c D cI cL ad 5 7 (.inr none) r 227 [(0, .ref (ad 45)), (1, .int v1), (2, .int v2), (3, .int v3), (4, .int v4)] [.int s0] μ := by
  unfold X4_changeNames_j227 at h
  refine aw_istore (pc := 227) C (x := s0) (lv' := [(5, .int s0), (0, .ref (ad 45)), (1, .int v1), (2, .int v2), (3, .int v3), (4, .int v4)]) dX4_changeNames_227 (by decide) rfl rfl ?_
  refine aw_aload_n (pc := 229) C dX4_changeNames_229 rfl 1 rfl ?_
  refine aw_get (pc := 230) C (a := 45) (k := 1) (v := .ref (ad 46)) inX4 rfl rfl (by decide) q741 dX4_changeNames_230 rfl ?_
  refine aw_sipush (pc := 233) C (v := 230) dX4_changeNames_233 rfl ?_
  refine aw_iconst (pc := 236) C (v := 2) dX4_changeNames_236 rfl ?_
  refine aw_iload (pc := 237) C dX4_changeNames_237 5 rfl ?_
  refine aw_imul (pc := 239) C dX4_changeNames_239 ?_
  refine aw_iadd (pc := 240) C dX4_changeNames_240 ?_
  refine aw_iconst (pc := 241) C (v := 1) dX4_changeNames_241 rfl ?_
  refine aw_iadd (pc := 242) C dX4_changeNames_242 ?_
  refine aw_iload (pc := 243) C dX4_changeNames_243 0 rfl ?_
  refine aw_if_eq (pc := 245) C 252 dX4_changeNames_245 rfl (fun hc => ?_) (fun hc => ?_)
  · replace h := ite_T h hc
    refine aw_aload_n (pc := 252) C dX4_changeNames_252 rfl 1 rfl ?_
    refine aw_iload (pc := 253) C dX4_changeNames_253 5 rfl ?_
    obtain ⟨q14, hq13, h⟩ := bi_some h
    refine aw_Vi (pc := 255) (a := 45) (Bs := [.int v4]) C (ok_X4_useName C.tr hq13) kv_X4_useName q894 rfl rfl rfl rfl dX4_changeNames_255 ⟨(show 1 ≤ 5 by decide), (show 21 ≤ 155 by decide)⟩ ⟨Nat.zero_le _, Nat.zero_le _⟩ [.int ((230 + (2 * v4)) + 1), .ref (ad 46)] (Nat.le_of_ble_eq_true rfl) rfl ?_
    refine aw_sub [1, 2, 3, 4, 5] rfl ?_
    exact ok_X4_changeNames_j258 C hex hk188 (isArr_of rfl) h
  · replace h := ite_F h hc
    refine aw_iload_n (pc := 248) C dX4_changeNames_248 rfl 3 rfl ?_
    refine aw_goto (pc := 249) C 258 dX4_changeNames_249 rfl ?_
    refine aw_sub [1, 2, 3, 4, 5] rfl ?_
    exact ok_X4_changeNames_j258 C hex hk188 (isArr_of rfl) h
theorem ok_X4_changeNames_j226 {l : Launch} {p : Program} {e : Env} {s : State} {m : MethodId} {args : Array Value} {below : List Frame} {meth : Method} {c : Code} {D : va_G} {cI cL : ClassId} {ad : Nat → Nat} (C : CX p l s m args meth c RX4 cX4_changeNames 7 none D cI cL (AA ad s.heap.size)) (hex : ∀ x ∈ c.exceptionTable.toList, False) {r : Mm} {v1 : Int32} {v2 : Int32} {k188 : Int32 → Int32 → Mm → Option Mm} (hk188 : ∀ (v3 : Int32) (v4 : Int32) (μ : Mm), k188 v3 v4 μ = some r → AV l p e s m args below meth c D cI cL ad 5 7 (.inr none) r 188 [(0, .ref (ad 45)), (1, .int v1), (2, .int v2), (3, .int v3), (4, .int v4)] [] μ) {v3 : Int32} {v4 : Int32} {μ : Mm}  (h : X4_changeNames_j226 v1 v2 k188 v3 v4 μ = some r) : AV l p e s m args below meth c D cI cL ad 5 7 (.inr none) r 226 [(0, .ref (ad 45)), (1, .int v1), (2, .int v2), (3, .int v3), (4, .int v4)] [] μ := by
  unfold X4_changeNames_j226 at h
  refine aw_iconst (pc := 226) C (v := 0) dX4_changeNames_226 rfl ?_
  refine aw_sub [0, 1, 2, 3, 4] rfl ?_
  exact ok_X4_changeNames_j227 C hex hk188 h
theorem ok_X4_changeNames_l188 {l : Launch} {p : Program} {e : Env} {s : State} {m : MethodId} {args : Array Value} {below : List Frame} {meth : Method} {c : Code} {D : va_G} {cI cL : ClassId} {ad : Nat → Nat} (C : CX p l s m args meth c RX4 cX4_changeNames 7 none D cI cL (AA ad s.heap.size)) (hex : ∀ x ∈ c.exceptionTable.toList, False) {r : Mm} {v1 : Int32} {v2 : Int32} {k188 : Int32 → Int32 → Mm → Option Mm} (hk188 : ∀ (v3 : Int32) (v4 : Int32) (μ : Mm), k188 v3 v4 μ = some r → AV l p e s m args below meth c D cI cL ad 5 7 (.inr none) r 188 [(0, .ref (ad 45)), (1, .int v1), (2, .int v2), (3, .int v3), (4, .int v4)] [] μ) {v3 : Int32} {v4 : Int32} {μ : Mm}  (h : X4_changeNames_l188 v1 v2 k188 v3 v4 μ = some r) : AV l p e s m args below meth c D cI cL ad 5 7 (.inr none) r 188 [(0, .ref (ad 45)), (1, .int v1), (2, .int v2), (3, .int v3), (4, .int v4)] [] μ := by
  unfold X4_changeNames_l188 at h
  refine aw_iload (pc := 188) C dX4_changeNames_188 4 rfl ?_
  refine aw_aload_n (pc := 190) C dX4_changeNames_190 rfl 0 rfl ?_
  refine aw_get (pc := 191) C (a := 45) (k := 1) (v := .ref (ad 46)) inX4 rfl rfl (by decide) q741 dX4_changeNames_191 rfl ?_
  refine aw_iconst (pc := 194) C (v := 3) dX4_changeNames_194 rfl ?_
  obtain ⟨g7, h⟩ := ck_some h
  refine aw_iaload (pc := 195) C (a := 46) rfl g7 dX4_changeNames_195 ?_
  refine aw_icmp_ge (pc := 196) C 265 dX4_changeNames_196 rfl (fun hc => ?_) (fun hc => ?_)
  · replace h := ite_T h hc
    refine aw_aload_n (pc := 265) C dX4_changeNames_265 rfl 0 rfl ?_
    refine aw_get (pc := 266) C (a := 45) (k := 1) (v := .ref (ad 46)) inX4 rfl rfl (by decide) q741 dX4_changeNames_266 rfl ?_
    refine aw_bipush (pc := 269) C (v := 20) dX4_changeNames_269 rfl ?_
    refine aw_iconst (pc := 271) C (v := 3) dX4_changeNames_271 rfl ?_
    refine aw_iload_n (pc := 272) C dX4_changeNames_272 rfl 1 rfl ?_
    refine aw_imul (pc := 273) C dX4_changeNames_273 ?_
    refine aw_iadd (pc := 274) C dX4_changeNames_274 ?_
    refine aw_iconst (pc := 275) C (v := 1) dX4_changeNames_275 rfl ?_
    refine aw_iadd (pc := 276) C dX4_changeNames_276 ?_
    refine aw_iload_n (pc := 277) C dX4_changeNames_277 rfl 2 rfl ?_
    obtain ⟨g8, h⟩ := ck_some h
    obtain ⟨μ9, eμ9, h⟩ := bd_some h
    refine aw_iastore (pc := 278) C (a := 46) rfl g8 dX4_changeNames_278 eμ9 ?_
    refine aw_aload_n (pc := 279) C dX4_changeNames_279 rfl 0 rfl ?_
    refine aw_iconst (pc := 280) C (v := 0) dX4_changeNames_280 rfl ?_
    obtain ⟨μ10, eμ10, h⟩ := bd_some h
    refine aw_putI (pc := 281) C (a := 45) (k := 4) (ty := .boolean) inX4 tyX4 tyX4_ok nmX4 rfl rfl (by decide) q744 rfl (by decide +kernel) (b01_nar b01_0) (b01_fit b01_0) (by show 4 < 26; decide) dX4_changeNames_281 fl_4_4 eμ10 ?_
    cases h
    exact aw_vret (pc := 284) C dX4_changeNames_284
  · replace h := ite_F h hc
    refine aw_aload_n (pc := 199) C dX4_changeNames_199 rfl 0 rfl ?_
    refine aw_iload (pc := 200) C dX4_changeNames_200 4 rfl ?_
    obtain ⟨q12, hq11, h⟩ := bi_some h
    refine aw_Vi (pc := 202) (a := 45) (Bs := [.int v4]) C (ok_X4_useName C.tr hq11) kv_X4_useName q894 rfl rfl rfl rfl dX4_changeNames_202 ⟨(show 1 ≤ 5 by decide), (show 21 ≤ 155 by decide)⟩ ⟨Nat.zero_le _, Nat.zero_le _⟩ [] (Nat.le_of_ble_eq_true rfl) rfl ?_
    refine aw_iload_n (pc := 205) C dX4_changeNames_205 rfl 3 rfl ?_
    refine aw_icmp_ne (pc := 206) C 226 dX4_changeNames_206 rfl (fun hc => ?_) (fun hc => ?_)
    · replace h := ite_F h hc
      refine aw_sub [0, 1, 2, 3, 4] rfl ?_
      exact ok_X4_changeNames_j226 C hex hk188 h
    · replace h := ite_T h hc
      refine aw_aload_n (pc := 209) C dX4_changeNames_209 rfl 0 rfl ?_
      refine aw_get (pc := 210) C (a := 45) (k := 11) (v := .ref (ad 53)) inX4 rfl rfl (by decide) q751 dX4_changeNames_210 rfl ?_
      refine aw_iload (pc := 213) C dX4_changeNames_213 4 rfl ?_
      obtain ⟨g17, h⟩ := ck_some h
      refine aw_iaload (pc := 215) C (a := 53) rfl g17 dX4_changeNames_215 ?_
      refine aw_iconst (pc := 216) C (v := 1) dX4_changeNames_216 rfl ?_
      refine aw_iload_n (pc := 217) C dX4_changeNames_217 rfl 1 rfl ?_
      refine aw_ishl (pc := 218) C dX4_changeNames_218 ?_
      have kJ : AV l p e s m args below meth c D cI cL ad 5 7 (.inr none) r 227 [(0, .ref (ad 45)), (1, .int v1), (2, .int v2), (3, .int v3), (4, .int v4)] [.int (if (μ.1 53 (v4 : Int32).toNatClampNeg) = (1 <<< (v1 &&& 31)) then (1 : Int32) else 0)] μ := by
        obtain ⟨x18, ex18, h⟩ := bd_some h
        refine aw_istore (pc := 227) C (x := x18) (lv' := [(5, .int x18), (0, .ref (ad 45)), (1, .int v1), (2, .int v2), (3, .int v3), (4, .int v4)]) dX4_changeNames_227 (by decide) ex18 rfl ?_
        refine aw_aload_n (pc := 229) C dX4_changeNames_229 rfl 1 rfl ?_
        refine aw_get (pc := 230) C (a := 45) (k := 1) (v := .ref (ad 46)) inX4 rfl rfl (by decide) q741 dX4_changeNames_230 rfl ?_
        refine aw_sipush (pc := 233) C (v := 230) dX4_changeNames_233 rfl ?_
        refine aw_iconst (pc := 236) C (v := 2) dX4_changeNames_236 rfl ?_
        refine aw_iload (pc := 237) C dX4_changeNames_237 5 rfl ?_
        refine aw_imul (pc := 239) C dX4_changeNames_239 ?_
        refine aw_iadd (pc := 240) C dX4_changeNames_240 ?_
        refine aw_iconst (pc := 241) C (v := 1) dX4_changeNames_241 rfl ?_
        refine aw_iadd (pc := 242) C dX4_changeNames_242 ?_
        refine aw_iload (pc := 243) C dX4_changeNames_243 0 rfl ?_
        refine aw_if_eq (pc := 245) C 252 dX4_changeNames_245 rfl (fun hc => ?_) (fun hc => ?_)
        · replace h := ite_T h hc
          refine aw_aload_n (pc := 252) C dX4_changeNames_252 rfl 1 rfl ?_
          refine aw_iload (pc := 253) C dX4_changeNames_253 5 rfl ?_
          obtain ⟨q20, hq19, h⟩ := bi_some h
          refine aw_Vi (pc := 255) (a := 45) (Bs := [.int v4]) C (ok_X4_useName C.tr hq19) kv_X4_useName q894 rfl rfl rfl rfl dX4_changeNames_255 ⟨(show 1 ≤ 5 by decide), (show 21 ≤ 155 by decide)⟩ ⟨Nat.zero_le _, Nat.zero_le _⟩ [.int ((230 + (2 * v4)) + 1), .ref (ad 46)] (Nat.le_of_ble_eq_true rfl) rfl ?_
          refine aw_sub [1, 2, 3, 4, 5] rfl ?_
          exact ok_X4_changeNames_j258 C hex hk188 (isArr_of rfl) h
        · replace h := ite_F h hc
          refine aw_iload_n (pc := 248) C dX4_changeNames_248 rfl 3 rfl ?_
          refine aw_goto (pc := 249) C 258 dX4_changeNames_249 rfl ?_
          refine aw_sub [1, 2, 3, 4, 5] rfl ?_
          exact ok_X4_changeNames_j258 C hex hk188 (isArr_of rfl) h
      refine aw_icmp_ne (pc := 219) C 226 dX4_changeNames_219 rfl (fun hd1 => ?_) (fun hd1 => ?_)
      · refine aw_iconst (pc := 226) C (v := 0) dX4_changeNames_226 rfl ?_
        rw [if_neg hd1] at kJ
        exact kJ
      · refine aw_iconst (pc := 222) C (v := 1) dX4_changeNames_222 rfl ?_
        refine aw_goto (pc := 223) C 227 dX4_changeNames_223 rfl ?_
        rw [if_pos hd1] at kJ
        exact kJ
theorem ok_X4_changeNames_l188_w {l : Launch} {p : Program} {e : Env} {s : State} {m : MethodId} {args : Array Value} {below : List Frame} {meth : Method} {c : Code} {D : va_G} {cI cL : ClassId} {ad : Nat → Nat} (C : CX p l s m args meth c RX4 cX4_changeNames 7 none D cI cL (AA ad s.heap.size)) (hex : ∀ x ∈ c.exceptionTable.toList, False) {r : Mm} {v1 : Int32} {v2 : Int32} : ∀ (n : Nat) (v3 : Int32) (v4 : Int32) (μ : Mm) , itr (X4_changeNames_l188 v1 v2) (fun _ _ _ => none) n v3 v4 μ = some r → AV l p e s m args below meth c D cI cL ad 5 7 (.inr none) r 188 [(0, .ref (ad 45)), (1, .int v1), (2, .int v2), (3, .int v3), (4, .int v4)] [] μ := by
  intro n
  induction n with
  | zero => intro v3 v4 μ h; exact nomatch (show (none : Option Mm) = some r from h)
  | succ n ih => intro v3 v4 μ h; exact ok_X4_changeNames_l188 C hex (v1 := v1) (v2 := v2) ih h
theorem ok_X4_changeNames_j135 {l : Launch} {p : Program} {e : Env} {s : State} {m : MethodId} {args : Array Value} {below : List Frame} {meth : Method} {c : Code} {D : va_G} {cI cL : ClassId} {ad : Nat → Nat} (C : CX p l s m args meth c RX4 cX4_changeNames 7 none D cI cL (AA ad s.heap.size)) (hex : ∀ x ∈ c.exceptionTable.toList, False) {r : Mm} {v1 : Int32} {v2 : Int32} {k14 : Int32 → Int32 → Mm → Option Mm} (hk14 : ∀ (v3 : Int32) (v4 : Int32) (μ : Mm), k14 v3 v4 μ = some r → AV l p e s m args below meth c D cI cL ad 5 7 (.inr none) r 14 [(0, .ref (ad 45)), (1, .int v1), (2, .int v2), (3, .int v3), (4, .int v4)] [] μ) {v3 : Int32} {v4 : Int32} {v5 : Int32} {v6 : Int32} {μ : Mm}  (h : X4_changeNames_j135 v1 v2 k14 v3 v4 v5 v6 μ = some r) : AV l p e s m args below meth c D cI cL ad 5 7 (.inr none) r 135 [(0, .ref (ad 45)), (1, .int v1), (2, .int v2), (3, .int v3), (4, .int v4), (5, .int v5), (6, .int v6)] [] μ := by
  unfold X4_changeNames_j135 at h
  refine aw_iload (pc := 135) C dX4_changeNames_135 5 rfl ?_
  refine aw_if_eq (pc := 137) C 179 dX4_changeNames_137 rfl (fun hc => ?_) (fun hc => ?_)
  · replace h := ite_T h hc
    refine aw_iinc (pc := 179) C (v := (v4 + 1)) (lv' := [(4, .int (v4 + 1)), (0, .ref (ad 45)), (1, .int v1), (2, .int v2), (3, .int v3), (5, .int v5), (6, .int v6)]) dX4_changeNames_179 4 rfl (by decide) rfl rfl ?_
    refine aw_goto (pc := 182) C 14 dX4_changeNames_182 rfl ?_
    refine aw_sub [1, 2, 3, 4, 0] rfl ?_
    exact hk14 v3 (v4 + 1) μ h
  · replace h := ite_F h hc
    refine aw_aload_n (pc := 140) C dX4_changeNames_140 rfl 0 rfl ?_
    refine aw_iload (pc := 141) C dX4_changeNames_141 4 rfl ?_
    obtain ⟨q28, hq27, h⟩ := bi_some h
    refine aw_Vi (pc := 143) (a := 45) (Bs := [.int v4]) C (ok_X4_isSingle C.tr hq27) kv_X4_isSingle q922 rfl rfl rfl rfl dX4_changeNames_143 ⟨(show 2 ≤ 5 by decide), (show 52 ≤ 155 by decide)⟩ ⟨Nat.zero_le _, Nat.zero_le _⟩ [] (Nat.le_of_ble_eq_true rfl) rfl ?_
    refine aw_if_ne (pc := 146) C 179 dX4_changeNames_146 rfl (fun hc => ?_) (fun hc => ?_)
    · replace h := ite_F h hc
      refine aw_iinc (pc := 179) C (v := (v4 + 1)) (lv' := [(4, .int (v4 + 1)), (0, .ref (ad 45)), (1, .int v1), (2, .int v2), (3, .int v3), (5, .int v5), (6, .int v6)]) dX4_changeNames_179 4 rfl (by decide) rfl rfl ?_
      refine aw_goto (pc := 182) C 14 dX4_changeNames_182 rfl ?_
      refine aw_sub [1, 2, 3, 4, 0] rfl ?_
      exact hk14 v3 (v4 + 1) μ h
    · replace h := ite_T h hc
      refine aw_aload_n (pc := 149) C dX4_changeNames_149 rfl 0 rfl ?_
      refine aw_iload (pc := 150) C dX4_changeNames_150 4 rfl ?_
      refine aw_iconst (pc := 152) C (v := 4) dX4_changeNames_152 rfl ?_
      obtain ⟨q30, hq29, h⟩ := bi_some h
      refine aw_Vi (pc := 153) (a := 45) (Bs := [.int v4, .int 4]) C (ok_X4_at C.tr hq29) kv_X4_at q914 rfl rfl rfl rfl dX4_changeNames_153 ⟨(show 1 ≤ 5 by decide), (show 22 ≤ 155 by decide)⟩ ⟨Nat.zero_le _, Nat.zero_le _⟩ [] (Nat.le_of_ble_eq_true rfl) rfl ?_
      refine aw_iload_n (pc := 156) C dX4_changeNames_156 rfl 3 rfl ?_
      refine aw_ishr (pc := 157) C dX4_changeNames_157 ?_
      refine aw_iconst (pc := 158) C (v := 1) dX4_changeNames_158 rfl ?_
      refine aw_iand (pc := 159) C dX4_changeNames_159 ?_
      refine aw_iconst (pc := 160) C (v := 1) dX4_changeNames_160 rfl ?_
      refine aw_icmp_ne (pc := 161) C 179 dX4_changeNames_161 rfl (fun hc => ?_) (fun hc => ?_)
      · replace h := ite_F h hc
        refine aw_iinc (pc := 179) C (v := (v4 + 1)) (lv' := [(4, .int (v4 + 1)), (0, .ref (ad 45)), (1, .int v1), (2, .int v2), (3, .int v3), (5, .int v5), (6, .int v6)]) dX4_changeNames_179 4 rfl (by decide) rfl rfl ?_
        refine aw_goto (pc := 182) C 14 dX4_changeNames_182 rfl ?_
        refine aw_sub [1, 2, 3, 4, 0] rfl ?_
        exact hk14 v3 (v4 + 1) μ h
      · replace h := ite_T h hc
        refine aw_aload_n (pc := 164) C dX4_changeNames_164 rfl 0 rfl ?_
        refine aw_get (pc := 165) C (a := 45) (k := 1) (v := .ref (ad 46)) inX4 rfl rfl (by decide) q741 dX4_changeNames_165 rfl ?_
        refine aw_iload (pc := 168) C dX4_changeNames_168 6 rfl ?_
        refine aw_iconst (pc := 170) C (v := 4) dX4_changeNames_170 rfl ?_
        refine aw_iadd (pc := 171) C dX4_changeNames_171 ?_
        refine aw_dup2 (pc := 172) C dX4_changeNames_172 rfl rfl ?_
        obtain ⟨g31, h⟩ := ck_some h
        refine aw_iaload (pc := 173) C (a := 46) rfl g31 dX4_changeNames_173 ?_
        refine aw_iconst (pc := 174) C (v := 1) dX4_changeNames_174 rfl ?_
        refine aw_iload_n (pc := 175) C dX4_changeNames_175 rfl 2 rfl ?_
        refine aw_ishl (pc := 176) C dX4_changeNames_176 ?_
        refine aw_ior (pc := 177) C dX4_changeNames_177 ?_
        obtain ⟨g32, h⟩ := ck_some h
        obtain ⟨μ33, eμ33, h⟩ := bd_some h
        refine aw_iastore (pc := 178) C (a := 46) rfl g32 dX4_changeNames_178 eμ33 ?_
        refine aw_iinc (pc := 179) C (v := (v4 + 1)) (lv' := [(4, .int (v4 + 1)), (0, .ref (ad 45)), (1, .int v1), (2, .int v2), (3, .int v3), (5, .int v5), (6, .int v6)]) dX4_changeNames_179 4 rfl (by decide) rfl rfl ?_
        refine aw_goto (pc := 182) C 14 dX4_changeNames_182 rfl ?_
        refine aw_sub [1, 2, 3, 4, 0] rfl ?_
        exact hk14 v3 (v4 + 1) μ33 h
theorem ok_X4_changeNames_j131 {l : Launch} {p : Program} {e : Env} {s : State} {m : MethodId} {args : Array Value} {below : List Frame} {meth : Method} {c : Code} {D : va_G} {cI cL : ClassId} {ad : Nat → Nat} (C : CX p l s m args meth c RX4 cX4_changeNames 7 none D cI cL (AA ad s.heap.size)) (hex : ∀ x ∈ c.exceptionTable.toList, False) {r : Mm} {v1 : Int32} {v2 : Int32} {k14 : Int32 → Int32 → Mm → Option Mm} (hk14 : ∀ (v3 : Int32) (v4 : Int32) (μ : Mm), k14 v3 v4 μ = some r → AV l p e s m args below meth c D cI cL ad 5 7 (.inr none) r 14 [(0, .ref (ad 45)), (1, .int v1), (2, .int v2), (3, .int v3), (4, .int v4)] [] μ) {v3 : Int32} {v4 : Int32} {s0 : Int32} {s1 : Int32} {s2 : Nat} {μ : Mm} (hs2 : kd s2 = (0, alen s2)) (h : X4_changeNames_j131 v1 v2 k14 v3 v4 s0 s1 s2 μ = some r) : AV l p e s m args below meth c D cI cL ad 5 7 (.inr none) r 131 [(0, .ref (ad 45)), (1, .int v1), (2, .int v2), (3, .int v3), (4, .int v4)] [.int s0, .int s1, .ref (ad s2)] μ := by
  unfold X4_changeNames_j131 at h
  obtain ⟨g42, h⟩ := ck_some h
  obtain ⟨μ43, eμ43, h⟩ := bd_some h
  refine aw_iastore (pc := 131) C (a := s2) hs2 g42 dX4_changeNames_131 eμ43 ?_
  refine aw_goto (pc := 132) C 179 dX4_changeNames_132 rfl ?_
  refine aw_iinc (pc := 179) C (v := (v4 + 1)) (lv' := [(4, .int (v4 + 1)), (0, .ref (ad 45)), (1, .int v1), (2, .int v2), (3, .int v3)]) dX4_changeNames_179 4 rfl (by decide) rfl rfl ?_
  refine aw_goto (pc := 182) C 14 dX4_changeNames_182 rfl ?_
  refine aw_sub [1, 2, 3, 4, 0] rfl ?_
  exact hk14 v3 (v4 + 1) μ43 h
theorem ok_X4_changeNames_l14 {l : Launch} {p : Program} {e : Env} {s : State} {m : MethodId} {args : Array Value} {below : List Frame} {meth : Method} {c : Code} {D : va_G} {cI cL : ClassId} {ad : Nat → Nat} (C : CX p l s m args meth c RX4 cX4_changeNames 7 none D cI cL (AA ad s.heap.size)) (hex : ∀ x ∈ c.exceptionTable.toList, False) {r : Mm} {v1 : Int32} {v2 : Int32} {k14 : Int32 → Int32 → Mm → Option Mm} (hk14 : ∀ (v3 : Int32) (v4 : Int32) (μ : Mm), k14 v3 v4 μ = some r → AV l p e s m args below meth c D cI cL ad 5 7 (.inr none) r 14 [(0, .ref (ad 45)), (1, .int v1), (2, .int v2), (3, .int v3), (4, .int v4)] [] μ) {v3 : Int32} {v4 : Int32} {μ : Mm}  (h : X4_changeNames_l14 v1 v2 k14 v3 v4 μ = some r) : AV l p e s m args below meth c D cI cL ad 5 7 (.inr none) r 14 [(0, .ref (ad 45)), (1, .int v1), (2, .int v2), (3, .int v3), (4, .int v4)] [] μ := by
  unfold X4_changeNames_l14 at h
  refine aw_iload (pc := 14) C dX4_changeNames_14 4 rfl ?_
  refine aw_aload_n (pc := 16) C dX4_changeNames_16 rfl 0 rfl ?_
  refine aw_get (pc := 17) C (a := 45) (k := 1) (v := .ref (ad 46)) inX4 rfl rfl (by decide) q741 dX4_changeNames_17 rfl ?_
  refine aw_iconst (pc := 20) C (v := 2) dX4_changeNames_20 rfl ?_
  obtain ⟨g6, h⟩ := ck_some h
  refine aw_iaload (pc := 21) C (a := 46) rfl g6 dX4_changeNames_21 ?_
  refine aw_icmp_ge (pc := 22) C 185 dX4_changeNames_22 rfl (fun hc => ?_) (fun hc => ?_)
  · replace h := ite_T h hc
    refine aw_iconst (pc := 185) C (v := 0) dX4_changeNames_185 rfl ?_
    refine aw_istore (pc := 186) C (x := 0) (lv' := [(4, .int 0), (0, .ref (ad 45)), (1, .int v1), (2, .int v2), (3, .int v3)]) dX4_changeNames_186 (by decide) rfl rfl ?_
    refine aw_sub [1, 2, 3, 4, 0] rfl ?_
    exact ok_X4_changeNames_l188_w C hex big v3 0 μ h
  · replace h := ite_F h hc
    refine aw_aload_n (pc := 25) C dX4_changeNames_25 rfl 0 rfl ?_
    refine aw_aload_n (pc := 26) C dX4_changeNames_26 rfl 0 rfl ?_
    refine aw_iload (pc := 27) C dX4_changeNames_27 4 rfl ?_
    refine aw_iconst (pc := 29) C (v := 1) dX4_changeNames_29 rfl ?_
    obtain ⟨q22, hq21, h⟩ := bi_some h
    refine aw_Vi (pc := 30) (a := 45) (Bs := [.int v4, .int 1]) C (ok_X4_at C.tr hq21) kv_X4_at q914 rfl rfl rfl rfl dX4_changeNames_30 ⟨(show 1 ≤ 5 by decide), (show 22 ≤ 155 by decide)⟩ ⟨Nat.zero_le _, Nat.zero_le _⟩ [.ref (ad 45)] (Nat.le_of_ble_eq_true rfl) rfl ?_
    refine aw_iload_n (pc := 33) C dX4_changeNames_33 rfl 3 rfl ?_
    obtain ⟨q24, hq23, h⟩ := bi_some h
    refine aw_Vi (pc := 34) (a := 45) (Bs := [.int q22, .int v3]) C (ok_X4_offer C.tr hq23) kv_X4_offer q926 rfl rfl rfl rfl dX4_changeNames_34 ⟨(show 1 ≤ 5 by decide), (show 22 ≤ 155 by decide)⟩ ⟨Nat.zero_le _, Nat.zero_le _⟩ [] (Nat.le_of_ble_eq_true rfl) rfl ?_
    refine aw_iload_n (pc := 37) C dX4_changeNames_37 rfl 1 rfl ?_
    refine aw_ishr (pc := 38) C dX4_changeNames_38 ?_
    refine aw_iconst (pc := 39) C (v := 1) dX4_changeNames_39 rfl ?_
    refine aw_iand (pc := 40) C dX4_changeNames_40 ?_
    refine aw_iconst (pc := 41) C (v := 1) dX4_changeNames_41 rfl ?_
    have kJ : AV l p e s m args below meth c D cI cL ad 5 7 (.inr none) r 50 [(0, .ref (ad 45)), (1, .int v1), (2, .int v2), (3, .int v3), (4, .int v4)] [.int (if ((q24 >>> (v1 &&& 31)) &&& 1) = 1 then (1 : Int32) else 0)] μ := by
      obtain ⟨x25, ex25, h⟩ := bd_some h
      refine aw_istore (pc := 50) C (x := x25) (lv' := [(5, .int x25), (0, .ref (ad 45)), (1, .int v1), (2, .int v2), (3, .int v3), (4, .int v4)]) dX4_changeNames_50 (by decide) ex25 rfl ?_
      refine aw_bipush (pc := 52) C (v := 110) dX4_changeNames_52 rfl ?_
      refine aw_bipush (pc := 54) C (v := 6) dX4_changeNames_54 rfl ?_
      refine aw_iload (pc := 56) C dX4_changeNames_56 5 rfl ?_
      refine aw_imul (pc := 58) C dX4_changeNames_58 ?_
      refine aw_iadd (pc := 59) C dX4_changeNames_59 ?_
      obtain ⟨x26, ex26, h⟩ := bd_some h
      refine aw_istore (pc := 60) C (x := x26) (lv' := [(6, .int x26), (5, .int x25), (0, .ref (ad 45)), (1, .int v1), (2, .int v2), (3, .int v3), (4, .int v4)]) dX4_changeNames_60 (by decide) ex26 rfl ?_
      refine aw_iload (pc := 62) C dX4_changeNames_62 1 rfl ?_
      refine aw_if_eq (pc := 64) C 135 dX4_changeNames_64 rfl (fun hc => ?_) (fun hc => ?_)
      · replace h := ite_T h hc
        refine aw_sub [2, 3, 4, 5, 6, 1, 0] rfl ?_
        exact ok_X4_changeNames_j135 C hex hk14 h
      · replace h := ite_F h hc
        refine aw_aload_n (pc := 67) C dX4_changeNames_67 rfl 2 rfl ?_
        refine aw_iload (pc := 68) C dX4_changeNames_68 6 rfl ?_
        obtain ⟨q35, hq34, h⟩ := bi_some h
        refine aw_Vi (pc := 70) (a := 45) (Bs := [.int v4]) C (ok_X4_isSingle C.tr hq34) kv_X4_isSingle q922 rfl rfl rfl rfl dX4_changeNames_70 ⟨(show 2 ≤ 5 by decide), (show 52 ≤ 155 by decide)⟩ ⟨Nat.zero_le _, Nat.zero_le _⟩ [] (Nat.le_of_ble_eq_true rfl) rfl ?_
        refine aw_if_eq (pc := 73) C 135 dX4_changeNames_73 rfl (fun hc => ?_) (fun hc => ?_)
        · replace h := ite_T h hc
          refine aw_sub [2, 3, 4, 5, 6, 1, 0] rfl ?_
          exact ok_X4_changeNames_j135 C hex hk14 h
        · replace h := ite_F h hc
          refine aw_aload_n (pc := 76) C dX4_changeNames_76 rfl 2 rfl ?_
          refine aw_iload (pc := 77) C dX4_changeNames_77 6 rfl ?_
          refine aw_iconst (pc := 79) C (v := 2) dX4_changeNames_79 rfl ?_
          obtain ⟨q37, hq36, h⟩ := bi_some h
          refine aw_Vi (pc := 80) (a := 45) (Bs := [.int v4, .int 2]) C (ok_X4_at C.tr hq36) kv_X4_at q914 rfl rfl rfl rfl dX4_changeNames_80 ⟨(show 1 ≤ 5 by decide), (show 22 ≤ 155 by decide)⟩ ⟨Nat.zero_le _, Nat.zero_le _⟩ [] (Nat.le_of_ble_eq_true rfl) rfl ?_
          refine aw_iload_n (pc := 83) C dX4_changeNames_83 rfl 5 rfl ?_
          refine aw_icmp_ne (pc := 84) C 135 dX4_changeNames_84 rfl (fun hc => ?_) (fun hc => ?_)
          · replace h := ite_F h hc
            refine aw_sub [2, 3, 4, 5, 6, 1, 0] rfl ?_
            exact ok_X4_changeNames_j135 C hex hk14 h
          · replace h := ite_T h hc
            refine aw_aload_n (pc := 87) C dX4_changeNames_87 rfl 2 rfl ?_
            refine aw_get (pc := 88) C (a := 45) (k := 1) (v := .ref (ad 46)) inX4 rfl rfl (by decide) q741 dX4_changeNames_88 rfl ?_
            refine aw_iload (pc := 91) C dX4_changeNames_91 0 rfl ?_
            refine aw_iconst (pc := 93) C (v := 2) dX4_changeNames_93 rfl ?_
            refine aw_iadd (pc := 94) C dX4_changeNames_94 ?_
            refine aw_iload_n (pc := 95) C dX4_changeNames_95 rfl 4 rfl ?_
            obtain ⟨g38, h⟩ := ck_some h
            obtain ⟨μ39, eμ39, h⟩ := bd_some h
            refine aw_iastore (pc := 96) C (a := 46) rfl g38 dX4_changeNames_96 eμ39 ?_
            refine aw_aload_n (pc := 97) C dX4_changeNames_97 rfl 2 rfl ?_
            refine aw_get (pc := 98) C (a := 45) (k := 1) (v := .ref (ad 46)) inX4 rfl rfl (by decide) q741 dX4_changeNames_98 rfl ?_
            refine aw_iload (pc := 101) C dX4_changeNames_101 0 rfl ?_
            refine aw_iconst (pc := 103) C (v := 3) dX4_changeNames_103 rfl ?_
            refine aw_iadd (pc := 104) C dX4_changeNames_104 ?_
            refine aw_aload_n (pc := 105) C dX4_changeNames_105 rfl 2 rfl ?_
            refine aw_get (pc := 106) C (a := 45) (k := 1) (v := .ref (ad 46)) inX4 rfl rfl (by decide) q741 dX4_changeNames_106 rfl ?_
            refine aw_iload (pc := 109) C dX4_changeNames_109 0 rfl ?_
            refine aw_iconst (pc := 111) C (v := 3) dX4_changeNames_111 rfl ?_
            refine aw_iadd (pc := 112) C dX4_changeNames_112 ?_
            obtain ⟨g40, h⟩ := ck_some h
            refine aw_iaload (pc := 113) C (a := 46) rfl g40 dX4_changeNames_113 ?_
            refine aw_iload_n (pc := 114) C dX4_changeNames_114 rfl 5 rfl ?_
            refine aw_icmp_ne (pc := 115) C 122 dX4_changeNames_115 rfl (fun hc => ?_) (fun hc => ?_)
            · replace h := ite_F h hc
              refine aw_aload_n (pc := 122) C dX4_changeNames_122 rfl 2 rfl ?_
              refine aw_get (pc := 123) C (a := 45) (k := 1) (v := .ref (ad 46)) inX4 rfl rfl (by decide) q741 dX4_changeNames_123 rfl ?_
              refine aw_iload (pc := 126) C dX4_changeNames_126 0 rfl ?_
              refine aw_iconst (pc := 128) C (v := 3) dX4_changeNames_128 rfl ?_
              refine aw_iadd (pc := 129) C dX4_changeNames_129 ?_
              obtain ⟨g41, h⟩ := ck_some h
              refine aw_iaload (pc := 130) C (a := 46) rfl g41 dX4_changeNames_130 ?_
              refine aw_sub [2, 3, 4, 5, 6] rfl ?_
              exact ok_X4_changeNames_j131 C hex hk14 (isArr_of rfl) h
            · replace h := ite_T h hc
              refine aw_iload_n (pc := 118) C dX4_changeNames_118 rfl 4 rfl ?_
              refine aw_goto (pc := 119) C 131 dX4_changeNames_119 rfl ?_
              refine aw_sub [2, 3, 4, 5, 6] rfl ?_
              exact ok_X4_changeNames_j131 C hex hk14 (isArr_of rfl) h
    refine aw_icmp_ne (pc := 42) C 49 dX4_changeNames_42 rfl (fun hd1 => ?_) (fun hd1 => ?_)
    · refine aw_iconst (pc := 49) C (v := 0) dX4_changeNames_49 rfl ?_
      rw [if_neg hd1] at kJ
      exact kJ
    · refine aw_iconst (pc := 45) C (v := 1) dX4_changeNames_45 rfl ?_
      refine aw_goto (pc := 46) C 50 dX4_changeNames_46 rfl ?_
      rw [if_pos hd1] at kJ
      exact kJ
theorem ok_X4_changeNames_l14_w {l : Launch} {p : Program} {e : Env} {s : State} {m : MethodId} {args : Array Value} {below : List Frame} {meth : Method} {c : Code} {D : va_G} {cI cL : ClassId} {ad : Nat → Nat} (C : CX p l s m args meth c RX4 cX4_changeNames 7 none D cI cL (AA ad s.heap.size)) (hex : ∀ x ∈ c.exceptionTable.toList, False) {r : Mm} {v1 : Int32} {v2 : Int32} : ∀ (n : Nat) (v3 : Int32) (v4 : Int32) (μ : Mm) , itr (X4_changeNames_l14 v1 v2) (fun _ _ _ => none) n v3 v4 μ = some r → AV l p e s m args below meth c D cI cL ad 5 7 (.inr none) r 14 [(0, .ref (ad 45)), (1, .int v1), (2, .int v2), (3, .int v3), (4, .int v4)] [] μ := by
  intro n
  induction n with
  | zero => intro v3 v4 μ h; exact nomatch (show (none : Option Mm) = some r from h)
  | succ n ih => intro v3 v4 μ h; exact ok_X4_changeNames_l14 C hex (v1 := v1) (v2 := v2) ih h
theorem ok_X4_changeNames {l : Launch} (htr : l.stackTraces = false) {v1 : Int32} {v2 : Int32} {μ : Mm} {r : Mm}  (h : X4_changeNames v1 v2 μ = some r) : MetX l yX4_changeNames cX4_changeNames 7 none 5 (fun ad => [.ref (ad 45), .int v1, .int v2]) μ (.inr none) r := by
  refine MetX.of htr (by decide) rfl (fun ad => Nat.le_of_ble_eq_true rfl) (fun p e s m args below meth c D cI cL ad C hex hw => ?_)
  show AV l p e s m args below meth c D cI cL ad 5 7 (.inr none) r 0 [(0, .ref (ad 45)), (1, .int v1), (2, .int v2)] [] μ
  unfold X4_changeNames at h
  refine aw_aload_n (pc := 0) C dX4_changeNames_0 rfl 0 rfl ?_
  obtain ⟨μ3, hq1, h⟩ := bi_some h
  refine aw_Vv (pc := 1) (a := 45) (Bs := []) C (ok_X4_lay C.tr hq1) kv_X4_lay q906 rfl rfl rfl rfl dX4_changeNames_1 ⟨(show 5 ≤ 5 by decide), (show 145 ≤ 155 by decide)⟩ ⟨Nat.zero_le _, Nat.zero_le _⟩ [] (Nat.le_of_ble_eq_true rfl) rfl ?_
  refine aw_aload_n (pc := 4) C dX4_changeNames_4 rfl 0 rfl ?_
  refine aw_iload_n (pc := 5) C dX4_changeNames_5 rfl 1 rfl ?_
  refine aw_iconst (pc := 6) C (v := 1) dX4_changeNames_6 rfl ?_
  obtain ⟨q5, hq4, h⟩ := bi_some h
  refine aw_Vi (pc := 7) (a := 45) (Bs := [.int v1, .int 1]) C (ok_X4_of C.tr hq4) kv_X4_of q849 rfl rfl rfl rfl dX4_changeNames_7 ⟨(show 1 ≤ 5 by decide), (show 22 ≤ 155 by decide)⟩ ⟨Nat.zero_le _, Nat.zero_le _⟩ [] (Nat.le_of_ble_eq_true rfl) rfl ?_
  refine aw_istore_n (pc := 10) C (x := q5) (lv' := [(3, .int q5), (0, .ref (ad 45)), (1, .int v1), (2, .int v2)]) dX4_changeNames_10 rfl (by decide) rfl rfl ?_
  refine aw_iconst (pc := 11) C (v := 0) dX4_changeNames_11 rfl ?_
  refine aw_istore (pc := 12) C (x := 0) (lv' := [(4, .int 0), (3, .int q5), (0, .ref (ad 45)), (1, .int v1), (2, .int v2)]) dX4_changeNames_12 (by decide) rfl rfl ?_
  refine aw_sub [2, 3, 4, 1, 0] rfl ?_
  exact ok_X4_changeNames_l14_w C hex big q5 0 μ3 h
/-! ### NameScopesModel.clearBuffer()I -/
theorem ok_X4_clearBuffer {l : Launch} (htr : l.stackTraces = false) {μ : Mm} {r : (Int32 × Mm)}  (h : X4_clearBuffer μ = some r) : MetX l yX4_clearBuffer cX4_clearBuffer 2 (some .int) 0 (fun ad => [.ref (ad 45)]) μ (.inr (some (.int r.1))) r.2 := by
  refine MetX.of htr (by decide) rfl (fun ad => Nat.le_of_ble_eq_true rfl) (fun p e s m args below meth c D cI cL ad C hex hw => ?_)
  show AV l p e s m args below meth c D cI cL ad 0 2 (.inr (some (.int r.1))) r.2 0 [(0, .ref (ad 45))] [] μ
  unfold X4_clearBuffer at h
  refine aw_aload_n (pc := 0) C dX4_clearBuffer_0 rfl 0 rfl ?_
  refine aw_iconst (pc := 1) C (v := 0) dX4_clearBuffer_1 rfl ?_
  obtain ⟨μ1, eμ1, h⟩ := bd_some h
  refine aw_putI (pc := 2) C (a := 45) (k := 0) (ty := .int) inX4 tyX4 tyX4_ok nmX4 rfl rfl (by decide) q740 rfl (by decide +kernel) rfl rfl (by show 0 < 26; decide) dX4_clearBuffer_2 fl_4_0 eμ1 ?_
  refine aw_aload_n (pc := 5) C dX4_clearBuffer_5 rfl 0 rfl ?_
  refine aw_get (pc := 6) C (a := 45) (k := 5) (v := .int (μ1.1 45 5)) inX4 rfl rfl (by decide) q745 dX4_clearBuffer_6 rfl ?_
  obtain ⟨x2, ex2, h⟩ := bd_some h
  refine aw_istore_n (pc := 9) C (x := x2) (lv' := [(1, .int x2), (0, .ref (ad 45))]) dX4_clearBuffer_9 rfl (by decide) ex2 rfl ?_
  refine aw_aload_n (pc := 10) C dX4_clearBuffer_10 rfl 1 rfl ?_
  refine aw_iconst (pc := 11) C (v := 0) dX4_clearBuffer_11 rfl ?_
  obtain ⟨μ3, eμ3, h⟩ := bd_some h
  refine aw_putI (pc := 12) C (a := 45) (k := 5) (ty := .int) inX4 tyX4 tyX4_ok nmX4 rfl rfl (by decide) q745 rfl (by decide +kernel) rfl rfl (by show 5 < 26; decide) dX4_clearBuffer_12 fl_4_5 eμ3 ?_
  refine aw_iload_n (pc := 15) C dX4_clearBuffer_15 rfl 0 rfl ?_
  cases h
  exact aw_iret (pc := 16) C dX4_clearBuffer_16
/-! ### NameScopesModel.copy([I[I)V -/
theorem ok_X4_copy_l2 {l : Launch} {p : Program} {e : Env} {s : State} {m : MethodId} {args : Array Value} {below : List Frame} {meth : Method} {c : Code} {D : va_G} {cI cL : ClassId} {ad : Nat → Nat} (C : CX p l s m args meth c RX4 cX4_copy 4 none D cI cL (AA ad s.heap.size)) (hex : ∀ x ∈ c.exceptionTable.toList, False) {r : Mm} {a1 : Nat} {a2 : Nat} (ha1 : kd a1 = (0, alen a1)) (ha2 : kd a2 = (0, alen a2)) {k2 : Int32 → Mm → Option Mm} (hk2 : ∀ (v3 : Int32) (μ : Mm), k2 v3 μ = some r → AV l p e s m args below meth c D cI cL ad 0 4 (.inr none) r 2 [(0, .ref (ad 45)), (1, .ref (ad a1)), (2, .ref (ad a2)), (3, .int v3)] [] μ) {v3 : Int32} {μ : Mm}  (h : X4_copy_l2 a1 a2 k2 v3 μ = some r) : AV l p e s m args below meth c D cI cL ad 0 4 (.inr none) r 2 [(0, .ref (ad 45)), (1, .ref (ad a1)), (2, .ref (ad a2)), (3, .int v3)] [] μ := by
  unfold X4_copy_l2 at h
  refine aw_iload_n (pc := 2) C dX4_copy_2 rfl 3 rfl ?_
  refine aw_sipush (pc := 3) C (v := 290) dX4_copy_3 rfl ?_
  refine aw_icmp_ge (pc := 6) C 21 dX4_copy_6 rfl (fun hc => ?_) (fun hc => ?_)
  · replace h := ite_T h hc
    refine aw_aload_n (pc := 21) C dX4_copy_21 rfl 0 rfl ?_
    refine aw_iconst (pc := 22) C (v := 0) dX4_copy_22 rfl ?_
    obtain ⟨μ1, eμ1, h⟩ := bd_some h
    refine aw_putI (pc := 23) C (a := 45) (k := 4) (ty := .boolean) inX4 tyX4 tyX4_ok nmX4 rfl rfl (by decide) q744 rfl (by decide +kernel) (b01_nar b01_0) (b01_fit b01_0) (by show 4 < 26; decide) dX4_copy_23 fl_4_4 eμ1 ?_
    cases h
    exact aw_vret (pc := 26) C dX4_copy_26
  · replace h := ite_F h hc
    refine aw_aload_n (pc := 9) C dX4_copy_9 rfl 2 rfl ?_
    refine aw_iload_n (pc := 10) C dX4_copy_10 rfl 3 rfl ?_
    refine aw_aload_n (pc := 11) C dX4_copy_11 rfl 1 rfl ?_
    refine aw_iload_n (pc := 12) C dX4_copy_12 rfl 3 rfl ?_
    obtain ⟨g2, h⟩ := ck_some h
    refine aw_iaload (pc := 13) C (a := a1) ha1 g2 dX4_copy_13 ?_
    obtain ⟨g3, h⟩ := ck_some h
    obtain ⟨μ4, eμ4, h⟩ := bd_some h
    refine aw_iastore (pc := 14) C (a := a2) ha2 g3 dX4_copy_14 eμ4 ?_
    refine aw_iinc (pc := 15) C (v := (v3 + 1)) (lv' := [(3, .int (v3 + 1)), (0, .ref (ad 45)), (1, .ref (ad a1)), (2, .ref (ad a2))]) dX4_copy_15 3 rfl (by decide) rfl rfl ?_
    refine aw_goto (pc := 18) C 2 dX4_copy_18 rfl ?_
    refine aw_sub [1, 2, 3, 0] rfl ?_
    exact hk2 (v3 + 1) μ4 h
theorem ok_X4_copy_l2_w {l : Launch} {p : Program} {e : Env} {s : State} {m : MethodId} {args : Array Value} {below : List Frame} {meth : Method} {c : Code} {D : va_G} {cI cL : ClassId} {ad : Nat → Nat} (C : CX p l s m args meth c RX4 cX4_copy 4 none D cI cL (AA ad s.heap.size)) (hex : ∀ x ∈ c.exceptionTable.toList, False) {r : Mm} {a1 : Nat} {a2 : Nat} (ha1 : kd a1 = (0, alen a1)) (ha2 : kd a2 = (0, alen a2)) : ∀ (n : Nat) (v3 : Int32) (μ : Mm) , itr (X4_copy_l2 a1 a2) (fun _ _ => none) n v3 μ = some r → AV l p e s m args below meth c D cI cL ad 0 4 (.inr none) r 2 [(0, .ref (ad 45)), (1, .ref (ad a1)), (2, .ref (ad a2)), (3, .int v3)] [] μ := by
  intro n
  induction n with
  | zero => intro v3 μ h; exact nomatch (show (none : Option Mm) = some r from h)
  | succ n ih => intro v3 μ h; exact ok_X4_copy_l2 C hex (a1 := a1) (a2 := a2) ha1 ha2 ih h
theorem ok_X4_copy {l : Launch} (htr : l.stackTraces = false) {a1 : Nat} {a2 : Nat} {μ : Mm} {r : Mm} (ha1 : kd a1 = (0, alen a1)) (ha2 : kd a2 = (0, alen a2)) (h : X4_copy a1 a2 μ = some r) : MetX l yX4_copy cX4_copy 4 none 0 (fun ad => [.ref (ad 45), .ref (ad a1), .ref (ad a2)]) μ (.inr none) r := by
  refine MetX.of htr (by decide) rfl (fun ad => Nat.le_of_ble_eq_true rfl) (fun p e s m args below meth c D cI cL ad C hex hw => ?_)
  show AV l p e s m args below meth c D cI cL ad 0 4 (.inr none) r 0 [(0, .ref (ad 45)), (1, .ref (ad a1)), (2, .ref (ad a2))] [] μ
  unfold X4_copy at h
  refine aw_iconst (pc := 0) C (v := 0) dX4_copy_0 rfl ?_
  refine aw_istore_n (pc := 1) C (x := 0) (lv' := [(3, .int 0), (0, .ref (ad 45)), (1, .ref (ad a1)), (2, .ref (ad a2))]) dX4_copy_1 rfl (by decide) rfl rfl ?_
  refine aw_sub [1, 2, 3, 0] rfl ?_
  exact ok_X4_copy_l2_w C hex ha1 ha2 big 0 μ h
/-! ### NameScopesModel.useScope(I)I -/
theorem ok_X4_useScope {l : Launch} (htr : l.stackTraces = false) {v1 : Int32} {μ : Mm} {r : Int32}  (h : X4_useScope v1 μ = some r) : MetX l yX4_useScope cX4_useScope 2 (some .int) 0 (fun ad => [.ref (ad 45), .int v1]) μ (.inr (some (.int r))) μ := by
  refine MetX.of htr (by decide) rfl (fun ad => Nat.le_of_ble_eq_true rfl) (fun p e s m args below meth c D cI cL ad C hex hw => ?_)
  show AV l p e s m args below meth c D cI cL ad 0 2 (.inr (some (.int r))) μ 0 [(0, .ref (ad 45)), (1, .int v1)] [] μ
  unfold X4_useScope at h
  refine aw_aload_n (pc := 0) C dX4_useScope_0 rfl 0 rfl ?_
  refine aw_get (pc := 1) C (a := 45) (k := 1) (v := .ref (ad 46)) inX4 rfl rfl (by decide) q741 dX4_useScope_1 rfl ?_
  refine aw_sipush (pc := 4) C (v := 230) dX4_useScope_4 rfl ?_
  refine aw_iconst (pc := 7) C (v := 2) dX4_useScope_7 rfl ?_
  refine aw_iload_n (pc := 8) C dX4_useScope_8 rfl 1 rfl ?_
  refine aw_imul (pc := 9) C dX4_useScope_9 ?_
  refine aw_iadd (pc := 10) C dX4_useScope_10 ?_
  obtain ⟨g1, h⟩ := ck_some h
  refine aw_iaload (pc := 11) C (a := 46) rfl g1 dX4_useScope_11 ?_
  cases h
  exact aw_iret (pc := 12) C dX4_useScope_12
/-! ### NameScopesModel.outcome(II)I -/
theorem ok_X4_outcome {l : Launch} (htr : l.stackTraces = false) {v1 : Int32} {v2 : Int32} {μ : Mm} {r : (Int32 × Mm)}  (h : X4_outcome v1 v2 μ = some r) : MetX l yX4_outcome cX4_outcome 3 (some .int) 6 (fun ad => [.ref (ad 45), .int v1, .int v2]) μ (.inr (some (.int r.1))) r.2 := by
  refine MetX.of htr (by decide) rfl (fun ad => Nat.le_of_ble_eq_true rfl) (fun p e s m args below meth c D cI cL ad C hex hw => ?_)
  show AV l p e s m args below meth c D cI cL ad 6 3 (.inr (some (.int r.1))) r.2 0 [(0, .ref (ad 45)), (1, .int v1), (2, .int v2)] [] μ
  unfold X4_outcome at h
  refine aw_aload_n (pc := 0) C dX4_outcome_0 rfl 0 rfl ?_
  refine aw_iload_n (pc := 1) C dX4_outcome_1 rfl 1 rfl ?_
  refine aw_iload_n (pc := 2) C dX4_outcome_2 rfl 2 rfl ?_
  obtain ⟨μ3, hq1, h⟩ := bi_some h
  refine aw_Vv (pc := 3) (a := 45) (Bs := [.int v1, .int v2]) C (ok_X4_layLayers C.tr hq1) kv_X4_layLayers q902 rfl rfl rfl rfl dX4_outcome_3 ⟨(show 6 ≤ 6 by decide), (show 181 ≤ 186 by decide)⟩ ⟨Nat.zero_le _, Nat.zero_le _⟩ [] (Nat.le_of_ble_eq_true rfl) rfl ?_
  refine aw_aload_n (pc := 6) C dX4_outcome_6 rfl 0 rfl ?_
  refine aw_get (pc := 7) C (a := 45) (k := 7) (v := .int (μ3.1 45 7)) inX4 rfl rfl (by decide) q747 dX4_outcome_7 rfl ?_
  refine aw_if_ne (pc := 10) C 17 dX4_outcome_10 rfl (fun hc => ?_) (fun hc => ?_)
  · replace h := ite_F h hc
    refine aw_aload_n (pc := 17) C dX4_outcome_17 rfl 0 rfl ?_
    refine aw_get (pc := 18) C (a := 45) (k := 8) (v := .ref (ad 50)) inX4 rfl rfl (by decide) q748 dX4_outcome_18 rfl ?_
    refine aw_iconst (pc := 21) C (v := 0) dX4_outcome_21 rfl ?_
    obtain ⟨g4, h⟩ := ck_some h
    refine aw_iaload (pc := 22) C (a := 50) rfl g4 dX4_outcome_22 ?_
    cases h
    exact aw_iret (pc := 23) C dX4_outcome_23
  · replace h := ite_T h hc
    refine aw_iconst (pc := 13) C (v := 0) dX4_outcome_13 rfl ?_
    refine aw_goto (pc := 14) C 23 dX4_outcome_14 rfl ?_
    cases h
    exact aw_iret (pc := 23) C dX4_outcome_23
/-! ### NameScopesModel.outcomeOf(I)I -/
theorem ok_X4_outcomeOf {l : Launch} (htr : l.stackTraces = false) {v1 : Int32} {μ : Mm} {r : (Int32 × Mm)}  (h : X4_outcomeOf v1 μ = some r) : MetX l yX4_outcomeOf cX4_outcomeOf 2 (some .int) 7 (fun ad => [.ref (ad 45), .int v1]) μ (.inr (some (.int r.1))) r.2 := by
  refine MetX.of htr (by decide) rfl (fun ad => Nat.le_of_ble_eq_true rfl) (fun p e s m args below meth c D cI cL ad C hex hw => ?_)
  show AV l p e s m args below meth c D cI cL ad 7 2 (.inr (some (.int r.1))) r.2 0 [(0, .ref (ad 45)), (1, .int v1)] [] μ
  unfold X4_outcomeOf at h
  refine aw_aload_n (pc := 0) C dX4_outcomeOf_0 rfl 0 rfl ?_
  refine aw_aload_n (pc := 1) C dX4_outcomeOf_1 rfl 0 rfl ?_
  refine aw_iload_n (pc := 2) C dX4_outcomeOf_2 rfl 1 rfl ?_
  obtain ⟨q2, hq1, h⟩ := bi_some h
  refine aw_Vi (pc := 3) (a := 45) (Bs := [.int v1]) C (ok_X4_useScope C.tr hq1) kv_X4_useScope q890 rfl rfl rfl rfl dX4_outcomeOf_3 ⟨(show 1 ≤ 7 by decide), (show 21 ≤ 217 by decide)⟩ ⟨Nat.zero_le _, Nat.zero_le _⟩ [.ref (ad 45)] (Nat.le_of_ble_eq_true rfl) rfl ?_
  refine aw_aload_n (pc := 6) C dX4_outcomeOf_6 rfl 0 rfl ?_
  refine aw_iload_n (pc := 7) C dX4_outcomeOf_7 rfl 1 rfl ?_
  obtain ⟨q4, hq3, h⟩ := bi_some h
  refine aw_Vi (pc := 8) (a := 45) (Bs := [.int v1]) C (ok_X4_useName C.tr hq3) kv_X4_useName q894 rfl rfl rfl rfl dX4_outcomeOf_8 ⟨(show 1 ≤ 7 by decide), (show 21 ≤ 217 by decide)⟩ ⟨Nat.zero_le _, Nat.zero_le _⟩ [.int q2, .ref (ad 45)] (Nat.le_of_ble_eq_true rfl) rfl ?_
  obtain ⟨q6, μ7, hq5, h⟩ := bn_some h
  refine aw_Vi (pc := 11) (a := 45) (Bs := [.int q2, .int q4]) C (ok_X4_outcome C.tr hq5) kv_X4_outcome q898 rfl rfl rfl rfl dX4_outcomeOf_11 ⟨(show 7 ≤ 7 by decide), (show 208 ≤ 217 by decide)⟩ ⟨Nat.zero_le _, Nat.zero_le _⟩ [] (Nat.le_of_ble_eq_true rfl) rfl ?_
  cases h
  exact aw_iret (pc := 14) C dX4_outcomeOf_14
/-! ### NameScopesModel.usesWith(II)I -/
theorem ok_X4_usesWith_l5 {l : Launch} {p : Program} {e : Env} {s : State} {m : MethodId} {args : Array Value} {below : List Frame} {meth : Method} {c : Code} {D : va_G} {cI cL : ClassId} {ad : Nat → Nat} (C : CX p l s m args meth c RX4 cX4_usesWith 5 (some .int) D cI cL (AA ad s.heap.size)) (hex : ∀ x ∈ c.exceptionTable.toList, False) {r : (Int32 × Mm)} {v1 : Int32} {v2 : Int32} {k5 : Int32 → Int32 → Mm → Option (Int32 × Mm)} (hk5 : ∀ (v3 : Int32) (v4 : Int32) (μ : Mm), k5 v3 v4 μ = some r → AV l p e s m args below meth c D cI cL ad 8 5 (.inr (some (.int r.1))) r.2 5 [(0, .ref (ad 45)), (1, .int v1), (2, .int v2), (3, .int v3), (4, .int v4)] [] μ) {v3 : Int32} {v4 : Int32} {μ : Mm}  (h : X4_usesWith_l5 v1 v2 k5 v3 v4 μ = some r) : AV l p e s m args below meth c D cI cL ad 8 5 (.inr (some (.int r.1))) r.2 5 [(0, .ref (ad 45)), (1, .int v1), (2, .int v2), (3, .int v3), (4, .int v4)] [] μ := by
  unfold X4_usesWith_l5 at h
  refine aw_iload (pc := 5) C dX4_usesWith_5 4 rfl ?_
  refine aw_aload_n (pc := 7) C dX4_usesWith_7 rfl 0 rfl ?_
  refine aw_get (pc := 8) C (a := 45) (k := 1) (v := .ref (ad 46)) inX4 rfl rfl (by decide) q741 dX4_usesWith_8 rfl ?_
  refine aw_iconst (pc := 11) C (v := 3) dX4_usesWith_11 rfl ?_
  obtain ⟨g1, h⟩ := ck_some h
  refine aw_iaload (pc := 12) C (a := 46) rfl g1 dX4_usesWith_12 ?_
  refine aw_icmp_ge (pc := 13) C 47 dX4_usesWith_13 rfl (fun hc => ?_) (fun hc => ?_)
  · replace h := ite_T h hc
    refine aw_iload_n (pc := 47) C dX4_usesWith_47 rfl 3 rfl ?_
    cases h
    exact aw_iret (pc := 48) C dX4_usesWith_48
  · replace h := ite_F h hc
    refine aw_iload_n (pc := 16) C dX4_usesWith_16 rfl 3 rfl ?_
    refine aw_aload_n (pc := 17) C dX4_usesWith_17 rfl 0 rfl ?_
    refine aw_iload (pc := 18) C dX4_usesWith_18 4 rfl ?_
    obtain ⟨q3, μ4, hq2, h⟩ := bn_some h
    refine aw_Vi (pc := 20) (a := 45) (Bs := [.int v4]) C (ok_X4_outcomeOf C.tr hq2) kv_X4_outcomeOf q886 rfl rfl rfl rfl dX4_usesWith_20 ⟨(show 8 ≤ 8 by decide), (show 238 ≤ 248 by decide)⟩ ⟨Nat.zero_le _, Nat.zero_le _⟩ [.int v3] (Nat.le_of_ble_eq_true rfl) rfl ?_
    obtain ⟨q6, hq5, h⟩ := bi_some h
    refine aw_Si (pc := 23) (Bs := [.int q3]) C (ok_X4_bits C.tr hq5) kv_X4_bits q1019 rfl rfl dX4_usesWith_23 ⟨(show 1 ≤ 8 by decide), (show 22 ≤ 248 by decide)⟩ ⟨Nat.zero_le _, Nat.zero_le _⟩ [.int v3] (Nat.le_of_ble_eq_true rfl) rfl ?_
    refine aw_iload_n (pc := 26) C dX4_usesWith_26 rfl 1 rfl ?_
    refine aw_iload_n (pc := 27) C dX4_usesWith_27 rfl 2 rfl ?_
    obtain ⟨q8, hq7, h⟩ := bi_some h
    refine aw_Si (pc := 28) (Bs := [.int q6, .int v1, .int v2]) C (ok_X4_within C.tr hq7) kv_X4_within q835 rfl rfl dX4_usesWith_28 ⟨(show 1 ≤ 8 by decide), (show 22 ≤ 248 by decide)⟩ ⟨Nat.zero_le _, Nat.zero_le _⟩ [.int v3] (Nat.le_of_ble_eq_true rfl) rfl ?_
    have kJ : AV l p e s m args below meth c D cI cL ad 8 5 (.inr (some (.int r.1))) r.2 39 [(0, .ref (ad 45)), (1, .int v1), (2, .int v2), (3, .int v3), (4, .int v4)] [.int (if q8 = 0 then (0 : Int32) else 1), .int v3] μ4 := by
      refine aw_iadd (pc := 39) C dX4_usesWith_39 ?_
      obtain ⟨x9, ex9, h⟩ := bd_some h
      refine aw_istore_n (pc := 40) C (x := x9) (lv' := [(3, .int x9), (0, .ref (ad 45)), (1, .int v1), (2, .int v2), (4, .int v4)]) dX4_usesWith_40 rfl (by decide) ex9 rfl ?_
      refine aw_iinc (pc := 41) C (v := (v4 + 1)) (lv' := [(4, .int (v4 + 1)), (3, .int x9), (0, .ref (ad 45)), (1, .int v1), (2, .int v2)]) dX4_usesWith_41 4 rfl (by decide) rfl rfl ?_
      refine aw_goto (pc := 44) C 5 dX4_usesWith_44 rfl ?_
      refine aw_sub [2, 3, 4, 1, 0] rfl ?_
      exact hk5 x9 (v4 + 1) μ4 h
    refine aw_if_eq (pc := 31) C 38 dX4_usesWith_31 rfl (fun hd1 => ?_) (fun hd1 => ?_)
    · refine aw_iconst (pc := 38) C (v := 0) dX4_usesWith_38 rfl ?_
      rw [if_pos hd1] at kJ
      exact kJ
    · refine aw_iconst (pc := 34) C (v := 1) dX4_usesWith_34 rfl ?_
      refine aw_goto (pc := 35) C 39 dX4_usesWith_35 rfl ?_
      rw [if_neg hd1] at kJ
      exact kJ
theorem ok_X4_usesWith_l5_w {l : Launch} {p : Program} {e : Env} {s : State} {m : MethodId} {args : Array Value} {below : List Frame} {meth : Method} {c : Code} {D : va_G} {cI cL : ClassId} {ad : Nat → Nat} (C : CX p l s m args meth c RX4 cX4_usesWith 5 (some .int) D cI cL (AA ad s.heap.size)) (hex : ∀ x ∈ c.exceptionTable.toList, False) {r : (Int32 × Mm)} {v1 : Int32} {v2 : Int32} : ∀ (n : Nat) (v3 : Int32) (v4 : Int32) (μ : Mm) , itr (X4_usesWith_l5 v1 v2) (fun _ _ _ => none) n v3 v4 μ = some r → AV l p e s m args below meth c D cI cL ad 8 5 (.inr (some (.int r.1))) r.2 5 [(0, .ref (ad 45)), (1, .int v1), (2, .int v2), (3, .int v3), (4, .int v4)] [] μ := by
  intro n
  induction n with
  | zero => intro v3 v4 μ h; exact nomatch (show (none : Option (Int32 × Mm)) = some r from h)
  | succ n ih => intro v3 v4 μ h; exact ok_X4_usesWith_l5 C hex (v1 := v1) (v2 := v2) ih h
theorem ok_X4_usesWith {l : Launch} (htr : l.stackTraces = false) {v1 : Int32} {v2 : Int32} {μ : Mm} {r : (Int32 × Mm)}  (h : X4_usesWith v1 v2 μ = some r) : MetX l yX4_usesWith cX4_usesWith 5 (some .int) 8 (fun ad => [.ref (ad 45), .int v1, .int v2]) μ (.inr (some (.int r.1))) r.2 := by
  refine MetX.of htr (by decide) rfl (fun ad => Nat.le_of_ble_eq_true rfl) (fun p e s m args below meth c D cI cL ad C hex hw => ?_)
  show AV l p e s m args below meth c D cI cL ad 8 5 (.inr (some (.int r.1))) r.2 0 [(0, .ref (ad 45)), (1, .int v1), (2, .int v2)] [] μ
  unfold X4_usesWith at h
  refine aw_iconst (pc := 0) C (v := 0) dX4_usesWith_0 rfl ?_
  refine aw_istore_n (pc := 1) C (x := 0) (lv' := [(3, .int 0), (0, .ref (ad 45)), (1, .int v1), (2, .int v2)]) dX4_usesWith_1 rfl (by decide) rfl rfl ?_
  refine aw_iconst (pc := 2) C (v := 0) dX4_usesWith_2 rfl ?_
  refine aw_istore (pc := 3) C (x := 0) (lv' := [(4, .int 0), (3, .int 0), (0, .ref (ad 45)), (1, .int v1), (2, .int v2)]) dX4_usesWith_3 (by decide) rfl rfl ?_
  refine aw_sub [2, 3, 4, 1, 0] rfl ?_
  exact ok_X4_usesWith_l5_w C hex big 0 0 μ h
/-! ### NameScopesModel.usesOf(I)I -/
theorem ok_X4_usesOf_l4 {l : Launch} {p : Program} {e : Env} {s : State} {m : MethodId} {args : Array Value} {below : List Frame} {meth : Method} {c : Code} {D : va_G} {cI cL : ClassId} {ad : Nat → Nat} (C : CX p l s m args meth c RX4 cX4_usesOf 4 (some .int) D cI cL (AA ad s.heap.size)) (hex : ∀ x ∈ c.exceptionTable.toList, False) {r : (Int32 × Mm)} {v1 : Int32} {k4 : Int32 → Int32 → Mm → Option (Int32 × Mm)} (hk4 : ∀ (v2 : Int32) (v3 : Int32) (μ : Mm), k4 v2 v3 μ = some r → AV l p e s m args below meth c D cI cL ad 8 4 (.inr (some (.int r.1))) r.2 4 [(0, .ref (ad 45)), (1, .int v1), (2, .int v2), (3, .int v3)] [] μ) {v2 : Int32} {v3 : Int32} {μ : Mm}  (h : X4_usesOf_l4 v1 k4 v2 v3 μ = some r) : AV l p e s m args below meth c D cI cL ad 8 4 (.inr (some (.int r.1))) r.2 4 [(0, .ref (ad 45)), (1, .int v1), (2, .int v2), (3, .int v3)] [] μ := by
  unfold X4_usesOf_l4 at h
  refine aw_iload_n (pc := 4) C dX4_usesOf_4 rfl 3 rfl ?_
  refine aw_aload_n (pc := 5) C dX4_usesOf_5 rfl 0 rfl ?_
  refine aw_get (pc := 6) C (a := 45) (k := 1) (v := .ref (ad 46)) inX4 rfl rfl (by decide) q741 dX4_usesOf_6 rfl ?_
  refine aw_iconst (pc := 9) C (v := 3) dX4_usesOf_9 rfl ?_
  obtain ⟨g1, h⟩ := ck_some h
  refine aw_iaload (pc := 10) C (a := 46) rfl g1 dX4_usesOf_10 ?_
  refine aw_icmp_ge (pc := 11) C 39 dX4_usesOf_11 rfl (fun hc => ?_) (fun hc => ?_)
  · replace h := ite_T h hc
    refine aw_iload_n (pc := 39) C dX4_usesOf_39 rfl 2 rfl ?_
    cases h
    exact aw_iret (pc := 40) C dX4_usesOf_40
  · replace h := ite_F h hc
    refine aw_iload_n (pc := 14) C dX4_usesOf_14 rfl 2 rfl ?_
    refine aw_aload_n (pc := 15) C dX4_usesOf_15 rfl 0 rfl ?_
    refine aw_iload_n (pc := 16) C dX4_usesOf_16 rfl 3 rfl ?_
    obtain ⟨q3, μ4, hq2, h⟩ := bn_some h
    refine aw_Vi (pc := 17) (a := 45) (Bs := [.int v3]) C (ok_X4_outcomeOf C.tr hq2) kv_X4_outcomeOf q886 rfl rfl rfl rfl dX4_usesOf_17 ⟨(show 8 ≤ 8 by decide), (show 238 ≤ 248 by decide)⟩ ⟨Nat.zero_le _, Nat.zero_le _⟩ [.int v2] (Nat.le_of_ble_eq_true rfl) rfl ?_
    refine aw_iconst (pc := 20) C (v := 1) dX4_usesOf_20 rfl ?_
    refine aw_iload_n (pc := 21) C dX4_usesOf_21 rfl 1 rfl ?_
    refine aw_ishl (pc := 22) C dX4_usesOf_22 ?_
    have kJ : AV l p e s m args below meth c D cI cL ad 8 4 (.inr (some (.int r.1))) r.2 31 [(0, .ref (ad 45)), (1, .int v1), (2, .int v2), (3, .int v3)] [.int (if q3 = (1 <<< (v1 &&& 31)) then (1 : Int32) else 0), .int v2] μ4 := by
      refine aw_iadd (pc := 31) C dX4_usesOf_31 ?_
      obtain ⟨x5, ex5, h⟩ := bd_some h
      refine aw_istore_n (pc := 32) C (x := x5) (lv' := [(2, .int x5), (0, .ref (ad 45)), (1, .int v1), (3, .int v3)]) dX4_usesOf_32 rfl (by decide) ex5 rfl ?_
      refine aw_iinc (pc := 33) C (v := (v3 + 1)) (lv' := [(3, .int (v3 + 1)), (2, .int x5), (0, .ref (ad 45)), (1, .int v1)]) dX4_usesOf_33 3 rfl (by decide) rfl rfl ?_
      refine aw_goto (pc := 36) C 4 dX4_usesOf_36 rfl ?_
      refine aw_sub [2, 3, 1, 0] rfl ?_
      exact hk4 x5 (v3 + 1) μ4 h
    refine aw_icmp_ne (pc := 23) C 30 dX4_usesOf_23 rfl (fun hd1 => ?_) (fun hd1 => ?_)
    · refine aw_iconst (pc := 30) C (v := 0) dX4_usesOf_30 rfl ?_
      rw [if_neg hd1] at kJ
      exact kJ
    · refine aw_iconst (pc := 26) C (v := 1) dX4_usesOf_26 rfl ?_
      refine aw_goto (pc := 27) C 31 dX4_usesOf_27 rfl ?_
      rw [if_pos hd1] at kJ
      exact kJ
theorem ok_X4_usesOf_l4_w {l : Launch} {p : Program} {e : Env} {s : State} {m : MethodId} {args : Array Value} {below : List Frame} {meth : Method} {c : Code} {D : va_G} {cI cL : ClassId} {ad : Nat → Nat} (C : CX p l s m args meth c RX4 cX4_usesOf 4 (some .int) D cI cL (AA ad s.heap.size)) (hex : ∀ x ∈ c.exceptionTable.toList, False) {r : (Int32 × Mm)} {v1 : Int32} : ∀ (n : Nat) (v2 : Int32) (v3 : Int32) (μ : Mm) , itr (X4_usesOf_l4 v1) (fun _ _ _ => none) n v2 v3 μ = some r → AV l p e s m args below meth c D cI cL ad 8 4 (.inr (some (.int r.1))) r.2 4 [(0, .ref (ad 45)), (1, .int v1), (2, .int v2), (3, .int v3)] [] μ := by
  intro n
  induction n with
  | zero => intro v2 v3 μ h; exact nomatch (show (none : Option (Int32 × Mm)) = some r from h)
  | succ n ih => intro v2 v3 μ h; exact ok_X4_usesOf_l4 C hex (v1 := v1) ih h
theorem ok_X4_usesOf {l : Launch} (htr : l.stackTraces = false) {v1 : Int32} {μ : Mm} {r : (Int32 × Mm)}  (h : X4_usesOf v1 μ = some r) : MetX l yX4_usesOf cX4_usesOf 4 (some .int) 8 (fun ad => [.ref (ad 45), .int v1]) μ (.inr (some (.int r.1))) r.2 := by
  refine MetX.of htr (by decide) rfl (fun ad => Nat.le_of_ble_eq_true rfl) (fun p e s m args below meth c D cI cL ad C hex hw => ?_)
  show AV l p e s m args below meth c D cI cL ad 8 4 (.inr (some (.int r.1))) r.2 0 [(0, .ref (ad 45)), (1, .int v1)] [] μ
  unfold X4_usesOf at h
  refine aw_iconst (pc := 0) C (v := 0) dX4_usesOf_0 rfl ?_
  refine aw_istore_n (pc := 1) C (x := 0) (lv' := [(2, .int 0), (0, .ref (ad 45)), (1, .int v1)]) dX4_usesOf_1 rfl (by decide) rfl rfl ?_
  refine aw_iconst (pc := 2) C (v := 0) dX4_usesOf_2 rfl ?_
  refine aw_istore_n (pc := 3) C (x := 0) (lv' := [(3, .int 0), (2, .int 0), (0, .ref (ad 45)), (1, .int v1)]) dX4_usesOf_3 rfl (by decide) rfl rfl ?_
  refine aw_sub [2, 3, 1, 0] rfl ?_
  exact ok_X4_usesOf_l4_w C hex big 0 0 μ h
/-! ### NameScopesModel.unused()I -/
theorem ok_X4_unused_l4 {l : Launch} {p : Program} {e : Env} {s : State} {m : MethodId} {args : Array Value} {below : List Frame} {meth : Method} {c : Code} {D : va_G} {cI cL : ClassId} {ad : Nat → Nat} (C : CX p l s m args meth c RX4 cX4_unused 3 (some .int) D cI cL (AA ad s.heap.size)) (hex : ∀ x ∈ c.exceptionTable.toList, False) {r : (Int32 × Mm)} {k4 : Int32 → Int32 → Mm → Option (Int32 × Mm)} (hk4 : ∀ (v1 : Int32) (v2 : Int32) (μ : Mm), k4 v1 v2 μ = some r → AV l p e s m args below meth c D cI cL ad 9 3 (.inr (some (.int r.1))) r.2 4 [(0, .ref (ad 45)), (1, .int v1), (2, .int v2)] [] μ) {v1 : Int32} {v2 : Int32} {μ : Mm}  (h : X4_unused_l4 k4 v1 v2 μ = some r) : AV l p e s m args below meth c D cI cL ad 9 3 (.inr (some (.int r.1))) r.2 4 [(0, .ref (ad 45)), (1, .int v1), (2, .int v2)] [] μ := by
  unfold X4_unused_l4 at h
  refine aw_iload_n (pc := 4) C dX4_unused_4 rfl 2 rfl ?_
  refine aw_aload_n (pc := 5) C dX4_unused_5 rfl 0 rfl ?_
  refine aw_get (pc := 6) C (a := 45) (k := 1) (v := .ref (ad 46)) inX4 rfl rfl (by decide) q741 dX4_unused_6 rfl ?_
  refine aw_iconst (pc := 9) C (v := 1) dX4_unused_9 rfl ?_
  obtain ⟨g1, h⟩ := ck_some h
  refine aw_iaload (pc := 10) C (a := 46) rfl g1 dX4_unused_10 ?_
  refine aw_icmp_ge (pc := 11) C 36 dX4_unused_11 rfl (fun hc => ?_) (fun hc => ?_)
  · replace h := ite_T h hc
    refine aw_iload_n (pc := 36) C dX4_unused_36 rfl 1 rfl ?_
    cases h
    exact aw_iret (pc := 37) C dX4_unused_37
  · replace h := ite_F h hc
    refine aw_iload_n (pc := 14) C dX4_unused_14 rfl 1 rfl ?_
    refine aw_aload_n (pc := 15) C dX4_unused_15 rfl 0 rfl ?_
    refine aw_iload_n (pc := 16) C dX4_unused_16 rfl 2 rfl ?_
    obtain ⟨q3, μ4, hq2, h⟩ := bn_some h
    refine aw_Vi (pc := 17) (a := 45) (Bs := [.int v2]) C (ok_X4_usesOf C.tr hq2) kv_X4_usesOf q1085 rfl rfl rfl rfl dX4_unused_17 ⟨(show 9 ≤ 9 by decide), (show 271 ≤ 279 by decide)⟩ ⟨Nat.zero_le _, Nat.zero_le _⟩ [.int v1] (Nat.le_of_ble_eq_true rfl) rfl ?_
    have kJ : AV l p e s m args below meth c D cI cL ad 9 3 (.inr (some (.int r.1))) r.2 28 [(0, .ref (ad 45)), (1, .int v1), (2, .int v2)] [.int (if q3 = 0 then (1 : Int32) else 0), .int v1] μ4 := by
      refine aw_iadd (pc := 28) C dX4_unused_28 ?_
      obtain ⟨x5, ex5, h⟩ := bd_some h
      refine aw_istore_n (pc := 29) C (x := x5) (lv' := [(1, .int x5), (0, .ref (ad 45)), (2, .int v2)]) dX4_unused_29 rfl (by decide) ex5 rfl ?_
      refine aw_iinc (pc := 30) C (v := (v2 + 1)) (lv' := [(2, .int (v2 + 1)), (1, .int x5), (0, .ref (ad 45))]) dX4_unused_30 2 rfl (by decide) rfl rfl ?_
      refine aw_goto (pc := 33) C 4 dX4_unused_33 rfl ?_
      refine aw_sub [2, 1, 0] rfl ?_
      exact hk4 x5 (v2 + 1) μ4 h
    refine aw_if_ne (pc := 20) C 27 dX4_unused_20 rfl (fun hd1 => ?_) (fun hd1 => ?_)
    · refine aw_iconst (pc := 27) C (v := 0) dX4_unused_27 rfl ?_
      rw [if_neg hd1] at kJ
      exact kJ
    · refine aw_iconst (pc := 23) C (v := 1) dX4_unused_23 rfl ?_
      refine aw_goto (pc := 24) C 28 dX4_unused_24 rfl ?_
      rw [if_pos hd1] at kJ
      exact kJ
theorem ok_X4_unused_l4_w {l : Launch} {p : Program} {e : Env} {s : State} {m : MethodId} {args : Array Value} {below : List Frame} {meth : Method} {c : Code} {D : va_G} {cI cL : ClassId} {ad : Nat → Nat} (C : CX p l s m args meth c RX4 cX4_unused 3 (some .int) D cI cL (AA ad s.heap.size)) (hex : ∀ x ∈ c.exceptionTable.toList, False) {r : (Int32 × Mm)}  : ∀ (n : Nat) (v1 : Int32) (v2 : Int32) (μ : Mm) , itr (X4_unused_l4) (fun _ _ _ => none) n v1 v2 μ = some r → AV l p e s m args below meth c D cI cL ad 9 3 (.inr (some (.int r.1))) r.2 4 [(0, .ref (ad 45)), (1, .int v1), (2, .int v2)] [] μ := by
  intro n
  induction n with
  | zero => intro v1 v2 μ h; exact nomatch (show (none : Option (Int32 × Mm)) = some r from h)
  | succ n ih => intro v1 v2 μ h; exact ok_X4_unused_l4 C hex  ih h
theorem ok_X4_unused {l : Launch} (htr : l.stackTraces = false) {μ : Mm} {r : (Int32 × Mm)}  (h : X4_unused μ = some r) : MetX l yX4_unused cX4_unused 3 (some .int) 9 (fun ad => [.ref (ad 45)]) μ (.inr (some (.int r.1))) r.2 := by
  refine MetX.of htr (by decide) rfl (fun ad => Nat.le_of_ble_eq_true rfl) (fun p e s m args below meth c D cI cL ad C hex hw => ?_)
  show AV l p e s m args below meth c D cI cL ad 9 3 (.inr (some (.int r.1))) r.2 0 [(0, .ref (ad 45))] [] μ
  unfold X4_unused at h
  refine aw_iconst (pc := 0) C (v := 0) dX4_unused_0 rfl ?_
  refine aw_istore_n (pc := 1) C (x := 0) (lv' := [(1, .int 0), (0, .ref (ad 45))]) dX4_unused_1 rfl (by decide) rfl rfl ?_
  refine aw_iconst (pc := 2) C (v := 0) dX4_unused_2 rfl ?_
  refine aw_istore_n (pc := 3) C (x := 0) (lv' := [(2, .int 0), (1, .int 0), (0, .ref (ad 45))]) dX4_unused_3 rfl (by decide) rfl rfl ?_
  refine aw_sub [2, 1, 0] rfl ?_
  exact ok_X4_unused_l4_w C hex big 0 0 μ h
/-! ### NameScopesModel.pairsOf(I)I -/
theorem ok_X4_pairsOf_l8 {l : Launch} {p : Program} {e : Env} {s : State} {m : MethodId} {args : Array Value} {below : List Frame} {meth : Method} {c : Code} {D : va_G} {cI cL : ClassId} {ad : Nat → Nat} (C : CX p l s m args meth c RX4 cX4_pairsOf 4 (some .int) D cI cL (AA ad s.heap.size)) (hex : ∀ x ∈ c.exceptionTable.toList, False) {r : (Int32 × Mm)} {v1 : Int32} {k8 : Int32 → Int32 → Mm → Option (Int32 × Mm)} (hk8 : ∀ (v2 : Int32) (v3 : Int32) (μ : Mm), k8 v2 v3 μ = some r → AV l p e s m args below meth c D cI cL ad 5 4 (.inr (some (.int r.1))) r.2 8 [(0, .ref (ad 45)), (1, .int v1), (2, .int v2), (3, .int v3)] [] μ) {v2 : Int32} {v3 : Int32} {μ : Mm}  (h : X4_pairsOf_l8 v1 k8 v2 v3 μ = some r) : AV l p e s m args below meth c D cI cL ad 5 4 (.inr (some (.int r.1))) r.2 8 [(0, .ref (ad 45)), (1, .int v1), (2, .int v2), (3, .int v3)] [] μ := by
  unfold X4_pairsOf_l8 at h
  refine aw_iload_n (pc := 8) C dX4_pairsOf_8 rfl 3 rfl ?_
  refine aw_bipush (pc := 9) C (v := 26) dX4_pairsOf_9 rfl ?_
  refine aw_icmp_ge (pc := 11) C 32 dX4_pairsOf_11 rfl (fun hc => ?_) (fun hc => ?_)
  · replace h := ite_T h hc
    refine aw_iload_n (pc := 32) C dX4_pairsOf_32 rfl 2 rfl ?_
    cases h
    exact aw_iret (pc := 33) C dX4_pairsOf_33
  · replace h := ite_F h hc
    refine aw_iload_n (pc := 14) C dX4_pairsOf_14 rfl 2 rfl ?_
    refine aw_aload_n (pc := 15) C dX4_pairsOf_15 rfl 0 rfl ?_
    refine aw_iload_n (pc := 16) C dX4_pairsOf_16 rfl 1 rfl ?_
    refine aw_iload_n (pc := 17) C dX4_pairsOf_17 rfl 3 rfl ?_
    obtain ⟨q5, hq4, h⟩ := bi_some h
    refine aw_Vi (pc := 18) (a := 45) (Bs := [.int v1, .int v3]) C (ok_X4_brought C.tr hq4) kv_X4_brought q918 rfl rfl rfl rfl dX4_pairsOf_18 ⟨(show 3 ≤ 5 by decide), (show 84 ≤ 155 by decide)⟩ ⟨Nat.zero_le _, Nat.zero_le _⟩ [.int v2] (Nat.le_of_ble_eq_true rfl) rfl ?_
    obtain ⟨q7, hq6, h⟩ := bi_some h
    refine aw_Si (pc := 21) (Bs := [.int q5]) C (ok_X4_bits C.tr hq6) kv_X4_bits q1019 rfl rfl dX4_pairsOf_21 ⟨(show 1 ≤ 5 by decide), (show 22 ≤ 155 by decide)⟩ ⟨Nat.zero_le _, Nat.zero_le _⟩ [.int v2] (Nat.le_of_ble_eq_true rfl) rfl ?_
    refine aw_iadd (pc := 24) C dX4_pairsOf_24 ?_
    obtain ⟨x8, ex8, h⟩ := bd_some h
    refine aw_istore_n (pc := 25) C (x := x8) (lv' := [(2, .int x8), (0, .ref (ad 45)), (1, .int v1), (3, .int v3)]) dX4_pairsOf_25 rfl (by decide) ex8 rfl ?_
    refine aw_iinc (pc := 26) C (v := (v3 + 1)) (lv' := [(3, .int (v3 + 1)), (2, .int x8), (0, .ref (ad 45)), (1, .int v1)]) dX4_pairsOf_26 3 rfl (by decide) rfl rfl ?_
    refine aw_goto (pc := 29) C 8 dX4_pairsOf_29 rfl ?_
    refine aw_sub [2, 3, 1, 0] rfl ?_
    exact hk8 x8 (v3 + 1) μ h
theorem ok_X4_pairsOf_l8_w {l : Launch} {p : Program} {e : Env} {s : State} {m : MethodId} {args : Array Value} {below : List Frame} {meth : Method} {c : Code} {D : va_G} {cI cL : ClassId} {ad : Nat → Nat} (C : CX p l s m args meth c RX4 cX4_pairsOf 4 (some .int) D cI cL (AA ad s.heap.size)) (hex : ∀ x ∈ c.exceptionTable.toList, False) {r : (Int32 × Mm)} {v1 : Int32} : ∀ (n : Nat) (v2 : Int32) (v3 : Int32) (μ : Mm) , itr (X4_pairsOf_l8 v1) (fun _ _ _ => none) n v2 v3 μ = some r → AV l p e s m args below meth c D cI cL ad 5 4 (.inr (some (.int r.1))) r.2 8 [(0, .ref (ad 45)), (1, .int v1), (2, .int v2), (3, .int v3)] [] μ := by
  intro n
  induction n with
  | zero => intro v2 v3 μ h; exact nomatch (show (none : Option (Int32 × Mm)) = some r from h)
  | succ n ih => intro v2 v3 μ h; exact ok_X4_pairsOf_l8 C hex (v1 := v1) ih h
theorem ok_X4_pairsOf {l : Launch} (htr : l.stackTraces = false) {v1 : Int32} {μ : Mm} {r : (Int32 × Mm)}  (h : X4_pairsOf v1 μ = some r) : MetX l yX4_pairsOf cX4_pairsOf 4 (some .int) 5 (fun ad => [.ref (ad 45), .int v1]) μ (.inr (some (.int r.1))) r.2 := by
  refine MetX.of htr (by decide) rfl (fun ad => Nat.le_of_ble_eq_true rfl) (fun p e s m args below meth c D cI cL ad C hex hw => ?_)
  show AV l p e s m args below meth c D cI cL ad 5 4 (.inr (some (.int r.1))) r.2 0 [(0, .ref (ad 45)), (1, .int v1)] [] μ
  unfold X4_pairsOf at h
  refine aw_aload_n (pc := 0) C dX4_pairsOf_0 rfl 0 rfl ?_
  obtain ⟨μ3, hq1, h⟩ := bi_some h
  refine aw_Vv (pc := 1) (a := 45) (Bs := []) C (ok_X4_lay C.tr hq1) kv_X4_lay q906 rfl rfl rfl rfl dX4_pairsOf_1 ⟨(show 5 ≤ 5 by decide), (show 145 ≤ 155 by decide)⟩ ⟨Nat.zero_le _, Nat.zero_le _⟩ [] (Nat.le_of_ble_eq_true rfl) rfl ?_
  refine aw_iconst (pc := 4) C (v := 0) dX4_pairsOf_4 rfl ?_
  refine aw_istore_n (pc := 5) C (x := 0) (lv' := [(2, .int 0), (0, .ref (ad 45)), (1, .int v1)]) dX4_pairsOf_5 rfl (by decide) rfl rfl ?_
  refine aw_iconst (pc := 6) C (v := 0) dX4_pairsOf_6 rfl ?_
  refine aw_istore_n (pc := 7) C (x := 0) (lv' := [(3, .int 0), (2, .int 0), (0, .ref (ad 45)), (1, .int v1)]) dX4_pairsOf_7 rfl (by decide) rfl rfl ?_
  refine aw_sub [2, 3, 1, 0] rfl ?_
  exact ok_X4_pairsOf_l8_w C hex big 0 0 μ3 h
/-! ### NameScopesModel.layOutcomes()V -/
theorem ok_X4_layOutcomes_l2 {l : Launch} {p : Program} {e : Env} {s : State} {m : MethodId} {args : Array Value} {below : List Frame} {meth : Method} {c : Code} {D : va_G} {cI cL : ClassId} {ad : Nat → Nat} (C : CX p l s m args meth c RX4 cX4_layOutcomes 2 none D cI cL (AA ad s.heap.size)) (hex : ∀ x ∈ c.exceptionTable.toList, False) {r : Mm} {k2 : Int32 → Mm → Option Mm} (hk2 : ∀ (v1 : Int32) (μ : Mm), k2 v1 μ = some r → AV l p e s m args below meth c D cI cL ad 8 2 (.inr none) r 2 [(0, .ref (ad 45)), (1, .int v1)] [] μ) {v1 : Int32} {μ : Mm}  (h : X4_layOutcomes_l2 k2 v1 μ = some r) : AV l p e s m args below meth c D cI cL ad 8 2 (.inr none) r 2 [(0, .ref (ad 45)), (1, .int v1)] [] μ := by
  unfold X4_layOutcomes_l2 at h
  refine aw_iload_n (pc := 2) C dX4_layOutcomes_2 rfl 1 rfl ?_
  refine aw_aload_n (pc := 3) C dX4_layOutcomes_3 rfl 0 rfl ?_
  refine aw_get (pc := 4) C (a := 45) (k := 1) (v := .ref (ad 46)) inX4 rfl rfl (by decide) q741 dX4_layOutcomes_4 rfl ?_
  refine aw_iconst (pc := 7) C (v := 3) dX4_layOutcomes_7 rfl ?_
  obtain ⟨g1, h⟩ := ck_some h
  refine aw_iaload (pc := 8) C (a := 46) rfl g1 dX4_layOutcomes_8 ?_
  refine aw_icmp_ge (pc := 9) C 29 dX4_layOutcomes_9 rfl (fun hc => ?_) (fun hc => ?_)
  · replace h := ite_T h hc
    cases h
    exact aw_vret (pc := 29) C dX4_layOutcomes_29
  · replace h := ite_F h hc
    refine aw_aload_n (pc := 12) C dX4_layOutcomes_12 rfl 0 rfl ?_
    refine aw_get (pc := 13) C (a := 45) (k := 11) (v := .ref (ad 53)) inX4 rfl rfl (by decide) q751 dX4_layOutcomes_13 rfl ?_
    refine aw_iload_n (pc := 16) C dX4_layOutcomes_16 rfl 1 rfl ?_
    refine aw_aload_n (pc := 17) C dX4_layOutcomes_17 rfl 0 rfl ?_
    refine aw_iload_n (pc := 18) C dX4_layOutcomes_18 rfl 1 rfl ?_
    obtain ⟨q3, μ4, hq2, h⟩ := bn_some h
    refine aw_Vi (pc := 19) (a := 45) (Bs := [.int v1]) C (ok_X4_outcomeOf C.tr hq2) kv_X4_outcomeOf q886 rfl rfl rfl rfl dX4_layOutcomes_19 ⟨(show 8 ≤ 8 by decide), (show 238 ≤ 248 by decide)⟩ ⟨Nat.zero_le _, Nat.zero_le _⟩ [.int v1, .ref (ad 53)] (Nat.le_of_ble_eq_true rfl) rfl ?_
    obtain ⟨g5, h⟩ := ck_some h
    obtain ⟨μ6, eμ6, h⟩ := bd_some h
    refine aw_iastore (pc := 22) C (a := 53) rfl g5 dX4_layOutcomes_22 eμ6 ?_
    refine aw_iinc (pc := 23) C (v := (v1 + 1)) (lv' := [(1, .int (v1 + 1)), (0, .ref (ad 45))]) dX4_layOutcomes_23 1 rfl (by decide) rfl rfl ?_
    refine aw_goto (pc := 26) C 2 dX4_layOutcomes_26 rfl ?_
    refine aw_sub [1, 0] rfl ?_
    exact hk2 (v1 + 1) μ6 h
theorem ok_X4_layOutcomes_l2_w {l : Launch} {p : Program} {e : Env} {s : State} {m : MethodId} {args : Array Value} {below : List Frame} {meth : Method} {c : Code} {D : va_G} {cI cL : ClassId} {ad : Nat → Nat} (C : CX p l s m args meth c RX4 cX4_layOutcomes 2 none D cI cL (AA ad s.heap.size)) (hex : ∀ x ∈ c.exceptionTable.toList, False) {r : Mm}  : ∀ (n : Nat) (v1 : Int32) (μ : Mm) , itr (X4_layOutcomes_l2) (fun _ _ => none) n v1 μ = some r → AV l p e s m args below meth c D cI cL ad 8 2 (.inr none) r 2 [(0, .ref (ad 45)), (1, .int v1)] [] μ := by
  intro n
  induction n with
  | zero => intro v1 μ h; exact nomatch (show (none : Option Mm) = some r from h)
  | succ n ih => intro v1 μ h; exact ok_X4_layOutcomes_l2 C hex  ih h
theorem ok_X4_layOutcomes {l : Launch} (htr : l.stackTraces = false) {μ : Mm} {r : Mm}  (h : X4_layOutcomes μ = some r) : MetX l yX4_layOutcomes cX4_layOutcomes 2 none 8 (fun ad => [.ref (ad 45)]) μ (.inr none) r := by
  refine MetX.of htr (by decide) rfl (fun ad => Nat.le_of_ble_eq_true rfl) (fun p e s m args below meth c D cI cL ad C hex hw => ?_)
  show AV l p e s m args below meth c D cI cL ad 8 2 (.inr none) r 0 [(0, .ref (ad 45))] [] μ
  unfold X4_layOutcomes at h
  refine aw_iconst (pc := 0) C (v := 0) dX4_layOutcomes_0 rfl ?_
  refine aw_istore_n (pc := 1) C (x := 0) (lv' := [(1, .int 0), (0, .ref (ad 45))]) dX4_layOutcomes_1 rfl (by decide) rfl rfl ?_
  refine aw_sub [1, 0] rfl ?_
  exact ok_X4_layOutcomes_l2_w C hex big 0 μ h
/-! ### NameScopesModel.cut(IIII)V -/
theorem ok_X4_cut_l18 {l : Launch} {p : Program} {e : Env} {s : State} {m : MethodId} {args : Array Value} {below : List Frame} {meth : Method} {c : Code} {D : va_G} {cI cL : ClassId} {ad : Nat → Nat} (C : CX p l s m args meth c RX4 cX4_cut 6 none D cI cL (AA ad s.heap.size)) (hex : ∀ x ∈ c.exceptionTable.toList, False) {r : Mm} {v1 : Int32} {v2 : Int32} {v3 : Int32} {v4 : Int32} {k18 : Int32 → Mm → Option Mm} (hk18 : ∀ (v5 : Int32) (μ : Mm), k18 v5 μ = some r → AV l p e s m args below meth c D cI cL ad 0 6 (.inr none) r 18 [(0, .ref (ad 45)), (1, .int v1), (2, .int v2), (4, .int v4), (5, .int v5)] [] μ) {v5 : Int32} {μ : Mm}  (h : X4_cut_l18 v1 v2 v3 v4 k18 v5 μ = some r) : AV l p e s m args below meth c D cI cL ad 0 6 (.inr none) r 18 [(0, .ref (ad 45)), (1, .int v1), (2, .int v2), (4, .int v4), (5, .int v5)] [] μ := by
  unfold X4_cut_l18 at h
  refine aw_iload (pc := 18) C dX4_cut_18 4 rfl ?_
  refine aw_iload_n (pc := 20) C dX4_cut_20 rfl 1 rfl ?_
  refine aw_iload_n (pc := 21) C dX4_cut_21 rfl 2 rfl ?_
  refine aw_aload_n (pc := 22) C dX4_cut_22 rfl 0 rfl ?_
  refine aw_get (pc := 23) C (a := 45) (k := 1) (v := .ref (ad 46)) inX4 rfl rfl (by decide) q741 dX4_cut_23 rfl ?_
  refine aw_iload (pc := 26) C dX4_cut_26 3 rfl ?_
  obtain ⟨g5, h⟩ := ck_some h
  refine aw_iaload (pc := 28) C (a := 46) rfl g5 dX4_cut_28 ?_
  refine aw_imul (pc := 29) C dX4_cut_29 ?_
  refine aw_iadd (pc := 30) C dX4_cut_30 ?_
  refine aw_icmp_ge (pc := 31) C 56 dX4_cut_31 rfl (fun hc => ?_) (fun hc => ?_)
  · replace h := ite_T h hc
    refine aw_aload_n (pc := 56) C dX4_cut_56 rfl 0 rfl ?_
    refine aw_iconst (pc := 57) C (v := 0) dX4_cut_57 rfl ?_
    obtain ⟨μ6, eμ6, h⟩ := bd_some h
    refine aw_putI (pc := 58) C (a := 45) (k := 4) (ty := .boolean) inX4 tyX4 tyX4_ok nmX4 rfl rfl (by decide) q744 rfl (by decide +kernel) (b01_nar b01_0) (b01_fit b01_0) (by show 4 < 26; decide) dX4_cut_58 fl_4_4 eμ6 ?_
    cases h
    exact aw_vret (pc := 61) C dX4_cut_61
  · replace h := ite_F h hc
    refine aw_aload_n (pc := 34) C dX4_cut_34 rfl 0 rfl ?_
    refine aw_get (pc := 35) C (a := 45) (k := 1) (v := .ref (ad 46)) inX4 rfl rfl (by decide) q741 dX4_cut_35 rfl ?_
    refine aw_iload (pc := 38) C dX4_cut_38 4 rfl ?_
    refine aw_aload_n (pc := 40) C dX4_cut_40 rfl 0 rfl ?_
    refine aw_get (pc := 41) C (a := 45) (k := 1) (v := .ref (ad 46)) inX4 rfl rfl (by decide) q741 dX4_cut_41 rfl ?_
    refine aw_iload (pc := 44) C dX4_cut_44 4 rfl ?_
    refine aw_iload_n (pc := 46) C dX4_cut_46 rfl 2 rfl ?_
    refine aw_iadd (pc := 47) C dX4_cut_47 ?_
    obtain ⟨g7, h⟩ := ck_some h
    refine aw_iaload (pc := 48) C (a := 46) rfl g7 dX4_cut_48 ?_
    obtain ⟨g8, h⟩ := ck_some h
    obtain ⟨μ9, eμ9, h⟩ := bd_some h
    refine aw_iastore (pc := 49) C (a := 46) rfl g8 dX4_cut_49 eμ9 ?_
    refine aw_iinc (pc := 50) C (v := (v5 + 1)) (lv' := [(5, .int (v5 + 1)), (0, .ref (ad 45)), (1, .int v1), (2, .int v2), (4, .int v4)]) dX4_cut_50 4 rfl (by decide) rfl rfl ?_
    refine aw_goto (pc := 53) C 18 dX4_cut_53 rfl ?_
    refine aw_sub [1, 2, 3, 4, 0] rfl ?_
    exact hk18 (v5 + 1) μ9 h
theorem ok_X4_cut_l18_w {l : Launch} {p : Program} {e : Env} {s : State} {m : MethodId} {args : Array Value} {below : List Frame} {meth : Method} {c : Code} {D : va_G} {cI cL : ClassId} {ad : Nat → Nat} (C : CX p l s m args meth c RX4 cX4_cut 6 none D cI cL (AA ad s.heap.size)) (hex : ∀ x ∈ c.exceptionTable.toList, False) {r : Mm} {v1 : Int32} {v2 : Int32} {v3 : Int32} {v4 : Int32} : ∀ (n : Nat) (v5 : Int32) (μ : Mm) , itr (X4_cut_l18 v1 v2 v3 v4) (fun _ _ => none) n v5 μ = some r → AV l p e s m args below meth c D cI cL ad 0 6 (.inr none) r 18 [(0, .ref (ad 45)), (1, .int v1), (2, .int v2), (4, .int v4), (5, .int v5)] [] μ := by
  intro n
  induction n with
  | zero => intro v5 μ h; exact nomatch (show (none : Option Mm) = some r from h)
  | succ n ih => intro v5 μ h; exact ok_X4_cut_l18 C hex (v1 := v1) (v2 := v2) (v3 := v3) (v4 := v4) ih h
theorem ok_X4_cut {l : Launch} (htr : l.stackTraces = false) {v1 : Int32} {v2 : Int32} {v3 : Int32} {v4 : Int32} {μ : Mm} {r : Mm}  (h : X4_cut v1 v2 v3 v4 μ = some r) : MetX l yX4_cut cX4_cut 6 none 0 (fun ad => [.ref (ad 45), .int v1, .int v2, .int v3, .int v4]) μ (.inr none) r := by
  refine MetX.of htr (by decide) rfl (fun ad => Nat.le_of_ble_eq_true rfl) (fun p e s m args below meth c D cI cL ad C hex hw => ?_)
  show AV l p e s m args below meth c D cI cL ad 0 6 (.inr none) r 0 [(0, .ref (ad 45)), (1, .int v1), (2, .int v2), (3, .int v3), (4, .int v4)] [] μ
  unfold X4_cut at h
  refine aw_aload_n (pc := 0) C dX4_cut_0 rfl 0 rfl ?_
  refine aw_get (pc := 1) C (a := 45) (k := 1) (v := .ref (ad 46)) inX4 rfl rfl (by decide) q741 dX4_cut_1 rfl ?_
  refine aw_iload (pc := 4) C dX4_cut_4 4 rfl ?_
  refine aw_dup2 (pc := 6) C dX4_cut_6 rfl rfl ?_
  obtain ⟨g1, h⟩ := ck_some h
  refine aw_iaload (pc := 7) C (a := 46) rfl g1 dX4_cut_7 ?_
  refine aw_iconst (pc := 8) C (v := 1) dX4_cut_8 rfl ?_
  refine aw_isub (pc := 9) C dX4_cut_9 ?_
  obtain ⟨g2, h⟩ := ck_some h
  obtain ⟨μ3, eμ3, h⟩ := bd_some h
  refine aw_iastore (pc := 10) C (a := 46) rfl g2 dX4_cut_10 eμ3 ?_
  refine aw_iload_n (pc := 11) C dX4_cut_11 rfl 1 rfl ?_
  refine aw_iload_n (pc := 12) C dX4_cut_12 rfl 2 rfl ?_
  refine aw_iload_n (pc := 13) C dX4_cut_13 rfl 3 rfl ?_
  refine aw_imul (pc := 14) C dX4_cut_14 ?_
  refine aw_iadd (pc := 15) C dX4_cut_15 ?_
  obtain ⟨x4, ex4, h⟩ := bd_some h
  refine aw_istore (pc := 16) C (x := x4) (lv' := [(5, .int x4), (0, .ref (ad 45)), (1, .int v1), (2, .int v2), (3, .int v3), (4, .int v4)]) dX4_cut_16 (by decide) ex4 rfl ?_
  refine aw_sub [1, 2, 3, 5, 0] rfl ?_
  exact ok_X4_cut_l18_w C hex big x4 μ3 h
/-! ### NameScopesModel.otherOutcomes()I -/
theorem ok_X4_otherOutcomes_l4 {l : Launch} {p : Program} {e : Env} {s : State} {m : MethodId} {args : Array Value} {below : List Frame} {meth : Method} {c : Code} {D : va_G} {cI cL : ClassId} {ad : Nat → Nat} (C : CX p l s m args meth c RX4 cX4_otherOutcomes 3 (some .int) D cI cL (AA ad s.heap.size)) (hex : ∀ x ∈ c.exceptionTable.toList, False) {r : (Int32 × Mm)} {k4 : Int32 → Int32 → Mm → Option (Int32 × Mm)} (hk4 : ∀ (v1 : Int32) (v2 : Int32) (μ : Mm), k4 v1 v2 μ = some r → AV l p e s m args below meth c D cI cL ad 8 3 (.inr (some (.int r.1))) r.2 4 [(0, .ref (ad 45)), (1, .int v1), (2, .int v2)] [] μ) {v1 : Int32} {v2 : Int32} {μ : Mm}  (h : X4_otherOutcomes_l4 k4 v1 v2 μ = some r) : AV l p e s m args below meth c D cI cL ad 8 3 (.inr (some (.int r.1))) r.2 4 [(0, .ref (ad 45)), (1, .int v1), (2, .int v2)] [] μ := by
  unfold X4_otherOutcomes_l4 at h
  refine aw_iload_n (pc := 4) C dX4_otherOutcomes_4 rfl 2 rfl ?_
  refine aw_aload_n (pc := 5) C dX4_otherOutcomes_5 rfl 0 rfl ?_
  refine aw_get (pc := 6) C (a := 45) (k := 1) (v := .ref (ad 46)) inX4 rfl rfl (by decide) q741 dX4_otherOutcomes_6 rfl ?_
  refine aw_iconst (pc := 9) C (v := 3) dX4_otherOutcomes_9 rfl ?_
  obtain ⟨g1, h⟩ := ck_some h
  refine aw_iaload (pc := 10) C (a := 46) rfl g1 dX4_otherOutcomes_10 ?_
  refine aw_icmp_ge (pc := 11) C 42 dX4_otherOutcomes_11 rfl (fun hc => ?_) (fun hc => ?_)
  · replace h := ite_T h hc
    refine aw_iload_n (pc := 42) C dX4_otherOutcomes_42 rfl 1 rfl ?_
    cases h
    exact aw_iret (pc := 43) C dX4_otherOutcomes_43
  · replace h := ite_F h hc
    refine aw_iload_n (pc := 14) C dX4_otherOutcomes_14 rfl 1 rfl ?_
    refine aw_aload_n (pc := 15) C dX4_otherOutcomes_15 rfl 0 rfl ?_
    refine aw_iload_n (pc := 16) C dX4_otherOutcomes_16 rfl 2 rfl ?_
    obtain ⟨q3, μ4, hq2, h⟩ := bn_some h
    refine aw_Vi (pc := 17) (a := 45) (Bs := [.int v2]) C (ok_X4_outcomeOf C.tr hq2) kv_X4_outcomeOf q886 rfl rfl rfl rfl dX4_otherOutcomes_17 ⟨(show 8 ≤ 8 by decide), (show 238 ≤ 248 by decide)⟩ ⟨Nat.zero_le _, Nat.zero_le _⟩ [.int v1] (Nat.le_of_ble_eq_true rfl) rfl ?_
    refine aw_aload_n (pc := 20) C dX4_otherOutcomes_20 rfl 0 rfl ?_
    refine aw_get (pc := 21) C (a := 45) (k := 11) (v := .ref (ad 53)) inX4 rfl rfl (by decide) q751 dX4_otherOutcomes_21 rfl ?_
    refine aw_iload_n (pc := 24) C dX4_otherOutcomes_24 rfl 2 rfl ?_
    obtain ⟨g5, h⟩ := ck_some h
    refine aw_iaload (pc := 25) C (a := 53) rfl g5 dX4_otherOutcomes_25 ?_
    have kJ : AV l p e s m args below meth c D cI cL ad 8 3 (.inr (some (.int r.1))) r.2 34 [(0, .ref (ad 45)), (1, .int v1), (2, .int v2)] [.int (if q3 = (μ4.1 53 (v2 : Int32).toNatClampNeg) then (0 : Int32) else 1), .int v1] μ4 := by
      refine aw_iadd (pc := 34) C dX4_otherOutcomes_34 ?_
      obtain ⟨x6, ex6, h⟩ := bd_some h
      refine aw_istore_n (pc := 35) C (x := x6) (lv' := [(1, .int x6), (0, .ref (ad 45)), (2, .int v2)]) dX4_otherOutcomes_35 rfl (by decide) ex6 rfl ?_
      refine aw_iinc (pc := 36) C (v := (v2 + 1)) (lv' := [(2, .int (v2 + 1)), (1, .int x6), (0, .ref (ad 45))]) dX4_otherOutcomes_36 2 rfl (by decide) rfl rfl ?_
      refine aw_goto (pc := 39) C 4 dX4_otherOutcomes_39 rfl ?_
      refine aw_sub [2, 1, 0] rfl ?_
      exact hk4 x6 (v2 + 1) μ4 h
    refine aw_icmp_ne (pc := 26) C 33 dX4_otherOutcomes_26 rfl (fun hd1 => ?_) (fun hd1 => ?_)
    · refine aw_iconst (pc := 33) C (v := 1) dX4_otherOutcomes_33 rfl ?_
      rw [if_neg hd1] at kJ
      exact kJ
    · refine aw_iconst (pc := 29) C (v := 0) dX4_otherOutcomes_29 rfl ?_
      refine aw_goto (pc := 30) C 34 dX4_otherOutcomes_30 rfl ?_
      rw [if_pos hd1] at kJ
      exact kJ
theorem ok_X4_otherOutcomes_l4_w {l : Launch} {p : Program} {e : Env} {s : State} {m : MethodId} {args : Array Value} {below : List Frame} {meth : Method} {c : Code} {D : va_G} {cI cL : ClassId} {ad : Nat → Nat} (C : CX p l s m args meth c RX4 cX4_otherOutcomes 3 (some .int) D cI cL (AA ad s.heap.size)) (hex : ∀ x ∈ c.exceptionTable.toList, False) {r : (Int32 × Mm)}  : ∀ (n : Nat) (v1 : Int32) (v2 : Int32) (μ : Mm) , itr (X4_otherOutcomes_l4) (fun _ _ _ => none) n v1 v2 μ = some r → AV l p e s m args below meth c D cI cL ad 8 3 (.inr (some (.int r.1))) r.2 4 [(0, .ref (ad 45)), (1, .int v1), (2, .int v2)] [] μ := by
  intro n
  induction n with
  | zero => intro v1 v2 μ h; exact nomatch (show (none : Option (Int32 × Mm)) = some r from h)
  | succ n ih => intro v1 v2 μ h; exact ok_X4_otherOutcomes_l4 C hex  ih h
theorem ok_X4_otherOutcomes {l : Launch} (htr : l.stackTraces = false) {μ : Mm} {r : (Int32 × Mm)}  (h : X4_otherOutcomes μ = some r) : MetX l yX4_otherOutcomes cX4_otherOutcomes 3 (some .int) 8 (fun ad => [.ref (ad 45)]) μ (.inr (some (.int r.1))) r.2 := by
  refine MetX.of htr (by decide) rfl (fun ad => Nat.le_of_ble_eq_true rfl) (fun p e s m args below meth c D cI cL ad C hex hw => ?_)
  show AV l p e s m args below meth c D cI cL ad 8 3 (.inr (some (.int r.1))) r.2 0 [(0, .ref (ad 45))] [] μ
  unfold X4_otherOutcomes at h
  refine aw_iconst (pc := 0) C (v := 0) dX4_otherOutcomes_0 rfl ?_
  refine aw_istore_n (pc := 1) C (x := 0) (lv' := [(1, .int 0), (0, .ref (ad 45))]) dX4_otherOutcomes_1 rfl (by decide) rfl rfl ?_
  refine aw_iconst (pc := 2) C (v := 0) dX4_otherOutcomes_2 rfl ?_
  refine aw_istore_n (pc := 3) C (x := 0) (lv' := [(2, .int 0), (1, .int 0), (0, .ref (ad 45))]) dX4_otherOutcomes_3 rfl (by decide) rfl rfl ?_
  refine aw_sub [2, 1, 0] rfl ?_
  exact ok_X4_otherOutcomes_l4_w C hex big 0 0 μ h
/-! ### NameScopesModel.without(I)I -/
theorem ok_X4_without {l : Launch} (htr : l.stackTraces = false) {v1 : Int32} {μ : Mm} {r : (Int32 × Mm)}  (h : X4_without v1 μ = some r) : MetX l yX4_without cX4_without 3 (some .int) 9 (fun ad => [.ref (ad 45), .int v1]) μ (.inr (some (.int r.1))) r.2 := by
  refine MetX.of htr (by decide) rfl (fun ad => Nat.le_of_ble_eq_true rfl) (fun p e s m args below meth c D cI cL ad C hex hw => ?_)
  show AV l p e s m args below meth c D cI cL ad 9 3 (.inr (some (.int r.1))) r.2 0 [(0, .ref (ad 45)), (1, .int v1)] [] μ
  unfold X4_without at h
  refine aw_aload_n (pc := 0) C dX4_without_0 rfl 0 rfl ?_
  obtain ⟨μ3, hq1, h⟩ := bi_some h
  refine aw_Vv (pc := 1) (a := 45) (Bs := []) C (ok_X4_layOutcomes C.tr hq1) kv_X4_layOutcomes q882 rfl rfl rfl rfl dX4_without_1 ⟨(show 9 ≤ 9 by decide), (show 269 ≤ 279 by decide)⟩ ⟨Nat.zero_le _, Nat.zero_le _⟩ [] (Nat.le_of_ble_eq_true rfl) rfl ?_
  refine aw_aload_n (pc := 4) C dX4_without_4 rfl 0 rfl ?_
  refine aw_aload_n (pc := 5) C dX4_without_5 rfl 0 rfl ?_
  refine aw_get (pc := 6) C (a := 45) (k := 1) (v := .ref (ad 46)) inX4 rfl rfl (by decide) q741 dX4_without_6 rfl ?_
  refine aw_aload_n (pc := 9) C dX4_without_9 rfl 0 rfl ?_
  refine aw_get (pc := 10) C (a := 45) (k := 2) (v := .ref (ad 47)) inX4 rfl rfl (by decide) q742 dX4_without_10 rfl ?_
  obtain ⟨μ6, hq4, h⟩ := bi_some h
  refine aw_Vv (pc := 13) (a := 45) (Bs := [.ref (ad 46), .ref (ad 47)]) C (ok_X4_copy C.tr (isArr_of rfl) (isArr_of rfl) hq4) kv_X4_copy q1004 rfl rfl rfl rfl dX4_without_13 ⟨(show 1 ≤ 9 by decide), (show 23 ≤ 279 by decide)⟩ ⟨Nat.zero_le _, Nat.zero_le _⟩ [] (Nat.le_of_ble_eq_true rfl) rfl ?_
  refine aw_aload_n (pc := 16) C dX4_without_16 rfl 0 rfl ?_
  refine aw_bipush (pc := 17) C (v := 110) dX4_without_17 rfl ?_
  refine aw_bipush (pc := 19) C (v := 6) dX4_without_19 rfl ?_
  refine aw_iload_n (pc := 21) C dX4_without_21 rfl 1 rfl ?_
  refine aw_iconst (pc := 22) C (v := 2) dX4_without_22 rfl ?_
  obtain ⟨μ9, hq7, h⟩ := bi_some h
  refine aw_Vv (pc := 23) (a := 45) (Bs := [.int 110, .int 6, .int v1, .int 2]) C (ok_X4_cut C.tr hq7) kv_X4_cut q937 rfl rfl rfl rfl dX4_without_23 ⟨(show 1 ≤ 9 by decide), (show 25 ≤ 279 by decide)⟩ ⟨Nat.zero_le _, Nat.zero_le _⟩ [] (Nat.le_of_ble_eq_true rfl) rfl ?_
  refine aw_aload_n (pc := 26) C dX4_without_26 rfl 0 rfl ?_
  obtain ⟨q11, μ12, hq10, h⟩ := bn_some h
  refine aw_Vi (pc := 27) (a := 45) (Bs := []) C (ok_X4_otherOutcomes C.tr hq10) kv_X4_otherOutcomes q941 rfl rfl rfl rfl dX4_without_27 ⟨(show 9 ≤ 9 by decide), (show 270 ≤ 279 by decide)⟩ ⟨Nat.zero_le _, Nat.zero_le _⟩ [] (Nat.le_of_ble_eq_true rfl) rfl ?_
  refine aw_istore_n (pc := 30) C (x := q11) (lv' := [(2, .int q11), (0, .ref (ad 45)), (1, .int v1)]) dX4_without_30 rfl (by decide) rfl rfl ?_
  refine aw_aload_n (pc := 31) C dX4_without_31 rfl 1 rfl ?_
  refine aw_aload_n (pc := 32) C dX4_without_32 rfl 1 rfl ?_
  refine aw_get (pc := 33) C (a := 45) (k := 2) (v := .ref (ad 47)) inX4 rfl rfl (by decide) q742 dX4_without_33 rfl ?_
  refine aw_aload_n (pc := 36) C dX4_without_36 rfl 1 rfl ?_
  refine aw_get (pc := 37) C (a := 45) (k := 1) (v := .ref (ad 46)) inX4 rfl rfl (by decide) q741 dX4_without_37 rfl ?_
  obtain ⟨μ15, hq13, h⟩ := bi_some h
  refine aw_Vv (pc := 40) (a := 45) (Bs := [.ref (ad 47), .ref (ad 46)]) C (ok_X4_copy C.tr (isArr_of rfl) (isArr_of rfl) hq13) kv_X4_copy q1004 rfl rfl rfl rfl dX4_without_40 ⟨(show 1 ≤ 9 by decide), (show 23 ≤ 279 by decide)⟩ ⟨Nat.zero_le _, Nat.zero_le _⟩ [] (Nat.le_of_ble_eq_true rfl) rfl ?_
  refine aw_iload_n (pc := 43) C dX4_without_43 rfl 0 rfl ?_
  cases h
  exact aw_iret (pc := 44) C dX4_without_44
/-! ### NameScopesModel.needless(Z)I -/
theorem ok_X4_needless_j50 {l : Launch} {p : Program} {e : Env} {s : State} {m : MethodId} {args : Array Value} {below : List Frame} {meth : Method} {c : Code} {D : va_G} {cI cL : ClassId} {ad : Nat → Nat} (C : CX p l s m args meth c RX4 cX4_needless 4 (some .int) D cI cL (AA ad s.heap.size)) (hex : ∀ x ∈ c.exceptionTable.toList, False) {r : (Int32 × Mm)} {v1 : Int32} {k4 : Int32 → Int32 → Mm → Option (Int32 × Mm)} (hk4 : ∀ (v2 : Int32) (v3 : Int32) (μ : Mm), k4 v2 v3 μ = some r → AV l p e s m args below meth c D cI cL ad 10 4 (.inr (some (.int r.1))) r.2 4 [(0, .ref (ad 45)), (1, .int v1), (2, .int v2), (3, .int v3)] [] μ) {v3 : Int32} {s0 : Int32} {μ : Mm}  (h : X4_needless_j50 v1 k4 v3 s0 μ = some r) : AV l p e s m args below meth c D cI cL ad 10 4 (.inr (some (.int r.1))) r.2 50 [(0, .ref (ad 45)), (1, .int v1), (3, .int v3)] [.int s0] μ := by
  unfold X4_needless_j50 at h
  refine aw_iconst (pc := 50) C (v := 0) dX4_needless_50 rfl ?_
  refine aw_iadd (pc := 51) C dX4_needless_51 ?_
  obtain ⟨x8, ex8, h⟩ := bd_some h
  refine aw_istore_n (pc := 52) C (x := x8) (lv' := [(2, .int x8), (0, .ref (ad 45)), (1, .int v1), (3, .int v3)]) dX4_needless_52 rfl (by decide) ex8 rfl ?_
  refine aw_iinc (pc := 53) C (v := (v3 + 1)) (lv' := [(3, .int (v3 + 1)), (2, .int x8), (0, .ref (ad 45)), (1, .int v1)]) dX4_needless_53 3 rfl (by decide) rfl rfl ?_
  refine aw_goto (pc := 56) C 4 dX4_needless_56 rfl ?_
  refine aw_sub [2, 3, 1, 0] rfl ?_
  exact hk4 x8 (v3 + 1) μ h
theorem ok_X4_needless_l4 {l : Launch} {p : Program} {e : Env} {s : State} {m : MethodId} {args : Array Value} {below : List Frame} {meth : Method} {c : Code} {D : va_G} {cI cL : ClassId} {ad : Nat → Nat} (C : CX p l s m args meth c RX4 cX4_needless 4 (some .int) D cI cL (AA ad s.heap.size)) (hex : ∀ x ∈ c.exceptionTable.toList, False) {r : (Int32 × Mm)} {v1 : Int32} {k4 : Int32 → Int32 → Mm → Option (Int32 × Mm)} (hk4 : ∀ (v2 : Int32) (v3 : Int32) (μ : Mm), k4 v2 v3 μ = some r → AV l p e s m args below meth c D cI cL ad 10 4 (.inr (some (.int r.1))) r.2 4 [(0, .ref (ad 45)), (1, .int v1), (2, .int v2), (3, .int v3)] [] μ) {v2 : Int32} {v3 : Int32} {μ : Mm}  (h : X4_needless_l4 v1 k4 v2 v3 μ = some r) : AV l p e s m args below meth c D cI cL ad 10 4 (.inr (some (.int r.1))) r.2 4 [(0, .ref (ad 45)), (1, .int v1), (2, .int v2), (3, .int v3)] [] μ := by
  unfold X4_needless_l4 at h
  refine aw_iload_n (pc := 4) C dX4_needless_4 rfl 3 rfl ?_
  refine aw_aload_n (pc := 5) C dX4_needless_5 rfl 0 rfl ?_
  refine aw_get (pc := 6) C (a := 45) (k := 1) (v := .ref (ad 46)) inX4 rfl rfl (by decide) q741 dX4_needless_6 rfl ?_
  refine aw_iconst (pc := 9) C (v := 2) dX4_needless_9 rfl ?_
  obtain ⟨g1, h⟩ := ck_some h
  refine aw_iaload (pc := 10) C (a := 46) rfl g1 dX4_needless_10 ?_
  refine aw_icmp_ge (pc := 11) C 59 dX4_needless_11 rfl (fun hc => ?_) (fun hc => ?_)
  · replace h := ite_T h hc
    refine aw_iload_n (pc := 59) C dX4_needless_59 rfl 2 rfl ?_
    cases h
    exact aw_iret (pc := 60) C dX4_needless_60
  · replace h := ite_F h hc
    refine aw_iload_n (pc := 14) C dX4_needless_14 rfl 2 rfl ?_
    refine aw_iload_n (pc := 15) C dX4_needless_15 rfl 1 rfl ?_
    refine aw_if_eq (pc := 16) C 38 dX4_needless_16 rfl (fun hc => ?_) (fun hc => ?_)
    · replace h := ite_T h hc
      refine aw_aload_n (pc := 38) C dX4_needless_38 rfl 0 rfl ?_
      refine aw_iload_n (pc := 39) C dX4_needless_39 rfl 3 rfl ?_
      obtain ⟨q3, μ4, hq2, h⟩ := bn_some h
      refine aw_Vi (pc := 40) (a := 45) (Bs := [.int v3]) C (ok_X4_without C.tr hq2) kv_X4_without q1097 rfl rfl rfl rfl dX4_needless_40 ⟨(show 10 ≤ 10 by decide), (show 301 ≤ 310 by decide)⟩ ⟨Nat.zero_le _, Nat.zero_le _⟩ [.int v2] (Nat.le_of_ble_eq_true rfl) rfl ?_
      have kJ : AV l p e s m args below meth c D cI cL ad 10 4 (.inr (some (.int r.1))) r.2 51 [(0, .ref (ad 45)), (1, .int v1), (2, .int v2), (3, .int v3)] [.int (if q3 = 0 then (1 : Int32) else 0), .int v2] μ4 := by
        refine aw_iadd (pc := 51) C dX4_needless_51 ?_
        obtain ⟨x5, ex5, h⟩ := bd_some h
        refine aw_istore_n (pc := 52) C (x := x5) (lv' := [(2, .int x5), (0, .ref (ad 45)), (1, .int v1), (3, .int v3)]) dX4_needless_52 rfl (by decide) ex5 rfl ?_
        refine aw_iinc (pc := 53) C (v := (v3 + 1)) (lv' := [(3, .int (v3 + 1)), (2, .int x5), (0, .ref (ad 45)), (1, .int v1)]) dX4_needless_53 3 rfl (by decide) rfl rfl ?_
        refine aw_goto (pc := 56) C 4 dX4_needless_56 rfl ?_
        refine aw_sub [2, 3, 1, 0] rfl ?_
        exact hk4 x5 (v3 + 1) μ4 h
      refine aw_if_ne (pc := 43) C 50 dX4_needless_43 rfl (fun hd1 => ?_) (fun hd1 => ?_)
      · refine aw_iconst (pc := 50) C (v := 0) dX4_needless_50 rfl ?_
        rw [if_neg hd1] at kJ
        exact kJ
      · refine aw_iconst (pc := 46) C (v := 1) dX4_needless_46 rfl ?_
        refine aw_goto (pc := 47) C 51 dX4_needless_47 rfl ?_
        rw [if_pos hd1] at kJ
        exact kJ
    · replace h := ite_F h hc
      refine aw_aload_n (pc := 19) C dX4_needless_19 rfl 0 rfl ?_
      refine aw_iload_n (pc := 20) C dX4_needless_20 rfl 3 rfl ?_
      obtain ⟨q7, hq6, h⟩ := bi_some h
      refine aw_Vi (pc := 21) (a := 45) (Bs := [.int v3]) C (ok_X4_isSingle C.tr hq6) kv_X4_isSingle q922 rfl rfl rfl rfl dX4_needless_21 ⟨(show 2 ≤ 10 by decide), (show 52 ≤ 310 by decide)⟩ ⟨Nat.zero_le _, Nat.zero_le _⟩ [.int v2] (Nat.le_of_ble_eq_true rfl) rfl ?_
      refine aw_if_eq (pc := 24) C 50 dX4_needless_24 rfl (fun hc => ?_) (fun hc => ?_)
      · replace h := ite_T h hc
        refine aw_sub [0, 1, 3] rfl ?_
        exact ok_X4_needless_j50 C hex hk4 h
      · replace h := ite_F h hc
        refine aw_aload_n (pc := 27) C dX4_needless_27 rfl 0 rfl ?_
        refine aw_iload_n (pc := 28) C dX4_needless_28 rfl 3 rfl ?_
        obtain ⟨q10, μ11, hq9, h⟩ := bn_some h
        refine aw_Vi (pc := 29) (a := 45) (Bs := [.int v3]) C (ok_X4_pairsOf C.tr hq9) kv_X4_pairsOf q1093 rfl rfl rfl rfl dX4_needless_29 ⟨(show 6 ≤ 10 by decide), (show 178 ≤ 310 by decide)⟩ ⟨Nat.zero_le _, Nat.zero_le _⟩ [.int v2] (Nat.le_of_ble_eq_true rfl) rfl ?_
        have kJ : AV l p e s m args below meth c D cI cL ad 10 4 (.inr (some (.int r.1))) r.2 51 [(0, .ref (ad 45)), (1, .int v1), (2, .int v2), (3, .int v3)] [.int (if q10 = 0 then (1 : Int32) else 0), .int v2] μ11 := by
          refine aw_iadd (pc := 51) C dX4_needless_51 ?_
          obtain ⟨x12, ex12, h⟩ := bd_some h
          refine aw_istore_n (pc := 52) C (x := x12) (lv' := [(2, .int x12), (0, .ref (ad 45)), (1, .int v1), (3, .int v3)]) dX4_needless_52 rfl (by decide) ex12 rfl ?_
          refine aw_iinc (pc := 53) C (v := (v3 + 1)) (lv' := [(3, .int (v3 + 1)), (2, .int x12), (0, .ref (ad 45)), (1, .int v1)]) dX4_needless_53 3 rfl (by decide) rfl rfl ?_
          refine aw_goto (pc := 56) C 4 dX4_needless_56 rfl ?_
          refine aw_sub [2, 3, 1, 0] rfl ?_
          exact hk4 x12 (v3 + 1) μ11 h
        refine aw_if_ne (pc := 32) C 50 dX4_needless_32 rfl (fun hd1 => ?_) (fun hd1 => ?_)
        · refine aw_iconst (pc := 50) C (v := 0) dX4_needless_50 rfl ?_
          rw [if_neg hd1] at kJ
          exact kJ
        · refine aw_goto (pc := 35) C 46 dX4_needless_35 rfl ?_
          refine aw_iconst (pc := 46) C (v := 1) dX4_needless_46 rfl ?_
          refine aw_goto (pc := 47) C 51 dX4_needless_47 rfl ?_
          rw [if_pos hd1] at kJ
          exact kJ
theorem ok_X4_needless_l4_w {l : Launch} {p : Program} {e : Env} {s : State} {m : MethodId} {args : Array Value} {below : List Frame} {meth : Method} {c : Code} {D : va_G} {cI cL : ClassId} {ad : Nat → Nat} (C : CX p l s m args meth c RX4 cX4_needless 4 (some .int) D cI cL (AA ad s.heap.size)) (hex : ∀ x ∈ c.exceptionTable.toList, False) {r : (Int32 × Mm)} {v1 : Int32} : ∀ (n : Nat) (v2 : Int32) (v3 : Int32) (μ : Mm) , itr (X4_needless_l4 v1) (fun _ _ _ => none) n v2 v3 μ = some r → AV l p e s m args below meth c D cI cL ad 10 4 (.inr (some (.int r.1))) r.2 4 [(0, .ref (ad 45)), (1, .int v1), (2, .int v2), (3, .int v3)] [] μ := by
  intro n
  induction n with
  | zero => intro v2 v3 μ h; exact nomatch (show (none : Option (Int32 × Mm)) = some r from h)
  | succ n ih => intro v2 v3 μ h; exact ok_X4_needless_l4 C hex (v1 := v1) ih h
theorem ok_X4_needless {l : Launch} (htr : l.stackTraces = false) {v1 : Int32} {μ : Mm} {r : (Int32 × Mm)}  (h : X4_needless v1 μ = some r) : MetX l yX4_needless cX4_needless 4 (some .int) 10 (fun ad => [.ref (ad 45), .int v1]) μ (.inr (some (.int r.1))) r.2 := by
  refine MetX.of htr (by decide) rfl (fun ad => Nat.le_of_ble_eq_true rfl) (fun p e s m args below meth c D cI cL ad C hex hw => ?_)
  show AV l p e s m args below meth c D cI cL ad 10 4 (.inr (some (.int r.1))) r.2 0 [(0, .ref (ad 45)), (1, .int v1)] [] μ
  unfold X4_needless at h
  refine aw_iconst (pc := 0) C (v := 0) dX4_needless_0 rfl ?_
  refine aw_istore_n (pc := 1) C (x := 0) (lv' := [(2, .int 0), (0, .ref (ad 45)), (1, .int v1)]) dX4_needless_1 rfl (by decide) rfl rfl ?_
  refine aw_iconst (pc := 2) C (v := 0) dX4_needless_2 rfl ?_
  refine aw_istore_n (pc := 3) C (x := 0) (lv' := [(3, .int 0), (2, .int 0), (0, .ref (ad 45)), (1, .int v1)]) dX4_needless_3 rfl (by decide) rfl rfl ?_
  refine aw_sub [2, 3, 1, 0] rfl ?_
  exact ok_X4_needless_l4_w C hex big 0 0 μ h
/-! ### NameScopesModel.depth(I)I -/
theorem ok_X4_depth_l4 {l : Launch} {p : Program} {e : Env} {s : State} {m : MethodId} {args : Array Value} {below : List Frame} {meth : Method} {c : Code} {D : va_G} {cI cL : ClassId} {ad : Nat → Nat} (C : CX p l s m args meth c RX4 cX4_depth 4 (some .int) D cI cL (AA ad s.heap.size)) (hex : ∀ x ∈ c.exceptionTable.toList, False) {r : Int32} {v1 : Int32} {μ : Mm} {k4 : Int32 → Int32 → Option Int32} (hk4 : ∀ (v2 : Int32) (v3 : Int32), k4 v2 v3 = some r → AV l p e s m args below meth c D cI cL ad 0 4 (.inr (some (.int r))) μ 4 [(0, .ref (ad 45)), (2, .int v2), (3, .int v3)] [] μ) {v2 : Int32} {v3 : Int32}  (h : X4_depth_l4 v1 μ k4 v2 v3 = some r) : AV l p e s m args below meth c D cI cL ad 0 4 (.inr (some (.int r))) μ 4 [(0, .ref (ad 45)), (2, .int v2), (3, .int v3)] [] μ := by
  unfold X4_depth_l4 at h
  refine aw_iload_n (pc := 4) C dX4_depth_4 rfl 2 rfl ?_
  refine aw_if_le (pc := 5) C 23 dX4_depth_5 rfl (fun hc => ?_) (fun hc => ?_)
  · replace h := ite_T h hc
    refine aw_iload_n (pc := 23) C dX4_depth_23 rfl 1 rfl ?_
    cases h
    exact aw_iret (pc := 24) C dX4_depth_24
  · replace h := ite_F h hc
    refine aw_iinc (pc := 8) C (v := (v2 + 1)) (lv' := [(2, .int (v2 + 1)), (0, .ref (ad 45)), (3, .int v3)]) dX4_depth_8 1 rfl (by decide) rfl rfl ?_
    refine aw_aload_n (pc := 11) C dX4_depth_11 rfl 1 rfl ?_
    refine aw_get (pc := 12) C (a := 45) (k := 1) (v := .ref (ad 46)) inX4 rfl rfl (by decide) q741 dX4_depth_12 rfl ?_
    refine aw_iconst (pc := 15) C (v := 4) dX4_depth_15 rfl ?_
    refine aw_iload_n (pc := 16) C dX4_depth_16 rfl 2 rfl ?_
    refine aw_iadd (pc := 17) C dX4_depth_17 ?_
    obtain ⟨g1, h⟩ := ck_some h
    refine aw_iaload (pc := 18) C (a := 46) rfl g1 dX4_depth_18 ?_
    obtain ⟨x2, ex2, h⟩ := bd_some h
    refine aw_istore_n (pc := 19) C (x := x2) (lv' := [(3, .int x2), (2, .int (v2 + 1)), (0, .ref (ad 45))]) dX4_depth_19 rfl (by decide) ex2 rfl ?_
    refine aw_goto (pc := 20) C 4 dX4_depth_20 rfl ?_
    refine aw_sub [2, 1, 0] rfl ?_
    exact hk4 (v2 + 1) x2 h
theorem ok_X4_depth_l4_w {l : Launch} {p : Program} {e : Env} {s : State} {m : MethodId} {args : Array Value} {below : List Frame} {meth : Method} {c : Code} {D : va_G} {cI cL : ClassId} {ad : Nat → Nat} (C : CX p l s m args meth c RX4 cX4_depth 4 (some .int) D cI cL (AA ad s.heap.size)) (hex : ∀ x ∈ c.exceptionTable.toList, False) {r : Int32} {v1 : Int32} {μ : Mm} : ∀ (n : Nat) (v2 : Int32) (v3 : Int32) , itr (X4_depth_l4 v1 μ) (fun _ _ => none) n v2 v3 = some r → AV l p e s m args below meth c D cI cL ad 0 4 (.inr (some (.int r))) μ 4 [(0, .ref (ad 45)), (2, .int v2), (3, .int v3)] [] μ := by
  intro n
  induction n with
  | zero => intro v2 v3 h; exact nomatch (show (none : Option Int32) = some r from h)
  | succ n ih => intro v2 v3 h; exact ok_X4_depth_l4 C hex (v1 := v1) (μ := μ) ih h
theorem ok_X4_depth {l : Launch} (htr : l.stackTraces = false) {v1 : Int32} {μ : Mm} {r : Int32}  (h : X4_depth v1 μ = some r) : MetX l yX4_depth cX4_depth 4 (some .int) 0 (fun ad => [.ref (ad 45), .int v1]) μ (.inr (some (.int r))) μ := by
  refine MetX.of htr (by decide) rfl (fun ad => Nat.le_of_ble_eq_true rfl) (fun p e s m args below meth c D cI cL ad C hex hw => ?_)
  show AV l p e s m args below meth c D cI cL ad 0 4 (.inr (some (.int r))) μ 0 [(0, .ref (ad 45)), (1, .int v1)] [] μ
  unfold X4_depth at h
  refine aw_iconst (pc := 0) C (v := 0) dX4_depth_0 rfl ?_
  refine aw_istore_n (pc := 1) C (x := 0) (lv' := [(2, .int 0), (0, .ref (ad 45)), (1, .int v1)]) dX4_depth_1 rfl (by decide) rfl rfl ?_
  refine aw_iload_n (pc := 2) C dX4_depth_2 rfl 2 rfl ?_
  refine aw_istore_n (pc := 3) C (x := v1) (lv' := [(3, .int v1), (2, .int 0), (0, .ref (ad 45)), (1, .int v1)]) dX4_depth_3 rfl (by decide) rfl rfl ?_
  refine aw_sub [2, 1, 0] rfl ?_
  exact ok_X4_depth_l4_w C hex big 0 v1 h
/-! ### NameScopesModel.deepest()I -/
theorem ok_X4_deepest_l4 {l : Launch} {p : Program} {e : Env} {s : State} {m : MethodId} {args : Array Value} {below : List Frame} {meth : Method} {c : Code} {D : va_G} {cI cL : ClassId} {ad : Nat → Nat} (C : CX p l s m args meth c RX4 cX4_deepest 3 (some .int) D cI cL (AA ad s.heap.size)) (hex : ∀ x ∈ c.exceptionTable.toList, False) {r : Int32} {μ : Mm} {k4 : Int32 → Int32 → Option Int32} (hk4 : ∀ (v1 : Int32) (v2 : Int32), k4 v1 v2 = some r → AV l p e s m args below meth c D cI cL ad 1 3 (.inr (some (.int r))) μ 4 [(0, .ref (ad 45)), (1, .int v1), (2, .int v2)] [] μ) {v1 : Int32} {v2 : Int32}  (h : X4_deepest_l4 μ k4 v1 v2 = some r) : AV l p e s m args below meth c D cI cL ad 1 3 (.inr (some (.int r))) μ 4 [(0, .ref (ad 45)), (1, .int v1), (2, .int v2)] [] μ := by
  unfold X4_deepest_l4 at h
  refine aw_iload_n (pc := 4) C dX4_deepest_4 rfl 2 rfl ?_
  refine aw_aload_n (pc := 5) C dX4_deepest_5 rfl 0 rfl ?_
  refine aw_get (pc := 6) C (a := 45) (k := 1) (v := .ref (ad 46)) inX4 rfl rfl (by decide) q741 dX4_deepest_6 rfl ?_
  refine aw_iconst (pc := 9) C (v := 0) dX4_deepest_9 rfl ?_
  obtain ⟨g1, h⟩ := ck_some h
  refine aw_iaload (pc := 10) C (a := 46) rfl g1 dX4_deepest_10 ?_
  refine aw_icmp_ge (pc := 11) C 39 dX4_deepest_11 rfl (fun hc => ?_) (fun hc => ?_)
  · replace h := ite_T h hc
    refine aw_iload_n (pc := 39) C dX4_deepest_39 rfl 1 rfl ?_
    cases h
    exact aw_iret (pc := 40) C dX4_deepest_40
  · replace h := ite_F h hc
    refine aw_aload_n (pc := 14) C dX4_deepest_14 rfl 0 rfl ?_
    refine aw_iload_n (pc := 15) C dX4_deepest_15 rfl 2 rfl ?_
    obtain ⟨q3, hq2, h⟩ := bi_some h
    refine aw_Vi (pc := 16) (a := 45) (Bs := [.int v2]) C (ok_X4_depth C.tr hq2) kv_X4_depth q1105 rfl rfl rfl rfl dX4_deepest_16 ⟨(show 1 ≤ 1 by decide), (show 23 ≤ 31 by decide)⟩ ⟨Nat.zero_le _, Nat.zero_le _⟩ [] (Nat.le_of_ble_eq_true rfl) rfl ?_
    refine aw_iload_n (pc := 19) C dX4_deepest_19 rfl 1 rfl ?_
    refine aw_icmp_le (pc := 20) C 31 dX4_deepest_20 rfl (fun hc => ?_) (fun hc => ?_)
    · replace h := ite_T h hc
      refine aw_iload_n (pc := 31) C dX4_deepest_31 rfl 1 rfl ?_
      refine aw_istore_n (pc := 32) C (x := v1) (lv' := [(1, .int v1), (0, .ref (ad 45)), (2, .int v2)]) dX4_deepest_32 rfl (by decide) rfl rfl ?_
      refine aw_iinc (pc := 33) C (v := (v2 + 1)) (lv' := [(2, .int (v2 + 1)), (1, .int v1), (0, .ref (ad 45))]) dX4_deepest_33 2 rfl (by decide) rfl rfl ?_
      refine aw_goto (pc := 36) C 4 dX4_deepest_36 rfl ?_
      refine aw_sub [2, 1, 0] rfl ?_
      exact hk4 v1 (v2 + 1) h
    · replace h := ite_F h hc
      refine aw_aload_n (pc := 23) C dX4_deepest_23 rfl 0 rfl ?_
      refine aw_iload_n (pc := 24) C dX4_deepest_24 rfl 2 rfl ?_
      obtain ⟨q5, hq4, h⟩ := bi_some h
      refine aw_Vi (pc := 25) (a := 45) (Bs := [.int v2]) C (ok_X4_depth C.tr hq4) kv_X4_depth q1105 rfl rfl rfl rfl dX4_deepest_25 ⟨(show 1 ≤ 1 by decide), (show 23 ≤ 31 by decide)⟩ ⟨Nat.zero_le _, Nat.zero_le _⟩ [] (Nat.le_of_ble_eq_true rfl) rfl ?_
      refine aw_goto (pc := 28) C 32 dX4_deepest_28 rfl ?_
      refine aw_istore_n (pc := 32) C (x := q5) (lv' := [(1, .int q5), (0, .ref (ad 45)), (2, .int v2)]) dX4_deepest_32 rfl (by decide) rfl rfl ?_
      refine aw_iinc (pc := 33) C (v := (v2 + 1)) (lv' := [(2, .int (v2 + 1)), (1, .int q5), (0, .ref (ad 45))]) dX4_deepest_33 2 rfl (by decide) rfl rfl ?_
      refine aw_goto (pc := 36) C 4 dX4_deepest_36 rfl ?_
      refine aw_sub [2, 1, 0] rfl ?_
      exact hk4 q5 (v2 + 1) h
theorem ok_X4_deepest_l4_w {l : Launch} {p : Program} {e : Env} {s : State} {m : MethodId} {args : Array Value} {below : List Frame} {meth : Method} {c : Code} {D : va_G} {cI cL : ClassId} {ad : Nat → Nat} (C : CX p l s m args meth c RX4 cX4_deepest 3 (some .int) D cI cL (AA ad s.heap.size)) (hex : ∀ x ∈ c.exceptionTable.toList, False) {r : Int32} {μ : Mm} : ∀ (n : Nat) (v1 : Int32) (v2 : Int32) , itr (X4_deepest_l4 μ) (fun _ _ => none) n v1 v2 = some r → AV l p e s m args below meth c D cI cL ad 1 3 (.inr (some (.int r))) μ 4 [(0, .ref (ad 45)), (1, .int v1), (2, .int v2)] [] μ := by
  intro n
  induction n with
  | zero => intro v1 v2 h; exact nomatch (show (none : Option Int32) = some r from h)
  | succ n ih => intro v1 v2 h; exact ok_X4_deepest_l4 C hex (μ := μ) ih h
theorem ok_X4_deepest {l : Launch} (htr : l.stackTraces = false) {μ : Mm} {r : Int32}  (h : X4_deepest μ = some r) : MetX l yX4_deepest cX4_deepest 3 (some .int) 1 (fun ad => [.ref (ad 45)]) μ (.inr (some (.int r))) μ := by
  refine MetX.of htr (by decide) rfl (fun ad => Nat.le_of_ble_eq_true rfl) (fun p e s m args below meth c D cI cL ad C hex hw => ?_)
  show AV l p e s m args below meth c D cI cL ad 1 3 (.inr (some (.int r))) μ 0 [(0, .ref (ad 45))] [] μ
  unfold X4_deepest at h
  refine aw_iconst (pc := 0) C (v := 0) dX4_deepest_0 rfl ?_
  refine aw_istore_n (pc := 1) C (x := 0) (lv' := [(1, .int 0), (0, .ref (ad 45))]) dX4_deepest_1 rfl (by decide) rfl rfl ?_
  refine aw_iconst (pc := 2) C (v := 0) dX4_deepest_2 rfl ?_
  refine aw_istore_n (pc := 3) C (x := 0) (lv' := [(2, .int 0), (1, .int 0), (0, .ref (ad 45))]) dX4_deepest_3 rfl (by decide) rfl rfl ?_
  refine aw_sub [2, 1, 0] rfl ?_
  exact ok_X4_deepest_l4_w C hex big 0 0 h
/-! ### NameScopesModel.counted(I)I -/
theorem ok_X4_counted {l : Launch} (htr : l.stackTraces = false) {v1 : Int32} {μ : Mm} {r : (Int32 × Mm)}  (h : X4_counted v1 μ = some r) : MetX l yX4_counted cX4_counted 2 (some .int) 11 (fun ad => [.ref (ad 45), .int v1]) μ (.inr (some (.int r.1))) r.2 := by
  refine MetX.of htr (by decide) rfl (fun ad => Nat.le_of_ble_eq_true rfl) (fun p e s m args below meth c D cI cL ad C hex hw => ?_)
  show AV l p e s m args below meth c D cI cL ad 11 2 (.inr (some (.int r.1))) r.2 0 [(0, .ref (ad 45)), (1, .int v1)] [] μ
  unfold X4_counted at h
  refine aw_iload_n (pc := 0) C dX4_counted_0 rfl 1 rfl ?_
  by_cases hs1 : v1 = 4
  · replace h := ite_T h hs1
    refine aw_tableIn (pc := 1) C 44 dX4_counted_1 (by rw [hs1]; decide) (by rw [hs1]; decide) (by rw [hs1]; rfl) rfl ?_
    refine aw_aload_n (pc := 44) C dX4_counted_44 rfl 0 rfl ?_
    refine aw_iconst (pc := 45) C (v := 1) dX4_counted_45 rfl ?_
    refine aw_iconst (pc := 46) C (v := 1) dX4_counted_46 rfl ?_
    obtain ⟨q3, μ4, hq2, h⟩ := bn_some h
    refine aw_Vi (pc := 47) (a := 45) (Bs := [.int 1, .int 1]) C (ok_X4_usesWith C.tr hq2) kv_X4_usesWith q1077 rfl rfl rfl rfl dX4_counted_47 ⟨(show 9 ≤ 11 by decide), (show 272 ≤ 341 by decide)⟩ ⟨Nat.zero_le _, Nat.zero_le _⟩ [] (Nat.le_of_ble_eq_true rfl) rfl ?_
    cases h
    exact aw_iret (pc := 50) C dX4_counted_50
  replace h := ite_F h hs1
  by_cases hs5 : v1 = 5
  · replace h := ite_T h hs5
    refine aw_tableIn (pc := 1) C 51 dX4_counted_1 (by rw [hs5]; decide) (by rw [hs5]; decide) (by rw [hs5]; rfl) rfl ?_
    refine aw_aload_n (pc := 51) C dX4_counted_51 rfl 0 rfl ?_
    refine aw_iconst (pc := 52) C (v := 2) dX4_counted_52 rfl ?_
    refine aw_bipush (pc := 53) C (v := 30) dX4_counted_53 rfl ?_
    obtain ⟨q7, μ8, hq6, h⟩ := bn_some h
    refine aw_Vi (pc := 55) (a := 45) (Bs := [.int 2, .int 30]) C (ok_X4_usesWith C.tr hq6) kv_X4_usesWith q1077 rfl rfl rfl rfl dX4_counted_55 ⟨(show 9 ≤ 11 by decide), (show 272 ≤ 341 by decide)⟩ ⟨Nat.zero_le _, Nat.zero_le _⟩ [] (Nat.le_of_ble_eq_true rfl) rfl ?_
    cases h
    exact aw_iret (pc := 58) C dX4_counted_58
  replace h := ite_F h hs5
  by_cases hs9 : v1 = 6
  · replace h := ite_T h hs9
    refine aw_tableIn (pc := 1) C 59 dX4_counted_1 (by rw [hs9]; decide) (by rw [hs9]; decide) (by rw [hs9]; rfl) rfl ?_
    refine aw_aload_n (pc := 59) C dX4_counted_59 rfl 0 rfl ?_
    obtain ⟨q11, μ12, hq10, h⟩ := bn_some h
    refine aw_Vi (pc := 60) (a := 45) (Bs := []) C (ok_X4_unused C.tr hq10) kv_X4_unused q1081 rfl rfl rfl rfl dX4_counted_60 ⟨(show 10 ≤ 11 by decide), (show 301 ≤ 341 by decide)⟩ ⟨Nat.zero_le _, Nat.zero_le _⟩ [] (Nat.le_of_ble_eq_true rfl) rfl ?_
    cases h
    exact aw_iret (pc := 63) C dX4_counted_63
  replace h := ite_F h hs9
  by_cases hs13 : v1 = 7
  · replace h := ite_T h hs13
    refine aw_tableIn (pc := 1) C 64 dX4_counted_1 (by rw [hs13]; decide) (by rw [hs13]; decide) (by rw [hs13]; rfl) rfl ?_
    refine aw_aload_n (pc := 64) C dX4_counted_64 rfl 0 rfl ?_
    refine aw_iconst (pc := 65) C (v := 0) dX4_counted_65 rfl ?_
    obtain ⟨q15, μ16, hq14, h⟩ := bn_some h
    refine aw_Vi (pc := 66) (a := 45) (Bs := [.int 0]) C (ok_X4_needless C.tr hq14) kv_X4_needless q1089 rfl rfl rfl rfl dX4_counted_66 ⟨(show 11 ≤ 11 by decide), (show 333 ≤ 341 by decide)⟩ ⟨Nat.zero_le _, Nat.zero_le _⟩ [] (Nat.le_of_ble_eq_true rfl) rfl ?_
    cases h
    exact aw_iret (pc := 69) C dX4_counted_69
  replace h := ite_F h hs13
  by_cases hs17 : v1 = 8
  · replace h := ite_T h hs17
    refine aw_tableIn (pc := 1) C 70 dX4_counted_1 (by rw [hs17]; decide) (by rw [hs17]; decide) (by rw [hs17]; rfl) rfl ?_
    refine aw_aload_n (pc := 70) C dX4_counted_70 rfl 0 rfl ?_
    refine aw_iconst (pc := 71) C (v := 1) dX4_counted_71 rfl ?_
    obtain ⟨q19, μ20, hq18, h⟩ := bn_some h
    refine aw_Vi (pc := 72) (a := 45) (Bs := [.int 1]) C (ok_X4_needless C.tr hq18) kv_X4_needless q1089 rfl rfl rfl rfl dX4_counted_72 ⟨(show 11 ≤ 11 by decide), (show 333 ≤ 341 by decide)⟩ ⟨Nat.zero_le _, Nat.zero_le _⟩ [] (Nat.le_of_ble_eq_true rfl) rfl ?_
    cases h
    exact aw_iret (pc := 75) C dX4_counted_75
  replace h := ite_F h hs17
  by_cases hs21 : v1 = 9
  · replace h := ite_T h hs21
    refine aw_tableIn (pc := 1) C 76 dX4_counted_1 (by rw [hs21]; decide) (by rw [hs21]; decide) (by rw [hs21]; rfl) rfl ?_
    refine aw_aload_n (pc := 76) C dX4_counted_76 rfl 0 rfl ?_
    obtain ⟨q23, hq22, h⟩ := bi_some h
    refine aw_Vi (pc := 77) (a := 45) (Bs := []) C (ok_X4_deepest C.tr hq22) kv_X4_deepest q1101 rfl rfl rfl rfl dX4_counted_77 ⟨(show 2 ≤ 11 by decide), (show 53 ≤ 341 by decide)⟩ ⟨Nat.zero_le _, Nat.zero_le _⟩ [] (Nat.le_of_ble_eq_true rfl) rfl ?_
    cases h
    exact aw_iret (pc := 80) C dX4_counted_80
  replace h := ite_F h hs21
  by_cases hs24 : v1 = 10
  · replace h := ite_T h hs24
    refine aw_tableIn (pc := 1) C 81 dX4_counted_1 (by rw [hs24]; decide) (by rw [hs24]; decide) (by rw [hs24]; rfl) rfl ?_
    refine aw_aload_n (pc := 81) C dX4_counted_81 rfl 0 rfl ?_
    obtain ⟨q26, μ27, hq25, h⟩ := bn_some h
    refine aw_Vi (pc := 82) (a := 45) (Bs := []) C (ok_X4_allPairs C.tr hq25) kv_X4_allPairs q1109 rfl rfl rfl rfl dX4_counted_82 ⟨(show 6 ≤ 11 by decide), (show 177 ≤ 341 by decide)⟩ ⟨Nat.zero_le _, Nat.zero_le _⟩ [] (Nat.le_of_ble_eq_true rfl) rfl ?_
    cases h
    exact aw_iret (pc := 85) C dX4_counted_85
  replace h := ite_F h hs24
  refine aw_tableOut (pc := 1) C 86 dX4_counted_1 (by have hs1z := sw_ne hs1 (show Int32.toInt 4 = 4 by decide); have hs5z := sw_ne hs5 (show Int32.toInt 5 = 5 by decide); have hs9z := sw_ne hs9 (show Int32.toInt 6 = 6 by decide); have hs13z := sw_ne hs13 (show Int32.toInt 7 = 7 by decide); have hs17z := sw_ne hs17 (show Int32.toInt 8 = 8 by decide); have hs21z := sw_ne hs21 (show Int32.toInt 9 = 9 by decide); have hs24z := sw_ne hs24 (show Int32.toInt 10 = 10 by decide); omega) rfl ?_
  refine aw_aload_n (pc := 86) C dX4_counted_86 rfl 0 rfl ?_
  refine aw_get (pc := 87) C (a := 45) (k := 1) (v := .ref (ad 46)) inX4 rfl rfl (by decide) q741 dX4_counted_87 rfl ?_
  refine aw_iload_n (pc := 90) C dX4_counted_90 rfl 1 rfl ?_
  obtain ⟨g28, h⟩ := ck_some h
  refine aw_iaload (pc := 91) C (a := 46) rfl g28 dX4_counted_91 ?_
  cases h
  exact aw_iret (pc := 92) C dX4_counted_92
/-! ### NameScopesModel.count(I)I -/
theorem ok_X4_count {l : Launch} (htr : l.stackTraces = false) {v1 : Int32} {μ : Mm} {r : (Int32 × Mm)}  (h : X4_count v1 μ = some r) : MetX l yX4_count cX4_count 2 (some .int) 12 (fun ad => [.ref (ad 45), .int v1]) μ (.inr (some (.int r.1))) r.2 := by
  refine MetX.of htr (by decide) rfl (fun ad => Nat.le_of_ble_eq_true rfl) (fun p e s m args below meth c D cI cL ad C hex hw => ?_)
  show AV l p e s m args below meth c D cI cL ad 12 2 (.inr (some (.int r.1))) r.2 0 [(0, .ref (ad 45)), (1, .int v1)] [] μ
  unfold X4_count at h
  refine aw_aload_n (pc := 0) C dX4_count_0 rfl 0 rfl ?_
  refine aw_iload_n (pc := 1) C dX4_count_1 rfl 1 rfl ?_
  refine aw_iconst (pc := 2) C (v := 0) dX4_count_2 rfl ?_
  refine aw_bipush (pc := 3) C (v := 10) dX4_count_3 rfl ?_
  obtain ⟨q2, hq1, h⟩ := bi_some h
  refine aw_Si (pc := 5) (Bs := [.int v1, .int 0, .int 10]) C (ok_X4_within C.tr hq1) kv_X4_within q835 rfl rfl dX4_count_5 ⟨(show 1 ≤ 12 by decide), (show 22 ≤ 372 by decide)⟩ ⟨Nat.zero_le _, Nat.zero_le _⟩ [.ref (ad 45)] (Nat.le_of_ble_eq_true rfl) rfl ?_
  have kJ : AV l p e s m args below meth c D cI cL ad 12 2 (.inr (some (.int r.1))) r.2 16 [(0, .ref (ad 45)), (1, .int v1)] [.int (if q2 = 0 then (1 : Int32) else 0), .ref (ad 45)] μ := by
    obtain ⟨μ3, eμ3, h⟩ := bd_some h
    refine aw_putI (pc := 16) C (a := 45) (k := 0) (ty := .int) inX4 tyX4 tyX4_ok nmX4 rfl rfl (by decide) q740 rfl (by decide +kernel) rfl rfl (by show 0 < 26; decide) dX4_count_16 fl_4_0 eμ3 ?_
    refine aw_aload_n (pc := 19) C dX4_count_19 rfl 0 rfl ?_
    refine aw_get (pc := 20) C (a := 45) (k := 0) (v := .int (μ3.1 45 0)) inX4 rfl rfl (by decide) q740 dX4_count_20 rfl ?_
    refine aw_if_le (pc := 23) C 30 dX4_count_23 rfl (fun hc => ?_) (fun hc => ?_)
    · replace h := ite_T h hc
      refine aw_aload_n (pc := 30) C dX4_count_30 rfl 0 rfl ?_
      refine aw_iload_n (pc := 31) C dX4_count_31 rfl 1 rfl ?_
      obtain ⟨q5, μ6, hq4, h⟩ := bn_some h
      refine aw_Vi (pc := 32) (a := 45) (Bs := [.int v1]) C (ok_X4_counted C.tr hq4) kv_X4_counted q1073 rfl rfl rfl rfl dX4_count_32 ⟨(show 12 ≤ 12 by decide), (show 362 ≤ 372 by decide)⟩ ⟨Nat.zero_le _, Nat.zero_le _⟩ [] (Nat.le_of_ble_eq_true rfl) rfl ?_
      cases h
      exact aw_iret (pc := 35) C dX4_count_35
    · replace h := ite_F h hc
      refine aw_iconst (pc := 26) C (v := 0) dX4_count_26 rfl ?_
      refine aw_goto (pc := 27) C 35 dX4_count_27 rfl ?_
      cases h
      exact aw_iret (pc := 35) C dX4_count_35
  refine aw_if_eq (pc := 8) C 15 dX4_count_8 rfl (fun hd1 => ?_) (fun hd1 => ?_)
  · refine aw_iconst (pc := 15) C (v := 1) dX4_count_15 rfl ?_
    rw [if_pos hd1] at kJ
    exact kJ
  · refine aw_iconst (pc := 11) C (v := 0) dX4_count_11 rfl ?_
    refine aw_goto (pc := 12) C 16 dX4_count_12 rfl ?_
    rw [if_neg hd1] at kJ
    exact kJ
/-! ### NameScopesModel.isDeclaration(I)Z -/
theorem ok_X4_isDeclaration {l : Launch} (htr : l.stackTraces = false) {v1 : Int32} {μ : Mm} {r : Int32}  (h : X4_isDeclaration v1 μ = some r) : MetX l yX4_isDeclaration cX4_isDeclaration 2 (some .boolean) 1 (fun ad => [.ref (ad 45), .int v1]) μ (.inr (some (.int r))) μ := by
  refine MetX.of htr (by decide) rfl (fun ad => Nat.le_of_ble_eq_true rfl) (fun p e s m args below meth c D cI cL ad C hex hw => ?_)
  show AV l p e s m args below meth c D cI cL ad 1 2 (.inr (some (.int r))) μ 0 [(0, .ref (ad 45)), (1, .int v1)] [] μ
  unfold X4_isDeclaration at h
  refine aw_iload_n (pc := 0) C dX4_isDeclaration_0 rfl 1 rfl ?_
  refine aw_iconst (pc := 1) C (v := 0) dX4_isDeclaration_1 rfl ?_
  refine aw_aload_n (pc := 2) C dX4_isDeclaration_2 rfl 0 rfl ?_
  refine aw_get (pc := 3) C (a := 45) (k := 1) (v := .ref (ad 46)) inX4 rfl rfl (by decide) q741 dX4_isDeclaration_3 rfl ?_
  refine aw_iconst (pc := 6) C (v := 1) dX4_isDeclaration_6 rfl ?_
  obtain ⟨g1, h⟩ := ck_some h
  refine aw_iaload (pc := 7) C (a := 46) rfl g1 dX4_isDeclaration_7 ?_
  refine aw_iconst (pc := 8) C (v := 1) dX4_isDeclaration_8 rfl ?_
  refine aw_isub (pc := 9) C dX4_isDeclaration_9 ?_
  obtain ⟨q3, hq2, h⟩ := bi_some h
  refine aw_Si (pc := 10) (Bs := [.int v1, .int 0, .int ((μ.1 46 (1 : Int32).toNatClampNeg) - 1)]) C (ok_X4_within C.tr hq2) kv_X4_within q835 rfl rfl dX4_isDeclaration_10 ⟨(show 1 ≤ 1 by decide), (show 22 ≤ 31 by decide)⟩ ⟨Nat.zero_le _, Nat.zero_le _⟩ [] (Nat.le_of_ble_eq_true rfl) rfl ?_
  obtain ⟨g4, h⟩ := rz_some h
  cases h
  exact aw_zret (pc := 13) C (b01_nar g4) dX4_isDeclaration_13
/-! ### NameScopesModel.offering(I)I -/
theorem ok_X4_offering_l24 {l : Launch} {p : Program} {e : Env} {s : State} {m : MethodId} {args : Array Value} {below : List Frame} {meth : Method} {c : Code} {D : va_G} {cI cL : ClassId} {ad : Nat → Nat} (C : CX p l s m args meth c RX4 cX4_offering 6 (some .int) D cI cL (AA ad s.heap.size)) (hex : ∀ x ∈ c.exceptionTable.toList, False) {r : (Int32 × Mm)} {v1 : Int32} {k8 : Int32 → Int32 → Mm → Option (Int32 × Mm)} {k24 : Int32 → Int32 → Int32 → Int32 → Mm → Option (Int32 × Mm)} (hk8 : ∀ (v2 : Int32) (v3 : Int32) (μ : Mm), k8 v2 v3 μ = some r → AV l p e s m args below meth c D cI cL ad 5 6 (.inr (some (.int r.1))) r.2 8 [(0, .ref (ad 45)), (1, .int v1), (2, .int v2), (3, .int v3)] [] μ) (hk24 : ∀ (v2 : Int32) (v3 : Int32) (v4 : Int32) (v5 : Int32) (μ : Mm), k24 v2 v3 v4 v5 μ = some r → AV l p e s m args below meth c D cI cL ad 5 6 (.inr (some (.int r.1))) r.2 24 [(0, .ref (ad 45)), (1, .int v1), (2, .int v2), (3, .int v3), (4, .int v4), (5, .int v5)] [] μ) {v2 : Int32} {v3 : Int32} {v4 : Int32} {v5 : Int32} {μ : Mm}  (h : X4_offering_l24 v1 k8 k24 v2 v3 v4 v5 μ = some r) : AV l p e s m args below meth c D cI cL ad 5 6 (.inr (some (.int r.1))) r.2 24 [(0, .ref (ad 45)), (1, .int v1), (2, .int v2), (3, .int v3), (4, .int v4), (5, .int v5)] [] μ := by
  unfold X4_offering_l24 at h
  refine aw_iload (pc := 24) C dX4_offering_24 5 rfl ?_
  refine aw_bipush (pc := 26) C (v := 26) dX4_offering_26 rfl ?_
  refine aw_icmp_ge (pc := 28) C 49 dX4_offering_28 rfl (fun hc => ?_) (fun hc => ?_)
  · replace h := ite_T h hc
    refine aw_iload_n (pc := 49) C dX4_offering_49 rfl 2 rfl ?_
    refine aw_iload (pc := 50) C dX4_offering_50 4 rfl ?_
    refine aw_iload_n (pc := 52) C dX4_offering_52 rfl 1 rfl ?_
    refine aw_ishr (pc := 53) C dX4_offering_53 ?_
    refine aw_iconst (pc := 54) C (v := 1) dX4_offering_54 rfl ?_
    refine aw_iand (pc := 55) C dX4_offering_55 ?_
    refine aw_iadd (pc := 56) C dX4_offering_56 ?_
    obtain ⟨x5, ex5, h⟩ := bd_some h
    refine aw_istore_n (pc := 57) C (x := x5) (lv' := [(2, .int x5), (0, .ref (ad 45)), (1, .int v1), (3, .int v3), (4, .int v4), (5, .int v5)]) dX4_offering_57 rfl (by decide) ex5 rfl ?_
    refine aw_iinc (pc := 58) C (v := (v3 + 1)) (lv' := [(3, .int (v3 + 1)), (2, .int x5), (0, .ref (ad 45)), (1, .int v1), (4, .int v4), (5, .int v5)]) dX4_offering_58 3 rfl (by decide) rfl rfl ?_
    refine aw_goto (pc := 61) C 8 dX4_offering_61 rfl ?_
    refine aw_sub [2, 3, 1, 0] rfl ?_
    exact hk8 x5 (v3 + 1) μ h
  · replace h := ite_F h hc
    refine aw_iload (pc := 31) C dX4_offering_31 4 rfl ?_
    refine aw_aload_n (pc := 33) C dX4_offering_33 rfl 0 rfl ?_
    refine aw_iload_n (pc := 34) C dX4_offering_34 rfl 3 rfl ?_
    refine aw_iload (pc := 35) C dX4_offering_35 5 rfl ?_
    obtain ⟨q7, hq6, h⟩ := bi_some h
    refine aw_Vi (pc := 37) (a := 45) (Bs := [.int v3, .int v5]) C (ok_X4_offer C.tr hq6) kv_X4_offer q926 rfl rfl rfl rfl dX4_offering_37 ⟨(show 1 ≤ 5 by decide), (show 22 ≤ 155 by decide)⟩ ⟨Nat.zero_le _, Nat.zero_le _⟩ [.int v4] (Nat.le_of_ble_eq_true rfl) rfl ?_
    refine aw_ior (pc := 40) C dX4_offering_40 ?_
    obtain ⟨x8, ex8, h⟩ := bd_some h
    refine aw_istore (pc := 41) C (x := x8) (lv' := [(4, .int x8), (0, .ref (ad 45)), (1, .int v1), (2, .int v2), (3, .int v3), (5, .int v5)]) dX4_offering_41 (by decide) ex8 rfl ?_
    refine aw_iinc (pc := 43) C (v := (v5 + 1)) (lv' := [(5, .int (v5 + 1)), (4, .int x8), (0, .ref (ad 45)), (1, .int v1), (2, .int v2), (3, .int v3)]) dX4_offering_43 5 rfl (by decide) rfl rfl ?_
    refine aw_goto (pc := 46) C 24 dX4_offering_46 rfl ?_
    refine aw_sub [2, 3, 4, 5, 1, 0] rfl ?_
    exact hk24 v2 v3 x8 (v5 + 1) μ h
theorem ok_X4_offering_l24_w {l : Launch} {p : Program} {e : Env} {s : State} {m : MethodId} {args : Array Value} {below : List Frame} {meth : Method} {c : Code} {D : va_G} {cI cL : ClassId} {ad : Nat → Nat} (C : CX p l s m args meth c RX4 cX4_offering 6 (some .int) D cI cL (AA ad s.heap.size)) (hex : ∀ x ∈ c.exceptionTable.toList, False) {r : (Int32 × Mm)} {v1 : Int32} {k8 : Int32 → Int32 → Mm → Option (Int32 × Mm)} (hk8 : ∀ (v2 : Int32) (v3 : Int32) (μ : Mm), k8 v2 v3 μ = some r → AV l p e s m args below meth c D cI cL ad 5 6 (.inr (some (.int r.1))) r.2 8 [(0, .ref (ad 45)), (1, .int v1), (2, .int v2), (3, .int v3)] [] μ) : ∀ (n : Nat) (v2 : Int32) (v3 : Int32) (v4 : Int32) (v5 : Int32) (μ : Mm) , itr (X4_offering_l24 v1 k8) (fun _ _ _ _ _ => none) n v2 v3 v4 v5 μ = some r → AV l p e s m args below meth c D cI cL ad 5 6 (.inr (some (.int r.1))) r.2 24 [(0, .ref (ad 45)), (1, .int v1), (2, .int v2), (3, .int v3), (4, .int v4), (5, .int v5)] [] μ := by
  intro n
  induction n with
  | zero => intro v2 v3 v4 v5 μ h; exact nomatch (show (none : Option (Int32 × Mm)) = some r from h)
  | succ n ih => intro v2 v3 v4 v5 μ h; exact ok_X4_offering_l24 C hex (v1 := v1) hk8 ih h
theorem ok_X4_offering_l8 {l : Launch} {p : Program} {e : Env} {s : State} {m : MethodId} {args : Array Value} {below : List Frame} {meth : Method} {c : Code} {D : va_G} {cI cL : ClassId} {ad : Nat → Nat} (C : CX p l s m args meth c RX4 cX4_offering 6 (some .int) D cI cL (AA ad s.heap.size)) (hex : ∀ x ∈ c.exceptionTable.toList, False) {r : (Int32 × Mm)} {v1 : Int32} {k8 : Int32 → Int32 → Mm → Option (Int32 × Mm)} (hk8 : ∀ (v2 : Int32) (v3 : Int32) (μ : Mm), k8 v2 v3 μ = some r → AV l p e s m args below meth c D cI cL ad 5 6 (.inr (some (.int r.1))) r.2 8 [(0, .ref (ad 45)), (1, .int v1), (2, .int v2), (3, .int v3)] [] μ) {v2 : Int32} {v3 : Int32} {μ : Mm}  (h : X4_offering_l8 v1 k8 v2 v3 μ = some r) : AV l p e s m args below meth c D cI cL ad 5 6 (.inr (some (.int r.1))) r.2 8 [(0, .ref (ad 45)), (1, .int v1), (2, .int v2), (3, .int v3)] [] μ := by
  unfold X4_offering_l8 at h
  refine aw_iload_n (pc := 8) C dX4_offering_8 rfl 3 rfl ?_
  refine aw_aload_n (pc := 9) C dX4_offering_9 rfl 0 rfl ?_
  refine aw_get (pc := 10) C (a := 45) (k := 1) (v := .ref (ad 46)) inX4 rfl rfl (by decide) q741 dX4_offering_10 rfl ?_
  refine aw_iconst (pc := 13) C (v := 0) dX4_offering_13 rfl ?_
  obtain ⟨g4, h⟩ := ck_some h
  refine aw_iaload (pc := 14) C (a := 46) rfl g4 dX4_offering_14 ?_
  refine aw_icmp_ge (pc := 15) C 64 dX4_offering_15 rfl (fun hc => ?_) (fun hc => ?_)
  · replace h := ite_T h hc
    refine aw_iload_n (pc := 64) C dX4_offering_64 rfl 2 rfl ?_
    cases h
    exact aw_iret (pc := 65) C dX4_offering_65
  · replace h := ite_F h hc
    refine aw_iconst (pc := 18) C (v := 0) dX4_offering_18 rfl ?_
    refine aw_istore (pc := 19) C (x := 0) (lv' := [(4, .int 0), (0, .ref (ad 45)), (1, .int v1), (2, .int v2), (3, .int v3)]) dX4_offering_19 (by decide) rfl rfl ?_
    refine aw_iconst (pc := 21) C (v := 0) dX4_offering_21 rfl ?_
    refine aw_istore (pc := 22) C (x := 0) (lv' := [(5, .int 0), (4, .int 0), (0, .ref (ad 45)), (1, .int v1), (2, .int v2), (3, .int v3)]) dX4_offering_22 (by decide) rfl rfl ?_
    refine aw_sub [2, 3, 4, 5, 1, 0] rfl ?_
    exact ok_X4_offering_l24_w C hex hk8 big v2 v3 0 0 μ h
theorem ok_X4_offering_l8_w {l : Launch} {p : Program} {e : Env} {s : State} {m : MethodId} {args : Array Value} {below : List Frame} {meth : Method} {c : Code} {D : va_G} {cI cL : ClassId} {ad : Nat → Nat} (C : CX p l s m args meth c RX4 cX4_offering 6 (some .int) D cI cL (AA ad s.heap.size)) (hex : ∀ x ∈ c.exceptionTable.toList, False) {r : (Int32 × Mm)} {v1 : Int32} : ∀ (n : Nat) (v2 : Int32) (v3 : Int32) (μ : Mm) , itr (X4_offering_l8 v1) (fun _ _ _ => none) n v2 v3 μ = some r → AV l p e s m args below meth c D cI cL ad 5 6 (.inr (some (.int r.1))) r.2 8 [(0, .ref (ad 45)), (1, .int v1), (2, .int v2), (3, .int v3)] [] μ := by
  intro n
  induction n with
  | zero => intro v2 v3 μ h; exact nomatch (show (none : Option (Int32 × Mm)) = some r from h)
  | succ n ih => intro v2 v3 μ h; exact ok_X4_offering_l8 C hex (v1 := v1) ih h
theorem ok_X4_offering {l : Launch} (htr : l.stackTraces = false) {v1 : Int32} {μ : Mm} {r : (Int32 × Mm)}  (h : X4_offering v1 μ = some r) : MetX l yX4_offering cX4_offering 6 (some .int) 5 (fun ad => [.ref (ad 45), .int v1]) μ (.inr (some (.int r.1))) r.2 := by
  refine MetX.of htr (by decide) rfl (fun ad => Nat.le_of_ble_eq_true rfl) (fun p e s m args below meth c D cI cL ad C hex hw => ?_)
  show AV l p e s m args below meth c D cI cL ad 5 6 (.inr (some (.int r.1))) r.2 0 [(0, .ref (ad 45)), (1, .int v1)] [] μ
  unfold X4_offering at h
  refine aw_aload_n (pc := 0) C dX4_offering_0 rfl 0 rfl ?_
  obtain ⟨μ3, hq1, h⟩ := bi_some h
  refine aw_Vv (pc := 1) (a := 45) (Bs := []) C (ok_X4_lay C.tr hq1) kv_X4_lay q906 rfl rfl rfl rfl dX4_offering_1 ⟨(show 5 ≤ 5 by decide), (show 145 ≤ 155 by decide)⟩ ⟨Nat.zero_le _, Nat.zero_le _⟩ [] (Nat.le_of_ble_eq_true rfl) rfl ?_
  refine aw_iconst (pc := 4) C (v := 0) dX4_offering_4 rfl ?_
  refine aw_istore_n (pc := 5) C (x := 0) (lv' := [(2, .int 0), (0, .ref (ad 45)), (1, .int v1)]) dX4_offering_5 rfl (by decide) rfl rfl ?_
  refine aw_iconst (pc := 6) C (v := 0) dX4_offering_6 rfl ?_
  refine aw_istore_n (pc := 7) C (x := 0) (lv' := [(3, .int 0), (2, .int 0), (0, .ref (ad 45)), (1, .int v1)]) dX4_offering_7 rfl (by decide) rfl rfl ?_
  refine aw_sub [2, 3, 1, 0] rfl ?_
  exact ok_X4_offering_l8_w C hex big 0 0 μ3 h
/-! ### NameScopesModel.reaching(I)I -/
theorem ok_X4_reaching_l4 {l : Launch} {p : Program} {e : Env} {s : State} {m : MethodId} {args : Array Value} {below : List Frame} {meth : Method} {c : Code} {D : va_G} {cI cL : ClassId} {ad : Nat → Nat} (C : CX p l s m args meth c RX4 cX4_reaching 4 (some .int) D cI cL (AA ad s.heap.size)) (hex : ∀ x ∈ c.exceptionTable.toList, False) {r : (Int32 × Mm)} {v1 : Int32} {k4 : Int32 → Int32 → Mm → Option (Int32 × Mm)} (hk4 : ∀ (v2 : Int32) (v3 : Int32) (μ : Mm), k4 v2 v3 μ = some r → AV l p e s m args below meth c D cI cL ad 7 4 (.inr (some (.int r.1))) r.2 4 [(0, .ref (ad 45)), (1, .int v1), (2, .int v2), (3, .int v3)] [] μ) {v2 : Int32} {v3 : Int32} {μ : Mm}  (h : X4_reaching_l4 v1 k4 v2 v3 μ = some r) : AV l p e s m args below meth c D cI cL ad 7 4 (.inr (some (.int r.1))) r.2 4 [(0, .ref (ad 45)), (1, .int v1), (2, .int v2), (3, .int v3)] [] μ := by
  unfold X4_reaching_l4 at h
  refine aw_iload_n (pc := 4) C dX4_reaching_4 rfl 3 rfl ?_
  refine aw_aload_n (pc := 5) C dX4_reaching_5 rfl 0 rfl ?_
  refine aw_get (pc := 6) C (a := 45) (k := 1) (v := .ref (ad 46)) inX4 rfl rfl (by decide) q741 dX4_reaching_6 rfl ?_
  refine aw_iconst (pc := 9) C (v := 0) dX4_reaching_9 rfl ?_
  obtain ⟨g1, h⟩ := ck_some h
  refine aw_iaload (pc := 10) C (a := 46) rfl g1 dX4_reaching_10 ?_
  refine aw_icmp_ge (pc := 11) C 45 dX4_reaching_11 rfl (fun hc => ?_) (fun hc => ?_)
  · replace h := ite_T h hc
    refine aw_iload_n (pc := 45) C dX4_reaching_45 rfl 2 rfl ?_
    cases h
    exact aw_iret (pc := 46) C dX4_reaching_46
  · replace h := ite_F h hc
    refine aw_iload_n (pc := 14) C dX4_reaching_14 rfl 2 rfl ?_
    refine aw_aload_n (pc := 15) C dX4_reaching_15 rfl 0 rfl ?_
    refine aw_iload_n (pc := 16) C dX4_reaching_16 rfl 3 rfl ?_
    refine aw_aload_n (pc := 17) C dX4_reaching_17 rfl 0 rfl ?_
    refine aw_iload_n (pc := 18) C dX4_reaching_18 rfl 1 rfl ?_
    refine aw_iconst (pc := 19) C (v := 1) dX4_reaching_19 rfl ?_
    obtain ⟨q3, hq2, h⟩ := bi_some h
    refine aw_Vi (pc := 20) (a := 45) (Bs := [.int v1, .int 1]) C (ok_X4_of C.tr hq2) kv_X4_of q849 rfl rfl rfl rfl dX4_reaching_20 ⟨(show 1 ≤ 7 by decide), (show 22 ≤ 217 by decide)⟩ ⟨Nat.zero_le _, Nat.zero_le _⟩ [.int v3, .ref (ad 45), .int v2] (Nat.le_of_ble_eq_true rfl) rfl ?_
    obtain ⟨q5, μ6, hq4, h⟩ := bn_some h
    refine aw_Vi (pc := 23) (a := 45) (Bs := [.int v3, .int q3]) C (ok_X4_outcome C.tr hq4) kv_X4_outcome q898 rfl rfl rfl rfl dX4_reaching_23 ⟨(show 7 ≤ 7 by decide), (show 208 ≤ 217 by decide)⟩ ⟨Nat.zero_le _, Nat.zero_le _⟩ [.int v2] (Nat.le_of_ble_eq_true rfl) rfl ?_
    refine aw_iconst (pc := 26) C (v := 1) dX4_reaching_26 rfl ?_
    refine aw_iload_n (pc := 27) C dX4_reaching_27 rfl 1 rfl ?_
    refine aw_ishl (pc := 28) C dX4_reaching_28 ?_
    have kJ : AV l p e s m args below meth c D cI cL ad 7 4 (.inr (some (.int r.1))) r.2 37 [(0, .ref (ad 45)), (1, .int v1), (2, .int v2), (3, .int v3)] [.int (if q5 = (1 <<< (v1 &&& 31)) then (1 : Int32) else 0), .int v2] μ6 := by
      refine aw_iadd (pc := 37) C dX4_reaching_37 ?_
      obtain ⟨x7, ex7, h⟩ := bd_some h
      refine aw_istore_n (pc := 38) C (x := x7) (lv' := [(2, .int x7), (0, .ref (ad 45)), (1, .int v1), (3, .int v3)]) dX4_reaching_38 rfl (by decide) ex7 rfl ?_
      refine aw_iinc (pc := 39) C (v := (v3 + 1)) (lv' := [(3, .int (v3 + 1)), (2, .int x7), (0, .ref (ad 45)), (1, .int v1)]) dX4_reaching_39 3 rfl (by decide) rfl rfl ?_
      refine aw_goto (pc := 42) C 4 dX4_reaching_42 rfl ?_
      refine aw_sub [2, 3, 1, 0] rfl ?_
      exact hk4 x7 (v3 + 1) μ6 h
    refine aw_icmp_ne (pc := 29) C 36 dX4_reaching_29 rfl (fun hd1 => ?_) (fun hd1 => ?_)
    · refine aw_iconst (pc := 36) C (v := 0) dX4_reaching_36 rfl ?_
      rw [if_neg hd1] at kJ
      exact kJ
    · refine aw_iconst (pc := 32) C (v := 1) dX4_reaching_32 rfl ?_
      refine aw_goto (pc := 33) C 37 dX4_reaching_33 rfl ?_
      rw [if_pos hd1] at kJ
      exact kJ
theorem ok_X4_reaching_l4_w {l : Launch} {p : Program} {e : Env} {s : State} {m : MethodId} {args : Array Value} {below : List Frame} {meth : Method} {c : Code} {D : va_G} {cI cL : ClassId} {ad : Nat → Nat} (C : CX p l s m args meth c RX4 cX4_reaching 4 (some .int) D cI cL (AA ad s.heap.size)) (hex : ∀ x ∈ c.exceptionTable.toList, False) {r : (Int32 × Mm)} {v1 : Int32} : ∀ (n : Nat) (v2 : Int32) (v3 : Int32) (μ : Mm) , itr (X4_reaching_l4 v1) (fun _ _ _ => none) n v2 v3 μ = some r → AV l p e s m args below meth c D cI cL ad 7 4 (.inr (some (.int r.1))) r.2 4 [(0, .ref (ad 45)), (1, .int v1), (2, .int v2), (3, .int v3)] [] μ := by
  intro n
  induction n with
  | zero => intro v2 v3 μ h; exact nomatch (show (none : Option (Int32 × Mm)) = some r from h)
  | succ n ih => intro v2 v3 μ h; exact ok_X4_reaching_l4 C hex (v1 := v1) ih h
theorem ok_X4_reaching {l : Launch} (htr : l.stackTraces = false) {v1 : Int32} {μ : Mm} {r : (Int32 × Mm)}  (h : X4_reaching v1 μ = some r) : MetX l yX4_reaching cX4_reaching 4 (some .int) 7 (fun ad => [.ref (ad 45), .int v1]) μ (.inr (some (.int r.1))) r.2 := by
  refine MetX.of htr (by decide) rfl (fun ad => Nat.le_of_ble_eq_true rfl) (fun p e s m args below meth c D cI cL ad C hex hw => ?_)
  show AV l p e s m args below meth c D cI cL ad 7 4 (.inr (some (.int r.1))) r.2 0 [(0, .ref (ad 45)), (1, .int v1)] [] μ
  unfold X4_reaching at h
  refine aw_iconst (pc := 0) C (v := 0) dX4_reaching_0 rfl ?_
  refine aw_istore_n (pc := 1) C (x := 0) (lv' := [(2, .int 0), (0, .ref (ad 45)), (1, .int v1)]) dX4_reaching_1 rfl (by decide) rfl rfl ?_
  refine aw_iconst (pc := 2) C (v := 0) dX4_reaching_2 rfl ?_
  refine aw_istore_n (pc := 3) C (x := 0) (lv' := [(3, .int 0), (2, .int 0), (0, .ref (ad 45)), (1, .int v1)]) dX4_reaching_3 rfl (by decide) rfl rfl ?_
  refine aw_sub [2, 3, 1, 0] rfl ?_
  exact ok_X4_reaching_l4_w C hex big 0 0 μ h
/-! ### NameScopesModel.declarationNow(II)I -/
theorem ok_X4_declarationNow {l : Launch} (htr : l.stackTraces = false) {v1 : Int32} {v2 : Int32} {μ : Mm} {r : (Int32 × Mm)}  (h : X4_declarationNow v1 v2 μ = some r) : MetX l yX4_declarationNow cX4_declarationNow 3 (some .int) 9 (fun ad => [.ref (ad 45), .int v1, .int v2]) μ (.inr (some (.int r.1))) r.2 := by
  refine MetX.of htr (by decide) rfl (fun ad => Nat.le_of_ble_eq_true rfl) (fun p e s m args below meth c D cI cL ad C hex hw => ?_)
  show AV l p e s m args below meth c D cI cL ad 9 3 (.inr (some (.int r.1))) r.2 0 [(0, .ref (ad 45)), (1, .int v1), (2, .int v2)] [] μ
  unfold X4_declarationNow at h
  refine aw_iload_n (pc := 0) C dX4_declarationNow_0 rfl 2 rfl ?_
  refine aw_iconst (pc := 1) C (v := 3) dX4_declarationNow_1 rfl ?_
  refine aw_icmp_ge (pc := 2) C 14 dX4_declarationNow_2 rfl (fun hc => ?_) (fun hc => ?_)
  · replace h := ite_T h hc
    refine aw_iload_n (pc := 14) C dX4_declarationNow_14 rfl 2 rfl ?_
    refine aw_iconst (pc := 15) C (v := 3) dX4_declarationNow_15 rfl ?_
    refine aw_icmp_ne (pc := 16) C 27 dX4_declarationNow_16 rfl (fun hc => ?_) (fun hc => ?_)
    · replace h := ite_F h hc
      refine aw_iload_n (pc := 27) C dX4_declarationNow_27 rfl 2 rfl ?_
      refine aw_iconst (pc := 28) C (v := 4) dX4_declarationNow_28 rfl ?_
      refine aw_icmp_ne (pc := 29) C 40 dX4_declarationNow_29 rfl (fun hc => ?_) (fun hc => ?_)
      · replace h := ite_F h hc
        refine aw_aload_n (pc := 40) C dX4_declarationNow_40 rfl 0 rfl ?_
        refine aw_iload_n (pc := 41) C dX4_declarationNow_41 rfl 1 rfl ?_
        obtain ⟨q2, μ3, hq1, h⟩ := bn_some h
        refine aw_Vi (pc := 42) (a := 45) (Bs := [.int v1]) C (ok_X4_reaching C.tr hq1) kv_X4_reaching q1125 rfl rfl rfl rfl dX4_declarationNow_42 ⟨(show 8 ≤ 9 by decide), (show 240 ≤ 279 by decide)⟩ ⟨Nat.zero_le _, Nat.zero_le _⟩ [] (Nat.le_of_ble_eq_true rfl) rfl ?_
        cases h
        exact aw_iret (pc := 45) C dX4_declarationNow_45
      · replace h := ite_T h hc
        refine aw_aload_n (pc := 32) C dX4_declarationNow_32 rfl 0 rfl ?_
        refine aw_iload_n (pc := 33) C dX4_declarationNow_33 rfl 1 rfl ?_
        obtain ⟨q5, μ6, hq4, h⟩ := bn_some h
        refine aw_Vi (pc := 34) (a := 45) (Bs := [.int v1]) C (ok_X4_offering C.tr hq4) kv_X4_offering q1121 rfl rfl rfl rfl dX4_declarationNow_34 ⟨(show 6 ≤ 9 by decide), (show 180 ≤ 279 by decide)⟩ ⟨Nat.zero_le _, Nat.zero_le _⟩ [] (Nat.le_of_ble_eq_true rfl) rfl ?_
        refine aw_goto (pc := 37) C 45 dX4_declarationNow_37 rfl ?_
        cases h
        exact aw_iret (pc := 45) C dX4_declarationNow_45
    · replace h := ite_T h hc
      refine aw_aload_n (pc := 19) C dX4_declarationNow_19 rfl 0 rfl ?_
      refine aw_iload_n (pc := 20) C dX4_declarationNow_20 rfl 1 rfl ?_
      obtain ⟨q8, μ9, hq7, h⟩ := bn_some h
      refine aw_Vi (pc := 21) (a := 45) (Bs := [.int v1]) C (ok_X4_usesOf C.tr hq7) kv_X4_usesOf q1085 rfl rfl rfl rfl dX4_declarationNow_21 ⟨(show 9 ≤ 9 by decide), (show 271 ≤ 279 by decide)⟩ ⟨Nat.zero_le _, Nat.zero_le _⟩ [] (Nat.le_of_ble_eq_true rfl) rfl ?_
      refine aw_goto (pc := 24) C 45 dX4_declarationNow_24 rfl ?_
      cases h
      exact aw_iret (pc := 45) C dX4_declarationNow_45
  · replace h := ite_F h hc
    refine aw_aload_n (pc := 5) C dX4_declarationNow_5 rfl 0 rfl ?_
    refine aw_iload_n (pc := 6) C dX4_declarationNow_6 rfl 1 rfl ?_
    refine aw_iload_n (pc := 7) C dX4_declarationNow_7 rfl 2 rfl ?_
    obtain ⟨q11, hq10, h⟩ := bi_some h
    refine aw_Vi (pc := 8) (a := 45) (Bs := [.int v1, .int v2]) C (ok_X4_of C.tr hq10) kv_X4_of q849 rfl rfl rfl rfl dX4_declarationNow_8 ⟨(show 1 ≤ 9 by decide), (show 22 ≤ 279 by decide)⟩ ⟨Nat.zero_le _, Nat.zero_le _⟩ [] (Nat.le_of_ble_eq_true rfl) rfl ?_
    refine aw_goto (pc := 11) C 45 dX4_declarationNow_11 rfl ?_
    cases h
    exact aw_iret (pc := 45) C dX4_declarationNow_45
/-! ### NameScopesModel.declaration(II)I -/
theorem ok_X4_declaration_j27 {l : Launch} {p : Program} {e : Env} {s : State} {m : MethodId} {args : Array Value} {below : List Frame} {meth : Method} {c : Code} {D : va_G} {cI cL : ClassId} {ad : Nat → Nat} (C : CX p l s m args meth c RX4 cX4_declaration 3 (some .int) D cI cL (AA ad s.heap.size)) (hex : ∀ x ∈ c.exceptionTable.toList, False) {r : (Int32 × Mm)} {v1 : Int32} {v2 : Int32} {s0 : Int32} {μ : Mm}  (h : X4_declaration_j27 v1 v2 s0 μ = some r) : AV l p e s m args below meth c D cI cL ad 10 3 (.inr (some (.int r.1))) r.2 27 [(0, .ref (ad 45)), (1, .int v1), (2, .int v2)] [.int s0, .ref (ad 45)] μ := by
  unfold X4_declaration_j27 at h
  obtain ⟨μ9, eμ9, h⟩ := bd_some h
  refine aw_putI (pc := 27) C (a := 45) (k := 0) (ty := .int) inX4 tyX4 tyX4_ok nmX4 rfl rfl (by decide) q740 rfl (by decide +kernel) rfl rfl (by show 0 < 26; decide) dX4_declaration_27 fl_4_0 eμ9 ?_
  refine aw_aload_n (pc := 30) C dX4_declaration_30 rfl 0 rfl ?_
  refine aw_get (pc := 31) C (a := 45) (k := 0) (v := .int (μ9.1 45 0)) inX4 rfl rfl (by decide) q740 dX4_declaration_31 rfl ?_
  refine aw_if_le (pc := 34) C 41 dX4_declaration_34 rfl (fun hc => ?_) (fun hc => ?_)
  · replace h := ite_T h hc
    refine aw_aload_n (pc := 41) C dX4_declaration_41 rfl 0 rfl ?_
    refine aw_iload_n (pc := 42) C dX4_declaration_42 rfl 1 rfl ?_
    refine aw_iload_n (pc := 43) C dX4_declaration_43 rfl 2 rfl ?_
    obtain ⟨q11, μ12, hq10, h⟩ := bn_some h
    refine aw_Vi (pc := 44) (a := 45) (Bs := [.int v1, .int v2]) C (ok_X4_declarationNow C.tr hq10) kv_X4_declarationNow q1117 rfl rfl rfl rfl dX4_declaration_44 ⟨(show 10 ≤ 10 by decide), (show 301 ≤ 310 by decide)⟩ ⟨Nat.zero_le _, Nat.zero_le _⟩ [] (Nat.le_of_ble_eq_true rfl) rfl ?_
    cases h
    exact aw_iret (pc := 47) C dX4_declaration_47
  · replace h := ite_F h hc
    refine aw_iconst (pc := 37) C (v := 0) dX4_declaration_37 rfl ?_
    refine aw_goto (pc := 38) C 47 dX4_declaration_38 rfl ?_
    cases h
    exact aw_iret (pc := 47) C dX4_declaration_47
theorem ok_X4_declaration {l : Launch} (htr : l.stackTraces = false) {v1 : Int32} {v2 : Int32} {μ : Mm} {r : (Int32 × Mm)}  (h : X4_declaration v1 v2 μ = some r) : MetX l yX4_declaration cX4_declaration 3 (some .int) 10 (fun ad => [.ref (ad 45), .int v1, .int v2]) μ (.inr (some (.int r.1))) r.2 := by
  refine MetX.of htr (by decide) rfl (fun ad => Nat.le_of_ble_eq_true rfl) (fun p e s m args below meth c D cI cL ad C hex hw => ?_)
  show AV l p e s m args below meth c D cI cL ad 10 3 (.inr (some (.int r.1))) r.2 0 [(0, .ref (ad 45)), (1, .int v1), (2, .int v2)] [] μ
  unfold X4_declaration at h
  refine aw_aload_n (pc := 0) C dX4_declaration_0 rfl 0 rfl ?_
  refine aw_aload_n (pc := 1) C dX4_declaration_1 rfl 0 rfl ?_
  refine aw_iload_n (pc := 2) C dX4_declaration_2 rfl 1 rfl ?_
  obtain ⟨q2, hq1, h⟩ := bi_some h
  refine aw_Vi (pc := 3) (a := 45) (Bs := [.int v1]) C (ok_X4_isDeclaration C.tr hq1) kv_X4_isDeclaration q1049 rfl rfl rfl rfl dX4_declaration_3 ⟨(show 2 ≤ 10 by decide), (show 52 ≤ 310 by decide)⟩ ⟨Nat.zero_le _, Nat.zero_le _⟩ [.ref (ad 45)] (Nat.le_of_ble_eq_true rfl) rfl ?_
  refine aw_if_ne (pc := 6) C 13 dX4_declaration_6 rfl (fun hc => ?_) (fun hc => ?_)
  · replace h := ite_F h hc
    refine aw_iload_n (pc := 13) C dX4_declaration_13 rfl 2 rfl ?_
    refine aw_iconst (pc := 14) C (v := 0) dX4_declaration_14 rfl ?_
    refine aw_iconst (pc := 15) C (v := 5) dX4_declaration_15 rfl ?_
    obtain ⟨q4, hq3, h⟩ := bi_some h
    refine aw_Si (pc := 16) (Bs := [.int v2, .int 0, .int 5]) C (ok_X4_within C.tr hq3) kv_X4_within q835 rfl rfl dX4_declaration_16 ⟨(show 1 ≤ 10 by decide), (show 22 ≤ 310 by decide)⟩ ⟨Nat.zero_le _, Nat.zero_le _⟩ [.ref (ad 45)] (Nat.le_of_ble_eq_true rfl) rfl ?_
    have kJ : AV l p e s m args below meth c D cI cL ad 10 3 (.inr (some (.int r.1))) r.2 27 [(0, .ref (ad 45)), (1, .int v1), (2, .int v2)] [.int (if q4 = 0 then (2 : Int32) else 0), .ref (ad 45)] μ := by
      obtain ⟨μ5, eμ5, h⟩ := bd_some h
      refine aw_putI (pc := 27) C (a := 45) (k := 0) (ty := .int) inX4 tyX4 tyX4_ok nmX4 rfl rfl (by decide) q740 rfl (by decide +kernel) rfl rfl (by show 0 < 26; decide) dX4_declaration_27 fl_4_0 eμ5 ?_
      refine aw_aload_n (pc := 30) C dX4_declaration_30 rfl 0 rfl ?_
      refine aw_get (pc := 31) C (a := 45) (k := 0) (v := .int (μ5.1 45 0)) inX4 rfl rfl (by decide) q740 dX4_declaration_31 rfl ?_
      refine aw_if_le (pc := 34) C 41 dX4_declaration_34 rfl (fun hc => ?_) (fun hc => ?_)
      · replace h := ite_T h hc
        refine aw_aload_n (pc := 41) C dX4_declaration_41 rfl 0 rfl ?_
        refine aw_iload_n (pc := 42) C dX4_declaration_42 rfl 1 rfl ?_
        refine aw_iload_n (pc := 43) C dX4_declaration_43 rfl 2 rfl ?_
        obtain ⟨q7, μ8, hq6, h⟩ := bn_some h
        refine aw_Vi (pc := 44) (a := 45) (Bs := [.int v1, .int v2]) C (ok_X4_declarationNow C.tr hq6) kv_X4_declarationNow q1117 rfl rfl rfl rfl dX4_declaration_44 ⟨(show 10 ≤ 10 by decide), (show 301 ≤ 310 by decide)⟩ ⟨Nat.zero_le _, Nat.zero_le _⟩ [] (Nat.le_of_ble_eq_true rfl) rfl ?_
        cases h
        exact aw_iret (pc := 47) C dX4_declaration_47
      · replace h := ite_F h hc
        refine aw_iconst (pc := 37) C (v := 0) dX4_declaration_37 rfl ?_
        refine aw_goto (pc := 38) C 47 dX4_declaration_38 rfl ?_
        cases h
        exact aw_iret (pc := 47) C dX4_declaration_47
    refine aw_if_eq (pc := 19) C 26 dX4_declaration_19 rfl (fun hd1 => ?_) (fun hd1 => ?_)
    · refine aw_iconst (pc := 26) C (v := 2) dX4_declaration_26 rfl ?_
      rw [if_pos hd1] at kJ
      exact kJ
    · refine aw_iconst (pc := 22) C (v := 0) dX4_declaration_22 rfl ?_
      refine aw_goto (pc := 23) C 27 dX4_declaration_23 rfl ?_
      rw [if_neg hd1] at kJ
      exact kJ
  · replace h := ite_T h hc
    refine aw_iconst (pc := 9) C (v := 1) dX4_declaration_9 rfl ?_
    refine aw_goto (pc := 10) C 27 dX4_declaration_10 rfl ?_
    refine aw_sub [0, 1, 2] rfl ?_
    exact ok_X4_declaration_j27 C hex h
/-! ### NameScopesModel.declare(IIZ)I -/
theorem ok_X4_declare_j50 {l : Launch} {p : Program} {e : Env} {s : State} {m : MethodId} {args : Array Value} {below : List Frame} {meth : Method} {c : Code} {D : va_G} {cI cL : ClassId} {ad : Nat → Nat} (C : CX p l s m args meth c RX4 cX4_declare 5 (some .int) D cI cL (AA ad s.heap.size)) (hex : ∀ x ∈ c.exceptionTable.toList, False) {r : (Int32 × Mm)} {v1 : Int32} {v2 : Int32} {v3 : Int32} {s0 : Int32} {μ : Mm}  (h : X4_declare_j50 v1 v2 v3 s0 μ = some r) : AV l p e s m args below meth c D cI cL ad 2 5 (.inr (some (.int r.1))) r.2 50 [(0, .ref (ad 45)), (1, .int v1), (2, .int v2), (3, .int v3)] [.int s0, .ref (ad 45)] μ := by
  unfold X4_declare_j50 at h
  obtain ⟨μ5, eμ5, h⟩ := bd_some h
  refine aw_putI (pc := 50) C (a := 45) (k := 0) (ty := .int) inX4 tyX4 tyX4_ok nmX4 rfl rfl (by decide) q740 rfl (by decide +kernel) rfl rfl (by show 0 < 26; decide) dX4_declare_50 fl_4_0 eμ5 ?_
  refine aw_aload_n (pc := 53) C dX4_declare_53 rfl 0 rfl ?_
  refine aw_get (pc := 54) C (a := 45) (k := 0) (v := .int (μ5.1 45 0)) inX4 rfl rfl (by decide) q740 dX4_declare_54 rfl ?_
  refine aw_if_le (pc := 57) C 62 dX4_declare_57 rfl (fun hc => ?_) (fun hc => ?_)
  · replace h := ite_T h hc
    refine aw_aload_n (pc := 62) C dX4_declare_62 rfl 0 rfl ?_
    refine aw_get (pc := 63) C (a := 45) (k := 1) (v := .ref (ad 46)) inX4 rfl rfl (by decide) q741 dX4_declare_63 rfl ?_
    refine aw_iconst (pc := 66) C (v := 1) dX4_declare_66 rfl ?_
    obtain ⟨g6, h⟩ := ck_some h
    refine aw_iaload (pc := 67) C (a := 46) rfl g6 dX4_declare_67 ?_
    obtain ⟨x7, ex7, h⟩ := bd_some h
    refine aw_istore (pc := 68) C (x := x7) (lv' := [(4, .int x7), (0, .ref (ad 45)), (1, .int v1), (2, .int v2), (3, .int v3)]) dX4_declare_68 (by decide) ex7 rfl ?_
    refine aw_aload_n (pc := 70) C dX4_declare_70 rfl 1 rfl ?_
    refine aw_get (pc := 71) C (a := 45) (k := 1) (v := .ref (ad 46)) inX4 rfl rfl (by decide) q741 dX4_declare_71 rfl ?_
    refine aw_bipush (pc := 74) C (v := 20) dX4_declare_74 rfl ?_
    refine aw_iconst (pc := 76) C (v := 3) dX4_declare_76 rfl ?_
    refine aw_iload (pc := 77) C dX4_declare_77 0 rfl ?_
    refine aw_imul (pc := 79) C dX4_declare_79 ?_
    refine aw_iadd (pc := 80) C dX4_declare_80 ?_
    refine aw_iload_n (pc := 81) C dX4_declare_81 rfl 2 rfl ?_
    obtain ⟨g8, h⟩ := ck_some h
    obtain ⟨μ9, eμ9, h⟩ := bd_some h
    refine aw_iastore (pc := 82) C (a := 46) rfl g8 dX4_declare_82 eμ9 ?_
    refine aw_aload_n (pc := 83) C dX4_declare_83 rfl 1 rfl ?_
    refine aw_get (pc := 84) C (a := 45) (k := 1) (v := .ref (ad 46)) inX4 rfl rfl (by decide) q741 dX4_declare_84 rfl ?_
    refine aw_bipush (pc := 87) C (v := 20) dX4_declare_87 rfl ?_
    refine aw_iconst (pc := 89) C (v := 3) dX4_declare_89 rfl ?_
    refine aw_iload (pc := 90) C dX4_declare_90 0 rfl ?_
    refine aw_imul (pc := 92) C dX4_declare_92 ?_
    refine aw_iadd (pc := 93) C dX4_declare_93 ?_
    refine aw_iconst (pc := 94) C (v := 1) dX4_declare_94 rfl ?_
    refine aw_iadd (pc := 95) C dX4_declare_95 ?_
    refine aw_iload_n (pc := 96) C dX4_declare_96 rfl 3 rfl ?_
    obtain ⟨g10, h⟩ := ck_some h
    obtain ⟨μ11, eμ11, h⟩ := bd_some h
    refine aw_iastore (pc := 97) C (a := 46) rfl g10 dX4_declare_97 eμ11 ?_
    refine aw_aload_n (pc := 98) C dX4_declare_98 rfl 1 rfl ?_
    refine aw_get (pc := 99) C (a := 45) (k := 1) (v := .ref (ad 46)) inX4 rfl rfl (by decide) q741 dX4_declare_99 rfl ?_
    refine aw_bipush (pc := 102) C (v := 20) dX4_declare_102 rfl ?_
    refine aw_iconst (pc := 104) C (v := 3) dX4_declare_104 rfl ?_
    refine aw_iload (pc := 105) C dX4_declare_105 0 rfl ?_
    refine aw_imul (pc := 107) C dX4_declare_107 ?_
    refine aw_iadd (pc := 108) C dX4_declare_108 ?_
    refine aw_iconst (pc := 109) C (v := 2) dX4_declare_109 rfl ?_
    refine aw_iadd (pc := 110) C dX4_declare_110 ?_
    refine aw_iload_n (pc := 111) C dX4_declare_111 rfl 4 rfl ?_
    have kJ : AV l p e s m args below meth c D cI cL ad 2 5 (.inr (some (.int r.1))) r.2 120 [(4, .int x7), (0, .ref (ad 45)), (1, .int v1), (2, .int v2), (3, .int v3)] [.int (if v3 = 0 then (0 : Int32) else 1), .int ((20 + (3 * x7)) + 2), .ref (ad 46)] μ11 := by
      obtain ⟨g12, h⟩ := ck_some h
      obtain ⟨μ13, eμ13, h⟩ := bd_some h
      refine aw_iastore (pc := 120) C (a := 46) rfl g12 dX4_declare_120 eμ13 ?_
      refine aw_aload_n (pc := 121) C dX4_declare_121 rfl 1 rfl ?_
      refine aw_get (pc := 122) C (a := 45) (k := 1) (v := .ref (ad 46)) inX4 rfl rfl (by decide) q741 dX4_declare_122 rfl ?_
      refine aw_iconst (pc := 125) C (v := 1) dX4_declare_125 rfl ?_
      refine aw_dup2 (pc := 126) C dX4_declare_126 rfl rfl ?_
      obtain ⟨g14, h⟩ := ck_some h
      refine aw_iaload (pc := 127) C (a := 46) rfl g14 dX4_declare_127 ?_
      refine aw_iconst (pc := 128) C (v := 1) dX4_declare_128 rfl ?_
      refine aw_iadd (pc := 129) C dX4_declare_129 ?_
      obtain ⟨g15, h⟩ := ck_some h
      obtain ⟨μ16, eμ16, h⟩ := bd_some h
      refine aw_iastore (pc := 130) C (a := 46) rfl g15 dX4_declare_130 eμ16 ?_
      refine aw_aload_n (pc := 131) C dX4_declare_131 rfl 1 rfl ?_
      refine aw_iconst (pc := 132) C (v := 0) dX4_declare_132 rfl ?_
      obtain ⟨μ17, eμ17, h⟩ := bd_some h
      refine aw_putI (pc := 133) C (a := 45) (k := 4) (ty := .boolean) inX4 tyX4 tyX4_ok nmX4 rfl rfl (by decide) q744 rfl (by decide +kernel) (b01_nar b01_0) (b01_fit b01_0) (by show 4 < 26; decide) dX4_declare_133 fl_4_4 eμ17 ?_
      refine aw_iload (pc := 136) C dX4_declare_136 0 rfl ?_
      cases h
      exact aw_iret (pc := 138) C dX4_declare_138
    refine aw_if_eq (pc := 112) C 119 dX4_declare_112 rfl (fun hd1 => ?_) (fun hd1 => ?_)
    · refine aw_iconst (pc := 119) C (v := 0) dX4_declare_119 rfl ?_
      rw [if_pos hd1] at kJ
      exact kJ
    · refine aw_iconst (pc := 115) C (v := 1) dX4_declare_115 rfl ?_
      refine aw_goto (pc := 116) C 120 dX4_declare_116 rfl ?_
      rw [if_neg hd1] at kJ
      exact kJ
  · replace h := ite_F h hc
    refine aw_iconst (pc := 60) C (v := 0) dX4_declare_60 rfl ?_
    cases h
    exact aw_iret (pc := 61) C dX4_declare_61
theorem ok_X4_declare_j30 {l : Launch} {p : Program} {e : Env} {s : State} {m : MethodId} {args : Array Value} {below : List Frame} {meth : Method} {c : Code} {D : va_G} {cI cL : ClassId} {ad : Nat → Nat} (C : CX p l s m args meth c RX4 cX4_declare 5 (some .int) D cI cL (AA ad s.heap.size)) (hex : ∀ x ∈ c.exceptionTable.toList, False) {r : (Int32 × Mm)} {v1 : Int32} {v2 : Int32} {v3 : Int32} {μ : Mm}  (h : X4_declare_j30 v1 v2 v3 μ = some r) : AV l p e s m args below meth c D cI cL ad 2 5 (.inr (some (.int r.1))) r.2 30 [(0, .ref (ad 45)), (1, .int v1), (2, .int v2), (3, .int v3)] [.ref (ad 45)] μ := by
  unfold X4_declare_j30 at h
  refine aw_iconst (pc := 30) C (v := 2) dX4_declare_30 rfl ?_
  refine aw_goto (pc := 31) C 50 dX4_declare_31 rfl ?_
  refine aw_sub [0, 1, 2, 3] rfl ?_
  exact ok_X4_declare_j50 C hex h
theorem ok_X4_declare {l : Launch} (htr : l.stackTraces = false) {v1 : Int32} {v2 : Int32} {v3 : Int32} {μ : Mm} {r : (Int32 × Mm)}  (h : X4_declare v1 v2 v3 μ = some r) : MetX l yX4_declare cX4_declare 5 (some .int) 2 (fun ad => [.ref (ad 45), .int v1, .int v2, .int v3]) μ (.inr (some (.int r.1))) r.2 := by
  refine MetX.of htr (by decide) rfl (fun ad => Nat.le_of_ble_eq_true rfl) (fun p e s m args below meth c D cI cL ad C hex hw => ?_)
  show AV l p e s m args below meth c D cI cL ad 2 5 (.inr (some (.int r.1))) r.2 0 [(0, .ref (ad 45)), (1, .int v1), (2, .int v2), (3, .int v3)] [] μ
  unfold X4_declare at h
  refine aw_aload_n (pc := 0) C dX4_declare_0 rfl 0 rfl ?_
  refine aw_aload_n (pc := 1) C dX4_declare_1 rfl 0 rfl ?_
  refine aw_iload_n (pc := 2) C dX4_declare_2 rfl 1 rfl ?_
  obtain ⟨q2, hq1, h⟩ := bi_some h
  refine aw_Vi (pc := 3) (a := 45) (Bs := [.int v1]) C (ok_X4_isScope C.tr hq1) kv_X4_isScope q831 rfl rfl rfl rfl dX4_declare_3 ⟨(show 2 ≤ 2 by decide), (show 52 ≤ 62 by decide)⟩ ⟨Nat.zero_le _, Nat.zero_le _⟩ [.ref (ad 45)] (Nat.le_of_ble_eq_true rfl) rfl ?_
  refine aw_if_ne (pc := 6) C 13 dX4_declare_6 rfl (fun hc => ?_) (fun hc => ?_)
  · replace h := ite_F h hc
    refine aw_iload_n (pc := 13) C dX4_declare_13 rfl 2 rfl ?_
    obtain ⟨q4, hq3, h⟩ := bi_some h
    refine aw_Si (pc := 14) (Bs := [.int v2]) C (ok_X4_isName C.tr hq3) kv_X4_isName q842 rfl rfl dX4_declare_14 ⟨(show 2 ≤ 2 by decide), (show 51 ≤ 62 by decide)⟩ ⟨Nat.zero_le _, Nat.zero_le _⟩ [.ref (ad 45)] (Nat.le_of_ble_eq_true rfl) rfl ?_
    refine aw_if_eq (pc := 17) C 30 dX4_declare_17 rfl (fun hc => ?_) (fun hc => ?_)
    · replace h := ite_T h hc
      refine aw_sub [0, 1, 2, 3] rfl ?_
      exact ok_X4_declare_j30 C hex h
    · replace h := ite_F h hc
      refine aw_aload_n (pc := 20) C dX4_declare_20 rfl 0 rfl ?_
      refine aw_iload_n (pc := 21) C dX4_declare_21 rfl 1 rfl ?_
      refine aw_iload_n (pc := 22) C dX4_declare_22 rfl 2 rfl ?_
      obtain ⟨q19, hq18, h⟩ := bi_some h
      refine aw_Vi (pc := 23) (a := 45) (Bs := [.int v1, .int v2]) C (ok_X4_declaredIn C.tr hq18) kv_X4_declaredIn q845 rfl rfl rfl rfl dX4_declare_23 ⟨(show 2 ≤ 2 by decide), (show 55 ≤ 62 by decide)⟩ ⟨Nat.zero_le _, Nat.zero_le _⟩ [.ref (ad 45)] (Nat.le_of_ble_eq_true rfl) rfl ?_
      refine aw_iconst (pc := 26) C (v := (-1)) dX4_declare_26 rfl ?_
      refine aw_icmp_eq (pc := 27) C 34 dX4_declare_27 rfl (fun hc => ?_) (fun hc => ?_)
      · replace h := ite_T h hc
        refine aw_aload_n (pc := 34) C dX4_declare_34 rfl 0 rfl ?_
        refine aw_get (pc := 35) C (a := 45) (k := 1) (v := .ref (ad 46)) inX4 rfl rfl (by decide) q741 dX4_declare_35 rfl ?_
        refine aw_iconst (pc := 38) C (v := 1) dX4_declare_38 rfl ?_
        obtain ⟨g20, h⟩ := ck_some h
        refine aw_iaload (pc := 39) C (a := 46) rfl g20 dX4_declare_39 ?_
        refine aw_bipush (pc := 40) C (v := 30) dX4_declare_40 rfl ?_
        have kJ : AV l p e s m args below meth c D cI cL ad 2 5 (.inr (some (.int r.1))) r.2 50 [(0, .ref (ad 45)), (1, .int v1), (2, .int v2), (3, .int v3)] [.int (if (μ.1 46 (1 : Int32).toNatClampNeg) = 30 then (3 : Int32) else 0), .ref (ad 45)] μ := by
          obtain ⟨μ21, eμ21, h⟩ := bd_some h
          refine aw_putI (pc := 50) C (a := 45) (k := 0) (ty := .int) inX4 tyX4 tyX4_ok nmX4 rfl rfl (by decide) q740 rfl (by decide +kernel) rfl rfl (by show 0 < 26; decide) dX4_declare_50 fl_4_0 eμ21 ?_
          refine aw_aload_n (pc := 53) C dX4_declare_53 rfl 0 rfl ?_
          refine aw_get (pc := 54) C (a := 45) (k := 0) (v := .int (μ21.1 45 0)) inX4 rfl rfl (by decide) q740 dX4_declare_54 rfl ?_
          refine aw_if_le (pc := 57) C 62 dX4_declare_57 rfl (fun hc => ?_) (fun hc => ?_)
          · replace h := ite_T h hc
            refine aw_aload_n (pc := 62) C dX4_declare_62 rfl 0 rfl ?_
            refine aw_get (pc := 63) C (a := 45) (k := 1) (v := .ref (ad 46)) inX4 rfl rfl (by decide) q741 dX4_declare_63 rfl ?_
            refine aw_iconst (pc := 66) C (v := 1) dX4_declare_66 rfl ?_
            obtain ⟨g22, h⟩ := ck_some h
            refine aw_iaload (pc := 67) C (a := 46) rfl g22 dX4_declare_67 ?_
            obtain ⟨x23, ex23, h⟩ := bd_some h
            refine aw_istore (pc := 68) C (x := x23) (lv' := [(4, .int x23), (0, .ref (ad 45)), (1, .int v1), (2, .int v2), (3, .int v3)]) dX4_declare_68 (by decide) ex23 rfl ?_
            refine aw_aload_n (pc := 70) C dX4_declare_70 rfl 1 rfl ?_
            refine aw_get (pc := 71) C (a := 45) (k := 1) (v := .ref (ad 46)) inX4 rfl rfl (by decide) q741 dX4_declare_71 rfl ?_
            refine aw_bipush (pc := 74) C (v := 20) dX4_declare_74 rfl ?_
            refine aw_iconst (pc := 76) C (v := 3) dX4_declare_76 rfl ?_
            refine aw_iload (pc := 77) C dX4_declare_77 0 rfl ?_
            refine aw_imul (pc := 79) C dX4_declare_79 ?_
            refine aw_iadd (pc := 80) C dX4_declare_80 ?_
            refine aw_iload_n (pc := 81) C dX4_declare_81 rfl 2 rfl ?_
            obtain ⟨g24, h⟩ := ck_some h
            obtain ⟨μ25, eμ25, h⟩ := bd_some h
            refine aw_iastore (pc := 82) C (a := 46) rfl g24 dX4_declare_82 eμ25 ?_
            refine aw_aload_n (pc := 83) C dX4_declare_83 rfl 1 rfl ?_
            refine aw_get (pc := 84) C (a := 45) (k := 1) (v := .ref (ad 46)) inX4 rfl rfl (by decide) q741 dX4_declare_84 rfl ?_
            refine aw_bipush (pc := 87) C (v := 20) dX4_declare_87 rfl ?_
            refine aw_iconst (pc := 89) C (v := 3) dX4_declare_89 rfl ?_
            refine aw_iload (pc := 90) C dX4_declare_90 0 rfl ?_
            refine aw_imul (pc := 92) C dX4_declare_92 ?_
            refine aw_iadd (pc := 93) C dX4_declare_93 ?_
            refine aw_iconst (pc := 94) C (v := 1) dX4_declare_94 rfl ?_
            refine aw_iadd (pc := 95) C dX4_declare_95 ?_
            refine aw_iload_n (pc := 96) C dX4_declare_96 rfl 3 rfl ?_
            obtain ⟨g26, h⟩ := ck_some h
            obtain ⟨μ27, eμ27, h⟩ := bd_some h
            refine aw_iastore (pc := 97) C (a := 46) rfl g26 dX4_declare_97 eμ27 ?_
            refine aw_aload_n (pc := 98) C dX4_declare_98 rfl 1 rfl ?_
            refine aw_get (pc := 99) C (a := 45) (k := 1) (v := .ref (ad 46)) inX4 rfl rfl (by decide) q741 dX4_declare_99 rfl ?_
            refine aw_bipush (pc := 102) C (v := 20) dX4_declare_102 rfl ?_
            refine aw_iconst (pc := 104) C (v := 3) dX4_declare_104 rfl ?_
            refine aw_iload (pc := 105) C dX4_declare_105 0 rfl ?_
            refine aw_imul (pc := 107) C dX4_declare_107 ?_
            refine aw_iadd (pc := 108) C dX4_declare_108 ?_
            refine aw_iconst (pc := 109) C (v := 2) dX4_declare_109 rfl ?_
            refine aw_iadd (pc := 110) C dX4_declare_110 ?_
            refine aw_iload_n (pc := 111) C dX4_declare_111 rfl 4 rfl ?_
            have kJ : AV l p e s m args below meth c D cI cL ad 2 5 (.inr (some (.int r.1))) r.2 120 [(4, .int x23), (0, .ref (ad 45)), (1, .int v1), (2, .int v2), (3, .int v3)] [.int (if v3 = 0 then (0 : Int32) else 1), .int ((20 + (3 * x23)) + 2), .ref (ad 46)] μ27 := by
              obtain ⟨g28, h⟩ := ck_some h
              obtain ⟨μ29, eμ29, h⟩ := bd_some h
              refine aw_iastore (pc := 120) C (a := 46) rfl g28 dX4_declare_120 eμ29 ?_
              refine aw_aload_n (pc := 121) C dX4_declare_121 rfl 1 rfl ?_
              refine aw_get (pc := 122) C (a := 45) (k := 1) (v := .ref (ad 46)) inX4 rfl rfl (by decide) q741 dX4_declare_122 rfl ?_
              refine aw_iconst (pc := 125) C (v := 1) dX4_declare_125 rfl ?_
              refine aw_dup2 (pc := 126) C dX4_declare_126 rfl rfl ?_
              obtain ⟨g30, h⟩ := ck_some h
              refine aw_iaload (pc := 127) C (a := 46) rfl g30 dX4_declare_127 ?_
              refine aw_iconst (pc := 128) C (v := 1) dX4_declare_128 rfl ?_
              refine aw_iadd (pc := 129) C dX4_declare_129 ?_
              obtain ⟨g31, h⟩ := ck_some h
              obtain ⟨μ32, eμ32, h⟩ := bd_some h
              refine aw_iastore (pc := 130) C (a := 46) rfl g31 dX4_declare_130 eμ32 ?_
              refine aw_aload_n (pc := 131) C dX4_declare_131 rfl 1 rfl ?_
              refine aw_iconst (pc := 132) C (v := 0) dX4_declare_132 rfl ?_
              obtain ⟨μ33, eμ33, h⟩ := bd_some h
              refine aw_putI (pc := 133) C (a := 45) (k := 4) (ty := .boolean) inX4 tyX4 tyX4_ok nmX4 rfl rfl (by decide) q744 rfl (by decide +kernel) (b01_nar b01_0) (b01_fit b01_0) (by show 4 < 26; decide) dX4_declare_133 fl_4_4 eμ33 ?_
              refine aw_iload (pc := 136) C dX4_declare_136 0 rfl ?_
              cases h
              exact aw_iret (pc := 138) C dX4_declare_138
            refine aw_if_eq (pc := 112) C 119 dX4_declare_112 rfl (fun hd1 => ?_) (fun hd1 => ?_)
            · refine aw_iconst (pc := 119) C (v := 0) dX4_declare_119 rfl ?_
              rw [if_pos hd1] at kJ
              exact kJ
            · refine aw_iconst (pc := 115) C (v := 1) dX4_declare_115 rfl ?_
              refine aw_goto (pc := 116) C 120 dX4_declare_116 rfl ?_
              rw [if_neg hd1] at kJ
              exact kJ
          · replace h := ite_F h hc
            refine aw_iconst (pc := 60) C (v := 0) dX4_declare_60 rfl ?_
            cases h
            exact aw_iret (pc := 61) C dX4_declare_61
        refine aw_icmp_ne (pc := 42) C 49 dX4_declare_42 rfl (fun hd1 => ?_) (fun hd1 => ?_)
        · refine aw_iconst (pc := 49) C (v := 0) dX4_declare_49 rfl ?_
          rw [if_neg hd1] at kJ
          exact kJ
        · refine aw_iconst (pc := 45) C (v := 3) dX4_declare_45 rfl ?_
          refine aw_goto (pc := 46) C 50 dX4_declare_46 rfl ?_
          rw [if_pos hd1] at kJ
          exact kJ
      · replace h := ite_F h hc
        refine aw_sub [0, 1, 2, 3] rfl ?_
        exact ok_X4_declare_j30 C hex h
  · replace h := ite_T h hc
    refine aw_iconst (pc := 9) C (v := 1) dX4_declare_9 rfl ?_
    refine aw_goto (pc := 10) C 50 dX4_declare_10 rfl ?_
    refine aw_sub [0, 1, 2, 3] rfl ?_
    exact ok_X4_declare_j50 C hex h
/-! ### NameScopesModel.mix(J)V -/
theorem ok_X4_mix {l : Launch} (htr : l.stackTraces = false) {v1 : Int64} {μ : Mm} {r : Mm}  (h : X4_mix v1 μ = some r) : MetX l yX4_mix cX4_mix 3 none 0 (fun ad => [.ref (ad 45), .long v1]) μ (.inr none) r := by
  refine MetX.of htr (by decide) rfl (fun ad => Nat.le_of_ble_eq_true rfl) (fun p e s m args below meth c D cI cL ad C hex hw => ?_)
  show AV l p e s m args below meth c D cI cL ad 0 3 (.inr none) r 0 [(0, .ref (ad 45)), (1, .long v1)] [] μ
  unfold X4_mix at h
  refine aw_aload_n (pc := 0) C dX4_mix_0 rfl 0 rfl ?_
  refine aw_ldc2_w (pc := 1) C dX4_mix_1 q1162 ?_
  refine aw_aload_n (pc := 4) C dX4_mix_4 rfl 0 rfl ?_
  refine aw_get (pc := 5) C (a := 45) (k := 25) (v := .long (mH μ)) inX4 rfl rfl (by decide) q765 dX4_mix_5 rfl ?_
  refine aw_lmul (pc := 8) C dX4_mix_8 ?_
  refine aw_lload_n (pc := 9) C dX4_mix_9 rfl 1 rfl ?_
  refine aw_ladd (pc := 10) C dX4_mix_10 ?_
  obtain ⟨μ1, eμ1, h⟩ := bd_some h
  refine aw_putV (pc := 11) C (μ' := μ1) (a := 45) (k := 25) (ty := .long) inX4 tyX4 tyX4_ok nmX4 rfl rfl (by decide) q765 rfl (by decide +kernel) rfl rfl (by show 25 < 26; decide) dX4_mix_11 (fun q => by subst eμ1; exact q) (by subst eμ1; exact ws_h) ?_
  cases h
  exact aw_vret (pc := 14) C dX4_mix_14
/-! ### NameScopesModel.seen(IZ)I -/
theorem ok_X4_seen_l5 {l : Launch} {p : Program} {e : Env} {s : State} {m : MethodId} {args : Array Value} {below : List Frame} {meth : Method} {c : Code} {D : va_G} {cI cL : ClassId} {ad : Nat → Nat} (C : CX p l s m args meth c RX4 cX4_seen 6 (some .int) D cI cL (AA ad s.heap.size)) (hex : ∀ x ∈ c.exceptionTable.toList, False) {r : (Int32 × Mm)} {v1 : Int32} {v2 : Int32} {k5 : Int32 → Int32 → Mm → Option (Int32 × Mm)} (hk5 : ∀ (v3 : Int32) (v4 : Int32) (μ : Mm), k5 v3 v4 μ = some r → AV l p e s m args below meth c D cI cL ad 7 6 (.inr (some (.int r.1))) r.2 5 [(0, .ref (ad 45)), (1, .int v1), (2, .int v2), (3, .int v3), (4, .int v4)] [] μ) {v3 : Int32} {v4 : Int32} {μ : Mm}  (h : X4_seen_l5 v1 v2 k5 v3 v4 μ = some r) : AV l p e s m args below meth c D cI cL ad 7 6 (.inr (some (.int r.1))) r.2 5 [(0, .ref (ad 45)), (1, .int v1), (2, .int v2), (3, .int v3), (4, .int v4)] [] μ := by
  unfold X4_seen_l5 at h
  refine aw_iload (pc := 5) C dX4_seen_5 4 rfl ?_
  refine aw_bipush (pc := 7) C (v := 26) dX4_seen_7 rfl ?_
  refine aw_icmp_ge (pc := 9) C 60 dX4_seen_9 rfl (fun hc => ?_) (fun hc => ?_)
  · replace h := ite_T h hc
    refine aw_iload_n (pc := 60) C dX4_seen_60 rfl 3 rfl ?_
    cases h
    exact aw_iret (pc := 61) C dX4_seen_61
  · replace h := ite_F h hc
    refine aw_aload_n (pc := 12) C dX4_seen_12 rfl 0 rfl ?_
    refine aw_iload_n (pc := 13) C dX4_seen_13 rfl 1 rfl ?_
    refine aw_iload (pc := 14) C dX4_seen_14 4 rfl ?_
    obtain ⟨q2, μ3, hq1, h⟩ := bn_some h
    refine aw_Vi (pc := 16) (a := 45) (Bs := [.int v1, .int v4]) C (ok_X4_outcome C.tr hq1) kv_X4_outcome q898 rfl rfl rfl rfl dX4_seen_16 ⟨(show 7 ≤ 7 by decide), (show 208 ≤ 217 by decide)⟩ ⟨Nat.zero_le _, Nat.zero_le _⟩ [] (Nat.le_of_ble_eq_true rfl) rfl ?_
    obtain ⟨q5, hq4, h⟩ := bi_some h
    refine aw_Si (pc := 19) (Bs := [.int q2]) C (ok_X4_bits C.tr hq4) kv_X4_bits q1019 rfl rfl dX4_seen_19 ⟨(show 1 ≤ 7 by decide), (show 22 ≤ 217 by decide)⟩ ⟨Nat.zero_le _, Nat.zero_le _⟩ [] (Nat.le_of_ble_eq_true rfl) rfl ?_
    refine aw_istore (pc := 22) C (x := q5) (lv' := [(5, .int q5), (0, .ref (ad 45)), (1, .int v1), (2, .int v2), (3, .int v3), (4, .int v4)]) dX4_seen_22 (by decide) rfl rfl ?_
    refine aw_iload_n (pc := 24) C dX4_seen_24 rfl 4 rfl ?_
    refine aw_iload_n (pc := 25) C dX4_seen_25 rfl 3 rfl ?_
    have kJ : AV l p e s m args below meth c D cI cL ad 7 6 (.inr (some (.int r.1))) r.2 52 [(5, .int q5), (0, .ref (ad 45)), (1, .int v1), (2, .int v2), (3, .int v3), (4, .int v4)] [.int (if v2 = 0 then ((if q5 = 1 then ((1 <<< (v4 &&& 31)) : Int32) else 0) : Int32) else (if q5 ≤ 1 then (0 : Int32) else (1 <<< (v4 &&& 31)))), .int v3] μ3 := by
      refine aw_ior (pc := 52) C dX4_seen_52 ?_
      obtain ⟨x6, ex6, h⟩ := bd_some h
      refine aw_istore_n (pc := 53) C (x := x6) (lv' := [(3, .int x6), (5, .int q5), (0, .ref (ad 45)), (1, .int v1), (2, .int v2), (4, .int v4)]) dX4_seen_53 rfl (by decide) ex6 rfl ?_
      refine aw_iinc (pc := 54) C (v := (v4 + 1)) (lv' := [(4, .int (v4 + 1)), (3, .int x6), (5, .int q5), (0, .ref (ad 45)), (1, .int v1), (2, .int v2)]) dX4_seen_54 5 rfl (by decide) rfl rfl ?_
      refine aw_goto (pc := 57) C 5 dX4_seen_57 rfl ?_
      refine aw_sub [3, 4, 5, 1, 0] rfl ?_
      exact hk5 x6 (v4 + 1) μ3 h
    refine aw_if_eq (pc := 26) C 38 dX4_seen_26 rfl (fun hd1 => ?_) (fun hd1 => ?_)
    · refine aw_iload (pc := 38) C dX4_seen_38 0 rfl ?_
      refine aw_iconst (pc := 40) C (v := 1) dX4_seen_40 rfl ?_
      refine aw_icmp_ne (pc := 41) C 51 dX4_seen_41 rfl (fun hd2 => ?_) (fun hd2 => ?_)
      · refine aw_iconst (pc := 51) C (v := 0) dX4_seen_51 rfl ?_
        rw [if_pos hd1, if_neg hd2] at kJ
        exact kJ
      · refine aw_iconst (pc := 44) C (v := 1) dX4_seen_44 rfl ?_
        refine aw_iload (pc := 45) C dX4_seen_45 5 rfl ?_
        refine aw_ishl (pc := 47) C dX4_seen_47 ?_
        refine aw_goto (pc := 48) C 52 dX4_seen_48 rfl ?_
        rw [if_pos hd1, if_pos hd2] at kJ
        exact kJ
    · refine aw_iload (pc := 29) C dX4_seen_29 0 rfl ?_
      refine aw_iconst (pc := 31) C (v := 1) dX4_seen_31 rfl ?_
      refine aw_icmp_le (pc := 32) C 51 dX4_seen_32 rfl (fun hd3 => ?_) (fun hd3 => ?_)
      · refine aw_iconst (pc := 51) C (v := 0) dX4_seen_51 rfl ?_
        rw [if_neg hd1, if_pos hd3] at kJ
        exact kJ
      · refine aw_goto (pc := 35) C 44 dX4_seen_35 rfl ?_
        refine aw_iconst (pc := 44) C (v := 1) dX4_seen_44 rfl ?_
        refine aw_iload (pc := 45) C dX4_seen_45 5 rfl ?_
        refine aw_ishl (pc := 47) C dX4_seen_47 ?_
        refine aw_goto (pc := 48) C 52 dX4_seen_48 rfl ?_
        rw [if_neg hd1, if_neg hd3] at kJ
        exact kJ
theorem ok_X4_seen_l5_w {l : Launch} {p : Program} {e : Env} {s : State} {m : MethodId} {args : Array Value} {below : List Frame} {meth : Method} {c : Code} {D : va_G} {cI cL : ClassId} {ad : Nat → Nat} (C : CX p l s m args meth c RX4 cX4_seen 6 (some .int) D cI cL (AA ad s.heap.size)) (hex : ∀ x ∈ c.exceptionTable.toList, False) {r : (Int32 × Mm)} {v1 : Int32} {v2 : Int32} : ∀ (n : Nat) (v3 : Int32) (v4 : Int32) (μ : Mm) , itr (X4_seen_l5 v1 v2) (fun _ _ _ => none) n v3 v4 μ = some r → AV l p e s m args below meth c D cI cL ad 7 6 (.inr (some (.int r.1))) r.2 5 [(0, .ref (ad 45)), (1, .int v1), (2, .int v2), (3, .int v3), (4, .int v4)] [] μ := by
  intro n
  induction n with
  | zero => intro v3 v4 μ h; exact nomatch (show (none : Option (Int32 × Mm)) = some r from h)
  | succ n ih => intro v3 v4 μ h; exact ok_X4_seen_l5 C hex (v1 := v1) (v2 := v2) ih h
theorem ok_X4_seen {l : Launch} (htr : l.stackTraces = false) {v1 : Int32} {v2 : Int32} {μ : Mm} {r : (Int32 × Mm)}  (h : X4_seen v1 v2 μ = some r) : MetX l yX4_seen cX4_seen 6 (some .int) 7 (fun ad => [.ref (ad 45), .int v1, .int v2]) μ (.inr (some (.int r.1))) r.2 := by
  refine MetX.of htr (by decide) rfl (fun ad => Nat.le_of_ble_eq_true rfl) (fun p e s m args below meth c D cI cL ad C hex hw => ?_)
  show AV l p e s m args below meth c D cI cL ad 7 6 (.inr (some (.int r.1))) r.2 0 [(0, .ref (ad 45)), (1, .int v1), (2, .int v2)] [] μ
  unfold X4_seen at h
  refine aw_iconst (pc := 0) C (v := 0) dX4_seen_0 rfl ?_
  refine aw_istore_n (pc := 1) C (x := 0) (lv' := [(3, .int 0), (0, .ref (ad 45)), (1, .int v1), (2, .int v2)]) dX4_seen_1 rfl (by decide) rfl rfl ?_
  refine aw_iconst (pc := 2) C (v := 0) dX4_seen_2 rfl ?_
  refine aw_istore (pc := 3) C (x := 0) (lv' := [(4, .int 0), (3, .int 0), (0, .ref (ad 45)), (1, .int v1), (2, .int v2)]) dX4_seen_3 (by decide) rfl rfl ?_
  refine aw_sub [2, 3, 4, 1, 0] rfl ?_
  exact ok_X4_seen_l5_w C hex big 0 0 μ h
/-! ### NameScopesModel.importNow(II)I -/
theorem ok_X4_importNow {l : Launch} (htr : l.stackTraces = false) {v1 : Int32} {v2 : Int32} {μ : Mm} {r : (Int32 × Mm)}  (h : X4_importNow v1 v2 μ = some r) : MetX l yX4_importNow cX4_importNow 3 (some .int) 10 (fun ad => [.ref (ad 45), .int v1, .int v2]) μ (.inr (some (.int r.1))) r.2 := by
  refine MetX.of htr (by decide) rfl (fun ad => Nat.le_of_ble_eq_true rfl) (fun p e s m args below meth c D cI cL ad C hex hw => ?_)
  show AV l p e s m args below meth c D cI cL ad 10 3 (.inr (some (.int r.1))) r.2 0 [(0, .ref (ad 45)), (1, .int v1), (2, .int v2)] [] μ
  unfold X4_importNow at h
  refine aw_iload_n (pc := 0) C dX4_importNow_0 rfl 2 rfl ?_
  refine aw_bipush (pc := 1) C (v := 6) dX4_importNow_1 rfl ?_
  refine aw_icmp_ge (pc := 3) C 15 dX4_importNow_3 rfl (fun hc => ?_) (fun hc => ?_)
  · replace h := ite_T h hc
    refine aw_iload_n (pc := 15) C dX4_importNow_15 rfl 2 rfl ?_
    refine aw_bipush (pc := 16) C (v := 6) dX4_importNow_16 rfl ?_
    refine aw_icmp_ne (pc := 18) C 29 dX4_importNow_18 rfl (fun hc => ?_) (fun hc => ?_)
    · replace h := ite_F h hc
      refine aw_aload_n (pc := 29) C dX4_importNow_29 rfl 0 rfl ?_
      refine aw_iload_n (pc := 30) C dX4_importNow_30 rfl 1 rfl ?_
      obtain ⟨q2, μ3, hq1, h⟩ := bn_some h
      refine aw_Vi (pc := 31) (a := 45) (Bs := [.int v1]) C (ok_X4_without C.tr hq1) kv_X4_without q1097 rfl rfl rfl rfl dX4_importNow_31 ⟨(show 10 ≤ 10 by decide), (show 301 ≤ 310 by decide)⟩ ⟨Nat.zero_le _, Nat.zero_le _⟩ [] (Nat.le_of_ble_eq_true rfl) rfl ?_
      cases h
      exact aw_iret (pc := 34) C dX4_importNow_34
    · replace h := ite_T h hc
      refine aw_aload_n (pc := 21) C dX4_importNow_21 rfl 0 rfl ?_
      refine aw_iload_n (pc := 22) C dX4_importNow_22 rfl 1 rfl ?_
      obtain ⟨q5, μ6, hq4, h⟩ := bn_some h
      refine aw_Vi (pc := 23) (a := 45) (Bs := [.int v1]) C (ok_X4_pairsOf C.tr hq4) kv_X4_pairsOf q1093 rfl rfl rfl rfl dX4_importNow_23 ⟨(show 6 ≤ 10 by decide), (show 178 ≤ 310 by decide)⟩ ⟨Nat.zero_le _, Nat.zero_le _⟩ [] (Nat.le_of_ble_eq_true rfl) rfl ?_
      refine aw_goto (pc := 26) C 34 dX4_importNow_26 rfl ?_
      cases h
      exact aw_iret (pc := 34) C dX4_importNow_34
  · replace h := ite_F h hc
    refine aw_aload_n (pc := 6) C dX4_importNow_6 rfl 0 rfl ?_
    refine aw_iload_n (pc := 7) C dX4_importNow_7 rfl 1 rfl ?_
    refine aw_iload_n (pc := 8) C dX4_importNow_8 rfl 2 rfl ?_
    obtain ⟨q8, hq7, h⟩ := bi_some h
    refine aw_Vi (pc := 9) (a := 45) (Bs := [.int v1, .int v2]) C (ok_X4_at C.tr hq7) kv_X4_at q914 rfl rfl rfl rfl dX4_importNow_9 ⟨(show 1 ≤ 10 by decide), (show 22 ≤ 310 by decide)⟩ ⟨Nat.zero_le _, Nat.zero_le _⟩ [] (Nat.le_of_ble_eq_true rfl) rfl ?_
    refine aw_goto (pc := 12) C 34 dX4_importNow_12 rfl ?_
    cases h
    exact aw_iret (pc := 34) C dX4_importNow_34
/-! ### NameScopesModel.lowest(I)I -/
theorem ok_X4_lowest_l2 {l : Launch} {p : Program} {e : Env} {s : State} {m : MethodId} {args : Array Value} {below : List Frame} {meth : Method} {c : Code} {D : va_G} {cI cL : ClassId} {ad : Nat → Nat} (C : CX p l s m args meth c RX4 cX4_lowest 2 (some .int) D cI cL (AA ad s.heap.size)) (hex : ∀ x ∈ c.exceptionTable.toList, False) {r : Int32} {v0 : Int32} {μ : Mm} {k2 : Int32 → Option Int32} (hk2 : ∀ (v1 : Int32), k2 v1 = some r → AV l p e s m args below meth c D cI cL ad 0 2 (.inr (some (.int r))) μ 2 [(0, .int v0), (1, .int v1)] [] μ) {v1 : Int32}  (h : X4_lowest_l2 v0 k2 v1 = some r) : AV l p e s m args below meth c D cI cL ad 0 2 (.inr (some (.int r))) μ 2 [(0, .int v0), (1, .int v1)] [] μ := by
  unfold X4_lowest_l2 at h
  refine aw_iload_n (pc := 2) C dX4_lowest_2 rfl 0 rfl ?_
  refine aw_iload_n (pc := 3) C dX4_lowest_3 rfl 1 rfl ?_
  refine aw_ishr (pc := 4) C dX4_lowest_4 ?_
  refine aw_iconst (pc := 5) C (v := 1) dX4_lowest_5 rfl ?_
  refine aw_iand (pc := 6) C dX4_lowest_6 ?_
  refine aw_if_ne (pc := 7) C 16 dX4_lowest_7 rfl (fun hc => ?_) (fun hc => ?_)
  · replace h := ite_F h hc
    refine aw_iload_n (pc := 16) C dX4_lowest_16 rfl 1 rfl ?_
    cases h
    exact aw_iret (pc := 17) C dX4_lowest_17
  · replace h := ite_T h hc
    refine aw_iinc (pc := 10) C (v := (v1 + 1)) (lv' := [(1, .int (v1 + 1)), (0, .int v0)]) dX4_lowest_10 1 rfl (by decide) rfl rfl ?_
    refine aw_goto (pc := 13) C 2 dX4_lowest_13 rfl ?_
    refine aw_sub [1, 0] rfl ?_
    exact hk2 (v1 + 1) h
theorem ok_X4_lowest_l2_w {l : Launch} {p : Program} {e : Env} {s : State} {m : MethodId} {args : Array Value} {below : List Frame} {meth : Method} {c : Code} {D : va_G} {cI cL : ClassId} {ad : Nat → Nat} (C : CX p l s m args meth c RX4 cX4_lowest 2 (some .int) D cI cL (AA ad s.heap.size)) (hex : ∀ x ∈ c.exceptionTable.toList, False) {r : Int32} {v0 : Int32} {μ : Mm} : ∀ (n : Nat) (v1 : Int32) , itr (X4_lowest_l2 v0) (fun _ => none) n v1 = some r → AV l p e s m args below meth c D cI cL ad 0 2 (.inr (some (.int r))) μ 2 [(0, .int v0), (1, .int v1)] [] μ := by
  intro n
  induction n with
  | zero => intro v1 h; exact nomatch (show (none : Option Int32) = some r from h)
  | succ n ih => intro v1 h; exact ok_X4_lowest_l2 C hex (v0 := v0) ih h
theorem ok_X4_lowest {l : Launch} (htr : l.stackTraces = false) {v0 : Int32} {μ : Mm} {r : Int32}  (h : X4_lowest v0 = some r) : MetX l yX4_lowest cX4_lowest 2 (some .int) 0 (fun ad => [.int v0]) μ (.inr (some (.int r))) μ := by
  refine MetX.of htr (by decide) rfl (fun ad => Nat.le_of_ble_eq_true rfl) (fun p e s m args below meth c D cI cL ad C hex hw => ?_)
  show AV l p e s m args below meth c D cI cL ad 0 2 (.inr (some (.int r))) μ 0 [(0, .int v0)] [] μ
  unfold X4_lowest at h
  refine aw_iconst (pc := 0) C (v := 0) dX4_lowest_0 rfl ?_
  refine aw_istore_n (pc := 1) C (x := 0) (lv' := [(1, .int 0), (0, .int v0)]) dX4_lowest_1 rfl (by decide) rfl rfl ?_
  refine aw_sub [1, 0] rfl ?_
  exact ok_X4_lowest_l2_w C hex big 0 h
/-! ### NameScopesModel.only(I)I -/
theorem ok_X4_only {l : Launch} (htr : l.stackTraces = false) {v0 : Int32} {μ : Mm} {r : Int32}  (h : X4_only v0 = some r) : MetX l yX4_only cX4_only 1 (some .int) 1 (fun ad => [.int v0]) μ (.inr (some (.int r))) μ := by
  refine MetX.of htr (by decide) rfl (fun ad => Nat.le_of_ble_eq_true rfl) (fun p e s m args below meth c D cI cL ad C hex hw => ?_)
  show AV l p e s m args below meth c D cI cL ad 1 1 (.inr (some (.int r))) μ 0 [(0, .int v0)] [] μ
  unfold X4_only at h
  refine aw_iload_n (pc := 0) C dX4_only_0 rfl 0 rfl ?_
  obtain ⟨q2, hq1, h⟩ := bi_some h
  refine aw_Si (pc := 1) (Bs := [.int v0]) C (ok_X4_bits C.tr hq1) kv_X4_bits q1019 rfl rfl dX4_only_1 ⟨(show 1 ≤ 1 by decide), (show 22 ≤ 31 by decide)⟩ ⟨Nat.zero_le _, Nat.zero_le _⟩ [] (Nat.le_of_ble_eq_true rfl) rfl ?_
  refine aw_iconst (pc := 4) C (v := 1) dX4_only_4 rfl ?_
  refine aw_icmp_ne (pc := 5) C 15 dX4_only_5 rfl (fun hc => ?_) (fun hc => ?_)
  · replace h := ite_F h hc
    refine aw_iconst (pc := 15) C (v := (-1)) dX4_only_15 rfl ?_
    cases h
    exact aw_iret (pc := 16) C dX4_only_16
  · replace h := ite_T h hc
    refine aw_iload_n (pc := 8) C dX4_only_8 rfl 0 rfl ?_
    obtain ⟨q4, hq3, h⟩ := bi_some h
    refine aw_Si (pc := 9) (Bs := [.int v0]) C (ok_X4_lowest C.tr hq3) kv_X4_lowest q1022 rfl rfl dX4_only_9 ⟨(show 1 ≤ 1 by decide), (show 21 ≤ 31 by decide)⟩ ⟨Nat.zero_le _, Nat.zero_le _⟩ [] (Nat.le_of_ble_eq_true rfl) rfl ?_
    refine aw_goto (pc := 12) C 16 dX4_only_12 rfl ?_
    cases h
    exact aw_iret (pc := 16) C dX4_only_16
/-! ### NameScopesModel.useNow(II)I -/
theorem ok_X4_useNow {l : Launch} (htr : l.stackTraces = false) {v1 : Int32} {v2 : Int32} {μ : Mm} {r : (Int32 × Mm)}  (h : X4_useNow v1 v2 μ = some r) : MetX l yX4_useNow cX4_useNow 4 (some .int) 8 (fun ad => [.ref (ad 45), .int v1, .int v2]) μ (.inr (some (.int r.1))) r.2 := by
  refine MetX.of htr (by decide) rfl (fun ad => Nat.le_of_ble_eq_true rfl) (fun p e s m args below meth c D cI cL ad C hex hw => ?_)
  show AV l p e s m args below meth c D cI cL ad 8 4 (.inr (some (.int r.1))) r.2 0 [(0, .ref (ad 45)), (1, .int v1), (2, .int v2)] [] μ
  unfold X4_useNow at h
  refine aw_iload_n (pc := 0) C dX4_useNow_0 rfl 2 rfl ?_
  refine aw_iconst (pc := 1) C (v := 2) dX4_useNow_1 rfl ?_
  refine aw_icmp_ge (pc := 2) C 20 dX4_useNow_2 rfl (fun hc => ?_) (fun hc => ?_)
  · replace h := ite_T h hc
    refine aw_aload_n (pc := 20) C dX4_useNow_20 rfl 0 rfl ?_
    refine aw_iload_n (pc := 21) C dX4_useNow_21 rfl 1 rfl ?_
    obtain ⟨q2, μ3, hq1, h⟩ := bn_some h
    refine aw_Vi (pc := 22) (a := 45) (Bs := [.int v1]) C (ok_X4_outcomeOf C.tr hq1) kv_X4_outcomeOf q886 rfl rfl rfl rfl dX4_useNow_22 ⟨(show 8 ≤ 8 by decide), (show 238 ≤ 248 by decide)⟩ ⟨Nat.zero_le _, Nat.zero_le _⟩ [] (Nat.le_of_ble_eq_true rfl) rfl ?_
    refine aw_istore_n (pc := 25) C (x := q2) (lv' := [(3, .int q2), (0, .ref (ad 45)), (1, .int v1), (2, .int v2)]) dX4_useNow_25 rfl (by decide) rfl rfl ?_
    refine aw_iload_n (pc := 26) C dX4_useNow_26 rfl 3 rfl ?_
    refine aw_iconst (pc := 27) C (v := 2) dX4_useNow_27 rfl ?_
    refine aw_icmp_ne (pc := 28) C 38 dX4_useNow_28 rfl (fun hc => ?_) (fun hc => ?_)
    · replace h := ite_F h hc
      refine aw_iload_n (pc := 38) C dX4_useNow_38 rfl 0 rfl ?_
      obtain ⟨q5, hq4, h⟩ := bi_some h
      refine aw_Si (pc := 39) (Bs := [.int q2]) C (ok_X4_bits C.tr hq4) kv_X4_bits q1019 rfl rfl dX4_useNow_39 ⟨(show 1 ≤ 8 by decide), (show 22 ≤ 248 by decide)⟩ ⟨Nat.zero_le _, Nat.zero_le _⟩ [] (Nat.le_of_ble_eq_true rfl) rfl ?_
      refine aw_iconst (pc := 42) C (v := 1) dX4_useNow_42 rfl ?_
      refine aw_icmp_ne (pc := 43) C 50 dX4_useNow_43 rfl (fun hc => ?_) (fun hc => ?_)
      · replace h := ite_F h hc
        refine aw_iload_n (pc := 50) C dX4_useNow_50 rfl 0 rfl ?_
        refine aw_if_ne (pc := 51) C 58 dX4_useNow_51 rfl (fun hc => ?_) (fun hc => ?_)
        · replace h := ite_F h hc
          refine aw_aload_n (pc := 58) C dX4_useNow_58 rfl 1 rfl ?_
          refine aw_get (pc := 59) C (a := 45) (k := 9) (v := .ref (ad 51)) inX4 rfl rfl (by decide) q749 dX4_useNow_59 rfl ?_
          refine aw_iconst (pc := 62) C (v := 0) dX4_useNow_62 rfl ?_
          obtain ⟨g6, h⟩ := ck_some h
          refine aw_iaload (pc := 63) C (a := 51) rfl g6 dX4_useNow_63 ?_
          refine aw_iconst (pc := 64) C (v := 1) dX4_useNow_64 rfl ?_
          refine aw_iadd (pc := 65) C dX4_useNow_65 ?_
          cases h
          exact aw_iret (pc := 66) C dX4_useNow_66
        · replace h := ite_T h hc
          refine aw_iconst (pc := 54) C (v := 1) dX4_useNow_54 rfl ?_
          refine aw_goto (pc := 55) C 66 dX4_useNow_55 rfl ?_
          cases h
          exact aw_iret (pc := 66) C dX4_useNow_66
      · replace h := ite_T h hc
        refine aw_iconst (pc := 46) C (v := 0) dX4_useNow_46 rfl ?_
        refine aw_goto (pc := 47) C 66 dX4_useNow_47 rfl ?_
        cases h
        exact aw_iret (pc := 66) C dX4_useNow_66
    · replace h := ite_T h hc
      refine aw_iload_n (pc := 31) C dX4_useNow_31 rfl 0 rfl ?_
      obtain ⟨q8, hq7, h⟩ := bi_some h
      refine aw_Si (pc := 32) (Bs := [.int q2]) C (ok_X4_only C.tr hq7) kv_X4_only q1016 rfl rfl dX4_useNow_32 ⟨(show 2 ≤ 8 by decide), (show 51 ≤ 248 by decide)⟩ ⟨Nat.zero_le _, Nat.zero_le _⟩ [] (Nat.le_of_ble_eq_true rfl) rfl ?_
      refine aw_goto (pc := 35) C 66 dX4_useNow_35 rfl ?_
      cases h
      exact aw_iret (pc := 66) C dX4_useNow_66
  · replace h := ite_F h hc
    refine aw_aload_n (pc := 5) C dX4_useNow_5 rfl 0 rfl ?_
    refine aw_get (pc := 6) C (a := 45) (k := 1) (v := .ref (ad 46)) inX4 rfl rfl (by decide) q741 dX4_useNow_6 rfl ?_
    refine aw_sipush (pc := 9) C (v := 230) dX4_useNow_9 rfl ?_
    refine aw_iconst (pc := 12) C (v := 2) dX4_useNow_12 rfl ?_
    refine aw_iload_n (pc := 13) C dX4_useNow_13 rfl 1 rfl ?_
    refine aw_imul (pc := 14) C dX4_useNow_14 ?_
    refine aw_iadd (pc := 15) C dX4_useNow_15 ?_
    refine aw_iload_n (pc := 16) C dX4_useNow_16 rfl 2 rfl ?_
    refine aw_iadd (pc := 17) C dX4_useNow_17 ?_
    obtain ⟨g9, h⟩ := ck_some h
    refine aw_iaload (pc := 18) C (a := 46) rfl g9 dX4_useNow_18 ?_
    cases h
    exact aw_iret (pc := 19) C dX4_useNow_19
