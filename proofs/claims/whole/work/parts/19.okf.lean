/-! ### NameScopesModel.rename(II)I -/
theorem ok_X4_rename_j25 {l : Launch} {p : Program} {e : Env} {s : State} {m : MethodId} {args : Array Value} {below : List Frame} {meth : Method} {c : Code} {D : va_G} {cI cL : ClassId} {ad : Nat → Nat} (C : CX p l s m args meth c RX4 cX4_rename 3 (some .int) D cI cL (AA ad s.heap.size)) (hex : ∀ x ∈ c.exceptionTable.toList, False) {r : (Int32 × Mm)} {v1 : Int32} {v2 : Int32} {s0 : Int32} {μ : Mm}  (h : X4_rename_j25 v1 v2 s0 μ = some r) : AV l p e s m args below meth c D cI cL ad 10 3 (.inr (some (.int r.1))) r.2 25 [(0, .ref (ad 45)), (1, .int v1), (2, .int v2)] [.int s0, .ref (ad 45)] μ := by
  unfold X4_rename_j25 at h
  obtain ⟨μ9, eμ9, h⟩ := bd_some h
  refine aw_putI (pc := 25) C (a := 45) (k := 0) (ty := .int) inX4 tyX4 tyX4_ok nmX4 rfl rfl (by decide) q740 rfl (by decide +kernel) rfl rfl (by show 0 < 26; decide) dX4_rename_25 fl_4_0 eμ9 ?_
  refine aw_aload_n (pc := 28) C dX4_rename_28 rfl 0 rfl ?_
  refine aw_get (pc := 29) C (a := 45) (k := 0) (v := .int (μ9.1 45 0)) inX4 rfl rfl (by decide) q740 dX4_rename_29 rfl ?_
  refine aw_if_le (pc := 32) C 39 dX4_rename_32 rfl (fun hc => ?_) (fun hc => ?_)
  · replace h := ite_T h hc
    refine aw_aload_n (pc := 39) C dX4_rename_39 rfl 0 rfl ?_
    refine aw_iload_n (pc := 40) C dX4_rename_40 rfl 1 rfl ?_
    refine aw_iload_n (pc := 41) C dX4_rename_41 rfl 2 rfl ?_
    refine aw_iconst (pc := 42) C (v := 0) dX4_rename_42 rfl ?_
    obtain ⟨q11, μ12, hq10, h⟩ := bn_some h
    refine aw_Vi (pc := 43) (a := 45) (Bs := [.int v1, .int v2, .int 0]) C (ok_X4_renames C.tr hq10) kv_X4_renames q1053 rfl rfl rfl rfl dX4_rename_43 ⟨(show 10 ≤ 10 by decide), (show 306 ≤ 310 by decide)⟩ ⟨Nat.zero_le _, Nat.zero_le _⟩ [] (Nat.le_of_ble_eq_true rfl) rfl ?_
    cases h
    exact aw_iret (pc := 46) C dX4_rename_46
  · replace h := ite_F h hc
    refine aw_iconst (pc := 35) C (v := 0) dX4_rename_35 rfl ?_
    refine aw_goto (pc := 36) C 46 dX4_rename_36 rfl ?_
    cases h
    exact aw_iret (pc := 46) C dX4_rename_46
theorem ok_X4_rename {l : Launch} (htr : l.stackTraces = false) {v1 : Int32} {v2 : Int32} {μ : Mm} {r : (Int32 × Mm)}  (h : X4_rename v1 v2 μ = some r) : MetX l yX4_rename cX4_rename 3 (some .int) 10 (fun ad => [.ref (ad 45), .int v1, .int v2]) μ (.inr (some (.int r.1))) r.2 := by
  refine MetX.of htr (by decide) rfl (fun ad => Nat.le_of_ble_eq_true rfl) (fun p e s m args below meth c D cI cL ad C hex hw => ?_)
  show AV l p e s m args below meth c D cI cL ad 10 3 (.inr (some (.int r.1))) r.2 0 [(0, .ref (ad 45)), (1, .int v1), (2, .int v2)] [] μ
  unfold X4_rename at h
  refine aw_aload_n (pc := 0) C dX4_rename_0 rfl 0 rfl ?_
  refine aw_aload_n (pc := 1) C dX4_rename_1 rfl 0 rfl ?_
  refine aw_iload_n (pc := 2) C dX4_rename_2 rfl 1 rfl ?_
  obtain ⟨q2, hq1, h⟩ := bi_some h
  refine aw_Vi (pc := 3) (a := 45) (Bs := [.int v1]) C (ok_X4_isDeclaration C.tr hq1) kv_X4_isDeclaration q1049 rfl rfl rfl rfl dX4_rename_3 ⟨(show 2 ≤ 10 by decide), (show 52 ≤ 310 by decide)⟩ ⟨Nat.zero_le _, Nat.zero_le _⟩ [.ref (ad 45)] (Nat.le_of_ble_eq_true rfl) rfl ?_
  refine aw_if_ne (pc := 6) C 13 dX4_rename_6 rfl (fun hc => ?_) (fun hc => ?_)
  · replace h := ite_F h hc
    refine aw_iload_n (pc := 13) C dX4_rename_13 rfl 2 rfl ?_
    obtain ⟨q4, hq3, h⟩ := bi_some h
    refine aw_Si (pc := 14) (Bs := [.int v2]) C (ok_X4_isName C.tr hq3) kv_X4_isName q842 rfl rfl dX4_rename_14 ⟨(show 2 ≤ 10 by decide), (show 51 ≤ 310 by decide)⟩ ⟨Nat.zero_le _, Nat.zero_le _⟩ [.ref (ad 45)] (Nat.le_of_ble_eq_true rfl) rfl ?_
    have kJ : AV l p e s m args below meth c D cI cL ad 10 3 (.inr (some (.int r.1))) r.2 25 [(0, .ref (ad 45)), (1, .int v1), (2, .int v2)] [.int (if q4 = 0 then (2 : Int32) else 0), .ref (ad 45)] μ := by
      obtain ⟨μ5, eμ5, h⟩ := bd_some h
      refine aw_putI (pc := 25) C (a := 45) (k := 0) (ty := .int) inX4 tyX4 tyX4_ok nmX4 rfl rfl (by decide) q740 rfl (by decide +kernel) rfl rfl (by show 0 < 26; decide) dX4_rename_25 fl_4_0 eμ5 ?_
      refine aw_aload_n (pc := 28) C dX4_rename_28 rfl 0 rfl ?_
      refine aw_get (pc := 29) C (a := 45) (k := 0) (v := .int (μ5.1 45 0)) inX4 rfl rfl (by decide) q740 dX4_rename_29 rfl ?_
      refine aw_if_le (pc := 32) C 39 dX4_rename_32 rfl (fun hc => ?_) (fun hc => ?_)
      · replace h := ite_T h hc
        refine aw_aload_n (pc := 39) C dX4_rename_39 rfl 0 rfl ?_
        refine aw_iload_n (pc := 40) C dX4_rename_40 rfl 1 rfl ?_
        refine aw_iload_n (pc := 41) C dX4_rename_41 rfl 2 rfl ?_
        refine aw_iconst (pc := 42) C (v := 0) dX4_rename_42 rfl ?_
        obtain ⟨q7, μ8, hq6, h⟩ := bn_some h
        refine aw_Vi (pc := 43) (a := 45) (Bs := [.int v1, .int v2, .int 0]) C (ok_X4_renames C.tr hq6) kv_X4_renames q1053 rfl rfl rfl rfl dX4_rename_43 ⟨(show 10 ≤ 10 by decide), (show 306 ≤ 310 by decide)⟩ ⟨Nat.zero_le _, Nat.zero_le _⟩ [] (Nat.le_of_ble_eq_true rfl) rfl ?_
        cases h
        exact aw_iret (pc := 46) C dX4_rename_46
      · replace h := ite_F h hc
        refine aw_iconst (pc := 35) C (v := 0) dX4_rename_35 rfl ?_
        refine aw_goto (pc := 36) C 46 dX4_rename_36 rfl ?_
        cases h
        exact aw_iret (pc := 46) C dX4_rename_46
    refine aw_if_eq (pc := 17) C 24 dX4_rename_17 rfl (fun hd1 => ?_) (fun hd1 => ?_)
    · refine aw_iconst (pc := 24) C (v := 2) dX4_rename_24 rfl ?_
      rw [if_pos hd1] at kJ
      exact kJ
    · refine aw_iconst (pc := 20) C (v := 0) dX4_rename_20 rfl ?_
      refine aw_goto (pc := 21) C 25 dX4_rename_21 rfl ?_
      rw [if_neg hd1] at kJ
      exact kJ
  · replace h := ite_T h hc
    refine aw_iconst (pc := 9) C (v := 1) dX4_rename_9 rfl ?_
    refine aw_goto (pc := 10) C 25 dX4_rename_10 rfl ?_
    refine aw_sub [0, 1, 2] rfl ?_
    exact ok_X4_rename_j25 C hex h
/-! ### NameScopesModel.resolved(III)I -/
theorem ok_X4_resolved {l : Launch} (htr : l.stackTraces = false) {v1 : Int32} {v2 : Int32} {v3 : Int32} {μ : Mm} {r : (Int32 × Mm)}  (h : X4_resolved v1 v2 v3 μ = some r) : MetX l yX4_resolved cX4_resolved 4 (some .int) 6 (fun ad => [.ref (ad 45), .int v1, .int v2, .int v3]) μ (.inr (some (.int r.1))) r.2 := by
  refine MetX.of htr (by decide) rfl (fun ad => Nat.le_of_ble_eq_true rfl) (fun p e s m args below meth c D cI cL ad C hex hw => ?_)
  show AV l p e s m args below meth c D cI cL ad 6 4 (.inr (some (.int r.1))) r.2 0 [(0, .ref (ad 45)), (1, .int v1), (2, .int v2), (3, .int v3)] [] μ
  unfold X4_resolved at h
  refine aw_aload_n (pc := 0) C dX4_resolved_0 rfl 0 rfl ?_
  refine aw_iload_n (pc := 1) C dX4_resolved_1 rfl 1 rfl ?_
  refine aw_iload_n (pc := 2) C dX4_resolved_2 rfl 2 rfl ?_
  obtain ⟨μ3, hq1, h⟩ := bi_some h
  refine aw_Vv (pc := 3) (a := 45) (Bs := [.int v1, .int v2]) C (ok_X4_layLayers C.tr hq1) kv_X4_layLayers q902 rfl rfl rfl rfl dX4_resolved_3 ⟨(show 6 ≤ 6 by decide), (show 181 ≤ 186 by decide)⟩ ⟨Nat.zero_le _, Nat.zero_le _⟩ [] (Nat.le_of_ble_eq_true rfl) rfl ?_
  refine aw_iload_n (pc := 6) C dX4_resolved_6 rfl 3 rfl ?_
  by_cases hs4 : v3 = 0
  · replace h := ite_T h hs4
    refine aw_tableIn (pc := 7) C 36 dX4_resolved_7 (by rw [hs4]; decide) (by rw [hs4]; decide) (by rw [hs4]; rfl) rfl ?_
    refine aw_aload_n (pc := 36) C dX4_resolved_36 rfl 0 rfl ?_
    refine aw_get (pc := 37) C (a := 45) (k := 7) (v := .int (μ3.1 45 7)) inX4 rfl rfl (by decide) q747 dX4_resolved_37 rfl ?_
    refine aw_if_ne (pc := 40) C 47 dX4_resolved_40 rfl (fun hc => ?_) (fun hc => ?_)
    · replace h := ite_F h hc
      refine aw_aload_n (pc := 47) C dX4_resolved_47 rfl 0 rfl ?_
      refine aw_get (pc := 48) C (a := 45) (k := 8) (v := .ref (ad 50)) inX4 rfl rfl (by decide) q748 dX4_resolved_48 rfl ?_
      refine aw_iconst (pc := 51) C (v := 0) dX4_resolved_51 rfl ?_
      obtain ⟨g5, h⟩ := ck_some h
      refine aw_iaload (pc := 52) C (a := 50) rfl g5 dX4_resolved_52 ?_
      obtain ⟨q7, hq6, h⟩ := bi_some h
      refine aw_Si (pc := 53) (Bs := [.int (μ3.1 50 (0 : Int32).toNatClampNeg)]) C (ok_X4_only C.tr hq6) kv_X4_only q1016 rfl rfl dX4_resolved_53 ⟨(show 2 ≤ 6 by decide), (show 51 ≤ 186 by decide)⟩ ⟨Nat.zero_le _, Nat.zero_le _⟩ [] (Nat.le_of_ble_eq_true rfl) rfl ?_
      cases h
      exact aw_iret (pc := 56) C dX4_resolved_56
    · replace h := ite_T h hc
      refine aw_iconst (pc := 43) C (v := (-1)) dX4_resolved_43 rfl ?_
      refine aw_goto (pc := 44) C 56 dX4_resolved_44 rfl ?_
      cases h
      exact aw_iret (pc := 56) C dX4_resolved_56
  replace h := ite_F h hs4
  by_cases hs8 : v3 = 1
  · replace h := ite_T h hs8
    refine aw_tableIn (pc := 7) C 57 dX4_resolved_7 (by rw [hs8]; decide) (by rw [hs8]; decide) (by rw [hs8]; rfl) rfl ?_
    refine aw_aload_n (pc := 57) C dX4_resolved_57 rfl 0 rfl ?_
    refine aw_get (pc := 58) C (a := 45) (k := 7) (v := .int (μ3.1 45 7)) inX4 rfl rfl (by decide) q747 dX4_resolved_58 rfl ?_
    refine aw_if_ne (pc := 61) C 68 dX4_resolved_61 rfl (fun hc => ?_) (fun hc => ?_)
    · replace h := ite_F h hc
      refine aw_aload_n (pc := 68) C dX4_resolved_68 rfl 0 rfl ?_
      refine aw_get (pc := 69) C (a := 45) (k := 8) (v := .ref (ad 50)) inX4 rfl rfl (by decide) q748 dX4_resolved_69 rfl ?_
      refine aw_iconst (pc := 72) C (v := 0) dX4_resolved_72 rfl ?_
      obtain ⟨g9, h⟩ := ck_some h
      refine aw_iaload (pc := 73) C (a := 50) rfl g9 dX4_resolved_73 ?_
      obtain ⟨q11, hq10, h⟩ := bi_some h
      refine aw_Si (pc := 74) (Bs := [.int (μ3.1 50 (0 : Int32).toNatClampNeg)]) C (ok_X4_bits C.tr hq10) kv_X4_bits q1019 rfl rfl dX4_resolved_74 ⟨(show 1 ≤ 6 by decide), (show 22 ≤ 186 by decide)⟩ ⟨Nat.zero_le _, Nat.zero_le _⟩ [] (Nat.le_of_ble_eq_true rfl) rfl ?_
      cases h
      exact aw_iret (pc := 77) C dX4_resolved_77
    · replace h := ite_T h hc
      refine aw_iconst (pc := 64) C (v := 0) dX4_resolved_64 rfl ?_
      refine aw_goto (pc := 65) C 77 dX4_resolved_65 rfl ?_
      cases h
      exact aw_iret (pc := 77) C dX4_resolved_77
  replace h := ite_F h hs8
  by_cases hs12 : v3 = 2
  · replace h := ite_T h hs12
    refine aw_tableIn (pc := 7) C 78 dX4_resolved_7 (by rw [hs12]; decide) (by rw [hs12]; decide) (by rw [hs12]; rfl) rfl ?_
    refine aw_aload_n (pc := 78) C dX4_resolved_78 rfl 0 rfl ?_
    refine aw_get (pc := 79) C (a := 45) (k := 7) (v := .int (μ3.1 45 7)) inX4 rfl rfl (by decide) q747 dX4_resolved_79 rfl ?_
    refine aw_if_ne (pc := 82) C 89 dX4_resolved_82 rfl (fun hc => ?_) (fun hc => ?_)
    · replace h := ite_F h hc
      refine aw_aload_n (pc := 89) C dX4_resolved_89 rfl 0 rfl ?_
      refine aw_get (pc := 90) C (a := 45) (k := 9) (v := .ref (ad 51)) inX4 rfl rfl (by decide) q749 dX4_resolved_90 rfl ?_
      refine aw_iconst (pc := 93) C (v := 0) dX4_resolved_93 rfl ?_
      obtain ⟨g13, h⟩ := ck_some h
      refine aw_iaload (pc := 94) C (a := 51) rfl g13 dX4_resolved_94 ?_
      cases h
      exact aw_iret (pc := 95) C dX4_resolved_95
    · replace h := ite_T h hc
      refine aw_iconst (pc := 85) C (v := (-1)) dX4_resolved_85 rfl ?_
      refine aw_goto (pc := 86) C 95 dX4_resolved_86 rfl ?_
      cases h
      exact aw_iret (pc := 95) C dX4_resolved_95
  replace h := ite_F h hs12
  by_cases hs14 : v3 = 3
  · replace h := ite_T h hs14
    refine aw_tableIn (pc := 7) C 96 dX4_resolved_7 (by rw [hs14]; decide) (by rw [hs14]; decide) (by rw [hs14]; rfl) rfl ?_
    refine aw_aload_n (pc := 96) C dX4_resolved_96 rfl 0 rfl ?_
    refine aw_get (pc := 97) C (a := 45) (k := 7) (v := .int (μ3.1 45 7)) inX4 rfl rfl (by decide) q747 dX4_resolved_97 rfl ?_
    refine aw_if_ne (pc := 100) C 107 dX4_resolved_100 rfl (fun hc => ?_) (fun hc => ?_)
    · replace h := ite_F h hc
      refine aw_aload_n (pc := 107) C dX4_resolved_107 rfl 0 rfl ?_
      refine aw_get (pc := 108) C (a := 45) (k := 10) (v := .ref (ad 52)) inX4 rfl rfl (by decide) q750 dX4_resolved_108 rfl ?_
      refine aw_iconst (pc := 111) C (v := 0) dX4_resolved_111 rfl ?_
      obtain ⟨g15, h⟩ := ck_some h
      refine aw_iaload (pc := 112) C (a := 52) rfl g15 dX4_resolved_112 ?_
      cases h
      exact aw_iret (pc := 113) C dX4_resolved_113
    · replace h := ite_T h hc
      refine aw_iconst (pc := 103) C (v := (-1)) dX4_resolved_103 rfl ?_
      refine aw_goto (pc := 104) C 113 dX4_resolved_104 rfl ?_
      cases h
      exact aw_iret (pc := 113) C dX4_resolved_113
  replace h := ite_F h hs14
  refine aw_tableOut (pc := 7) C 114 dX4_resolved_7 (by have hs4z := sw_ne hs4 (show Int32.toInt 0 = 0 by decide); have hs8z := sw_ne hs8 (show Int32.toInt 1 = 1 by decide); have hs12z := sw_ne hs12 (show Int32.toInt 2 = 2 by decide); have hs14z := sw_ne hs14 (show Int32.toInt 3 = 3 by decide); omega) rfl ?_
  refine aw_aload_n (pc := 114) C dX4_resolved_114 rfl 0 rfl ?_
  refine aw_get (pc := 115) C (a := 45) (k := 7) (v := .int (μ3.1 45 7)) inX4 rfl rfl (by decide) q747 dX4_resolved_115 rfl ?_
  refine aw_if_ne (pc := 118) C 125 dX4_resolved_118 rfl (fun hc => ?_) (fun hc => ?_)
  · replace h := ite_F h hc
    refine aw_aload_n (pc := 125) C dX4_resolved_125 rfl 0 rfl ?_
    refine aw_get (pc := 126) C (a := 45) (k := 7) (v := .int (μ3.1 45 7)) inX4 rfl rfl (by decide) q747 dX4_resolved_126 rfl ?_
    refine aw_iconst (pc := 129) C (v := 1) dX4_resolved_129 rfl ?_
    refine aw_isub (pc := 130) C dX4_resolved_130 ?_
    cases h
    exact aw_iret (pc := 131) C dX4_resolved_131
  · replace h := ite_T h hc
    refine aw_iconst (pc := 121) C (v := 0) dX4_resolved_121 rfl ?_
    refine aw_goto (pc := 122) C 131 dX4_resolved_122 rfl ?_
    cases h
    exact aw_iret (pc := 131) C dX4_resolved_131
/-! ### NameScopesModel.resolve(III)I -/
theorem ok_X4_resolve_j34 {l : Launch} {p : Program} {e : Env} {s : State} {m : MethodId} {args : Array Value} {below : List Frame} {meth : Method} {c : Code} {D : va_G} {cI cL : ClassId} {ad : Nat → Nat} (C : CX p l s m args meth c RX4 cX4_resolve 4 (some .int) D cI cL (AA ad s.heap.size)) (hex : ∀ x ∈ c.exceptionTable.toList, False) {r : (Int32 × Mm)} {v1 : Int32} {v2 : Int32} {v3 : Int32} {s0 : Int32} {μ : Mm}  (h : X4_resolve_j34 v1 v2 v3 s0 μ = some r) : AV l p e s m args below meth c D cI cL ad 7 4 (.inr (some (.int r.1))) r.2 34 [(0, .ref (ad 45)), (1, .int v1), (2, .int v2), (3, .int v3)] [.int s0, .ref (ad 45)] μ := by
  unfold X4_resolve_j34 at h
  obtain ⟨μ5, eμ5, h⟩ := bd_some h
  refine aw_putI (pc := 34) C (a := 45) (k := 0) (ty := .int) inX4 tyX4 tyX4_ok nmX4 rfl rfl (by decide) q740 rfl (by decide +kernel) rfl rfl (by show 0 < 26; decide) dX4_resolve_34 fl_4_0 eμ5 ?_
  refine aw_aload_n (pc := 37) C dX4_resolve_37 rfl 0 rfl ?_
  refine aw_get (pc := 38) C (a := 45) (k := 0) (v := .int (μ5.1 45 0)) inX4 rfl rfl (by decide) q740 dX4_resolve_38 rfl ?_
  refine aw_if_le (pc := 41) C 48 dX4_resolve_41 rfl (fun hc => ?_) (fun hc => ?_)
  · replace h := ite_T h hc
    refine aw_aload_n (pc := 48) C dX4_resolve_48 rfl 0 rfl ?_
    refine aw_iload_n (pc := 49) C dX4_resolve_49 rfl 1 rfl ?_
    refine aw_iload_n (pc := 50) C dX4_resolve_50 rfl 2 rfl ?_
    refine aw_iload_n (pc := 51) C dX4_resolve_51 rfl 3 rfl ?_
    obtain ⟨q7, μ8, hq6, h⟩ := bn_some h
    refine aw_Vi (pc := 52) (a := 45) (Bs := [.int v1, .int v2, .int v3]) C (ok_X4_resolved C.tr hq6) kv_X4_resolved q1012 rfl rfl rfl rfl dX4_resolve_52 ⟨(show 7 ≤ 7 by decide), (show 209 ≤ 217 by decide)⟩ ⟨Nat.zero_le _, Nat.zero_le _⟩ [] (Nat.le_of_ble_eq_true rfl) rfl ?_
    cases h
    exact aw_iret (pc := 55) C dX4_resolve_55
  · replace h := ite_F h hc
    refine aw_iconst (pc := 44) C (v := 0) dX4_resolve_44 rfl ?_
    refine aw_goto (pc := 45) C 55 dX4_resolve_45 rfl ?_
    cases h
    exact aw_iret (pc := 55) C dX4_resolve_55
theorem ok_X4_resolve_j33 {l : Launch} {p : Program} {e : Env} {s : State} {m : MethodId} {args : Array Value} {below : List Frame} {meth : Method} {c : Code} {D : va_G} {cI cL : ClassId} {ad : Nat → Nat} (C : CX p l s m args meth c RX4 cX4_resolve 4 (some .int) D cI cL (AA ad s.heap.size)) (hex : ∀ x ∈ c.exceptionTable.toList, False) {r : (Int32 × Mm)} {v1 : Int32} {v2 : Int32} {v3 : Int32} {μ : Mm}  (h : X4_resolve_j33 v1 v2 v3 μ = some r) : AV l p e s m args below meth c D cI cL ad 7 4 (.inr (some (.int r.1))) r.2 33 [(0, .ref (ad 45)), (1, .int v1), (2, .int v2), (3, .int v3)] [.ref (ad 45)] μ := by
  unfold X4_resolve_j33 at h
  refine aw_iconst (pc := 33) C (v := 2) dX4_resolve_33 rfl ?_
  refine aw_sub [0, 1, 2, 3] rfl ?_
  exact ok_X4_resolve_j34 C hex h
theorem ok_X4_resolve {l : Launch} (htr : l.stackTraces = false) {v1 : Int32} {v2 : Int32} {v3 : Int32} {μ : Mm} {r : (Int32 × Mm)}  (h : X4_resolve v1 v2 v3 μ = some r) : MetX l yX4_resolve cX4_resolve 4 (some .int) 7 (fun ad => [.ref (ad 45), .int v1, .int v2, .int v3]) μ (.inr (some (.int r.1))) r.2 := by
  refine MetX.of htr (by decide) rfl (fun ad => Nat.le_of_ble_eq_true rfl) (fun p e s m args below meth c D cI cL ad C hex hw => ?_)
  show AV l p e s m args below meth c D cI cL ad 7 4 (.inr (some (.int r.1))) r.2 0 [(0, .ref (ad 45)), (1, .int v1), (2, .int v2), (3, .int v3)] [] μ
  unfold X4_resolve at h
  refine aw_aload_n (pc := 0) C dX4_resolve_0 rfl 0 rfl ?_
  refine aw_aload_n (pc := 1) C dX4_resolve_1 rfl 0 rfl ?_
  refine aw_iload_n (pc := 2) C dX4_resolve_2 rfl 1 rfl ?_
  obtain ⟨q2, hq1, h⟩ := bi_some h
  refine aw_Vi (pc := 3) (a := 45) (Bs := [.int v1]) C (ok_X4_isScope C.tr hq1) kv_X4_isScope q831 rfl rfl rfl rfl dX4_resolve_3 ⟨(show 2 ≤ 7 by decide), (show 52 ≤ 217 by decide)⟩ ⟨Nat.zero_le _, Nat.zero_le _⟩ [.ref (ad 45)] (Nat.le_of_ble_eq_true rfl) rfl ?_
  refine aw_if_ne (pc := 6) C 13 dX4_resolve_6 rfl (fun hc => ?_) (fun hc => ?_)
  · replace h := ite_F h hc
    refine aw_iload_n (pc := 13) C dX4_resolve_13 rfl 2 rfl ?_
    obtain ⟨q4, hq3, h⟩ := bi_some h
    refine aw_Si (pc := 14) (Bs := [.int v2]) C (ok_X4_isName C.tr hq3) kv_X4_isName q842 rfl rfl dX4_resolve_14 ⟨(show 2 ≤ 7 by decide), (show 51 ≤ 217 by decide)⟩ ⟨Nat.zero_le _, Nat.zero_le _⟩ [.ref (ad 45)] (Nat.le_of_ble_eq_true rfl) rfl ?_
    refine aw_if_eq (pc := 17) C 33 dX4_resolve_17 rfl (fun hc => ?_) (fun hc => ?_)
    · replace h := ite_T h hc
      refine aw_sub [0, 1, 2, 3] rfl ?_
      exact ok_X4_resolve_j33 C hex h
    · replace h := ite_F h hc
      refine aw_iload_n (pc := 20) C dX4_resolve_20 rfl 3 rfl ?_
      refine aw_iconst (pc := 21) C (v := 0) dX4_resolve_21 rfl ?_
      refine aw_iconst (pc := 22) C (v := 4) dX4_resolve_22 rfl ?_
      obtain ⟨q10, hq9, h⟩ := bi_some h
      refine aw_Si (pc := 23) (Bs := [.int v3, .int 0, .int 4]) C (ok_X4_within C.tr hq9) kv_X4_within q835 rfl rfl dX4_resolve_23 ⟨(show 1 ≤ 7 by decide), (show 22 ≤ 217 by decide)⟩ ⟨Nat.zero_le _, Nat.zero_le _⟩ [.ref (ad 45)] (Nat.le_of_ble_eq_true rfl) rfl ?_
      have kJ : AV l p e s m args below meth c D cI cL ad 7 4 (.inr (some (.int r.1))) r.2 34 [(0, .ref (ad 45)), (1, .int v1), (2, .int v2), (3, .int v3)] [.int (if q10 = 0 then (2 : Int32) else 0), .ref (ad 45)] μ := by
        obtain ⟨μ11, eμ11, h⟩ := bd_some h
        refine aw_putI (pc := 34) C (a := 45) (k := 0) (ty := .int) inX4 tyX4 tyX4_ok nmX4 rfl rfl (by decide) q740 rfl (by decide +kernel) rfl rfl (by show 0 < 26; decide) dX4_resolve_34 fl_4_0 eμ11 ?_
        refine aw_aload_n (pc := 37) C dX4_resolve_37 rfl 0 rfl ?_
        refine aw_get (pc := 38) C (a := 45) (k := 0) (v := .int (μ11.1 45 0)) inX4 rfl rfl (by decide) q740 dX4_resolve_38 rfl ?_
        refine aw_if_le (pc := 41) C 48 dX4_resolve_41 rfl (fun hc => ?_) (fun hc => ?_)
        · replace h := ite_T h hc
          refine aw_aload_n (pc := 48) C dX4_resolve_48 rfl 0 rfl ?_
          refine aw_iload_n (pc := 49) C dX4_resolve_49 rfl 1 rfl ?_
          refine aw_iload_n (pc := 50) C dX4_resolve_50 rfl 2 rfl ?_
          refine aw_iload_n (pc := 51) C dX4_resolve_51 rfl 3 rfl ?_
          obtain ⟨q13, μ14, hq12, h⟩ := bn_some h
          refine aw_Vi (pc := 52) (a := 45) (Bs := [.int v1, .int v2, .int v3]) C (ok_X4_resolved C.tr hq12) kv_X4_resolved q1012 rfl rfl rfl rfl dX4_resolve_52 ⟨(show 7 ≤ 7 by decide), (show 209 ≤ 217 by decide)⟩ ⟨Nat.zero_le _, Nat.zero_le _⟩ [] (Nat.le_of_ble_eq_true rfl) rfl ?_
          cases h
          exact aw_iret (pc := 55) C dX4_resolve_55
        · replace h := ite_F h hc
          refine aw_iconst (pc := 44) C (v := 0) dX4_resolve_44 rfl ?_
          refine aw_goto (pc := 45) C 55 dX4_resolve_45 rfl ?_
          cases h
          exact aw_iret (pc := 55) C dX4_resolve_55
      refine aw_if_eq (pc := 26) C 33 dX4_resolve_26 rfl (fun hd1 => ?_) (fun hd1 => ?_)
      · refine aw_iconst (pc := 33) C (v := 2) dX4_resolve_33 rfl ?_
        rw [if_pos hd1] at kJ
        exact kJ
      · refine aw_iconst (pc := 29) C (v := 0) dX4_resolve_29 rfl ?_
        refine aw_goto (pc := 30) C 34 dX4_resolve_30 rfl ?_
        rw [if_neg hd1] at kJ
        exact kJ
  · replace h := ite_T h hc
    refine aw_iconst (pc := 9) C (v := 1) dX4_resolve_9 rfl ?_
    refine aw_goto (pc := 10) C 34 dX4_resolve_10 rfl ?_
    refine aw_sub [0, 1, 2, 3] rfl ?_
    exact ok_X4_resolve_j34 C hex h
/-! ### NameScopesModel.resolvedShare()D -/
theorem ok_X4_resolvedShare_j35 {l : Launch} {p : Program} {e : Env} {s : State} {m : MethodId} {args : Array Value} {below : List Frame} {meth : Method} {c : Code} {D : va_G} {cI cL : ClassId} {ad : Nat → Nat} (C : CX p l s m args meth c RX4 cX4_resolvedShare 1 (some .double) D cI cL (AA ad s.heap.size)) (hex : ∀ x ∈ c.exceptionTable.toList, False) {r : (UInt64 × Mm)} {s0 : UInt64} {μ : Mm}  (h : X4_resolvedShare_j35 s0 μ = some r) : AV l p e s m args below meth c D cI cL ad 9 1 (.inr (some (.double r.1))) r.2 35 [] [.double s0] μ := by
  unfold X4_resolvedShare_j35 at h
  cases h
  exact aw_dret (pc := 35) C dX4_resolvedShare_35
theorem ok_X4_resolvedShare {l : Launch} (htr : l.stackTraces = false) {μ : Mm} {r : (UInt64 × Mm)}  (h : X4_resolvedShare μ = some r) : MetX l yX4_resolvedShare cX4_resolvedShare 1 (some .double) 9 (fun ad => [.ref (ad 45)]) μ (.inr (some (.double r.1))) r.2 := by
  refine MetX.of htr (by decide) rfl (fun ad => Nat.le_of_ble_eq_true rfl) (fun p e s m args below meth c D cI cL ad C hex hw => ?_)
  show AV l p e s m args below meth c D cI cL ad 9 1 (.inr (some (.double r.1))) r.2 0 [(0, .ref (ad 45))] [] μ
  unfold X4_resolvedShare at h
  refine aw_aload_n (pc := 0) C dX4_resolvedShare_0 rfl 0 rfl ?_
  refine aw_iconst (pc := 1) C (v := 0) dX4_resolvedShare_1 rfl ?_
  obtain ⟨μ1, eμ1, h⟩ := bd_some h
  refine aw_putI (pc := 2) C (a := 45) (k := 0) (ty := .int) inX4 tyX4 tyX4_ok nmX4 rfl rfl (by decide) q740 rfl (by decide +kernel) rfl rfl (by show 0 < 26; decide) dX4_resolvedShare_2 fl_4_0 eμ1 ?_
  refine aw_aload_n (pc := 5) C dX4_resolvedShare_5 rfl 0 rfl ?_
  refine aw_get (pc := 6) C (a := 45) (k := 1) (v := .ref (ad 46)) inX4 rfl rfl (by decide) q741 dX4_resolvedShare_6 rfl ?_
  refine aw_iconst (pc := 9) C (v := 3) dX4_resolvedShare_9 rfl ?_
  obtain ⟨g2, h⟩ := ck_some h
  refine aw_iaload (pc := 10) C (a := 46) rfl g2 dX4_resolvedShare_10 ?_
  refine aw_if_ne (pc := 11) C 18 dX4_resolvedShare_11 rfl (fun hc => ?_) (fun hc => ?_)
  · replace h := ite_F h hc
    refine aw_dconst1 (pc := 18) C dX4_resolvedShare_18 ?_
    refine aw_aload_n (pc := 19) C dX4_resolvedShare_19 rfl 0 rfl ?_
    refine aw_iconst (pc := 20) C (v := 1) dX4_resolvedShare_20 rfl ?_
    refine aw_iconst (pc := 21) C (v := 1) dX4_resolvedShare_21 rfl ?_
    obtain ⟨q4, μ5, hq3, h⟩ := bn_some h
    refine aw_Vi (pc := 22) (a := 45) (Bs := [.int 1, .int 1]) C (ok_X4_usesWith C.tr hq3) kv_X4_usesWith q1077 rfl rfl rfl rfl dX4_resolvedShare_22 ⟨(show 9 ≤ 9 by decide), (show 272 ≤ 279 by decide)⟩ ⟨Nat.zero_le _, Nat.zero_le _⟩ [.double FP.dconst1] (Nat.le_of_ble_eq_true rfl) rfl ?_
    refine aw_i2d (pc := 25) C dX4_resolvedShare_25 ?_
    obtain ⟨g6, h⟩ := nn_some h
    refine aw_dmul (pc := 26) C dX4_resolvedShare_26 g6 ?_
    refine aw_aload_n (pc := 27) C dX4_resolvedShare_27 rfl 0 rfl ?_
    refine aw_get (pc := 28) C (a := 45) (k := 1) (v := .ref (ad 46)) inX4 rfl rfl (by decide) q741 dX4_resolvedShare_28 rfl ?_
    refine aw_iconst (pc := 31) C (v := 3) dX4_resolvedShare_31 rfl ?_
    obtain ⟨g7, h⟩ := ck_some h
    refine aw_iaload (pc := 32) C (a := 46) rfl g7 dX4_resolvedShare_32 ?_
    refine aw_i2d (pc := 33) C dX4_resolvedShare_33 ?_
    obtain ⟨g8, h⟩ := nn_some h
    refine aw_ddiv (pc := 34) C dX4_resolvedShare_34 g8 ?_
    refine aw_sub [] rfl ?_
    exact ok_X4_resolvedShare_j35 C hex h
  · replace h := ite_T h hc
    refine aw_dconst1 (pc := 14) C dX4_resolvedShare_14 ?_
    refine aw_goto (pc := 15) C 35 dX4_resolvedShare_15 rfl ?_
    refine aw_sub [] rfl ?_
    exact ok_X4_resolvedShare_j35 C hex h
/-! ### NameScopesModel.thrown()I -/
theorem ok_X4_thrown {l : Launch} (htr : l.stackTraces = false) {μ : Mm} {r : Int32}  (h : X4_thrown μ = some r) : MetX l yX4_thrown cX4_thrown 1 (some .int) 0 (fun ad => [.ref (ad 45)]) μ (.inr (some (.int r))) μ := by
  refine MetX.of htr (by decide) rfl (fun ad => Nat.le_of_ble_eq_true rfl) (fun p e s m args below meth c D cI cL ad C hex hw => ?_)
  show AV l p e s m args below meth c D cI cL ad 0 1 (.inr (some (.int r))) μ 0 [(0, .ref (ad 45))] [] μ
  unfold X4_thrown at h
  refine aw_aload_n (pc := 0) C dX4_thrown_0 rfl 0 rfl ?_
  refine aw_get (pc := 1) C (a := 45) (k := 0) (v := .int (μ.1 45 0)) inX4 rfl rfl (by decide) q740 dX4_thrown_1 rfl ?_
  cases h
  exact aw_iret (pc := 4) C dX4_thrown_4
/-! ### NameScopesModel.used(II)I -/
theorem ok_X4_used_j35 {l : Launch} {p : Program} {e : Env} {s : State} {m : MethodId} {args : Array Value} {below : List Frame} {meth : Method} {c : Code} {D : va_G} {cI cL : ClassId} {ad : Nat → Nat} (C : CX p l s m args meth c RX4 cX4_used 3 (some .int) D cI cL (AA ad s.heap.size)) (hex : ∀ x ∈ c.exceptionTable.toList, False) {r : (Int32 × Mm)} {v1 : Int32} {v2 : Int32} {s0 : Int32} {μ : Mm}  (h : X4_used_j35 v1 v2 s0 μ = some r) : AV l p e s m args below meth c D cI cL ad 9 3 (.inr (some (.int r.1))) r.2 35 [(0, .ref (ad 45)), (1, .int v1), (2, .int v2)] [.int s0, .ref (ad 45)] μ := by
  unfold X4_used_j35 at h
  obtain ⟨μ10, eμ10, h⟩ := bd_some h
  refine aw_putI (pc := 35) C (a := 45) (k := 0) (ty := .int) inX4 tyX4 tyX4_ok nmX4 rfl rfl (by decide) q740 rfl (by decide +kernel) rfl rfl (by show 0 < 26; decide) dX4_used_35 fl_4_0 eμ10 ?_
  refine aw_aload_n (pc := 38) C dX4_used_38 rfl 0 rfl ?_
  refine aw_get (pc := 39) C (a := 45) (k := 0) (v := .int (μ10.1 45 0)) inX4 rfl rfl (by decide) q740 dX4_used_39 rfl ?_
  refine aw_if_le (pc := 42) C 49 dX4_used_42 rfl (fun hc => ?_) (fun hc => ?_)
  · replace h := ite_T h hc
    refine aw_aload_n (pc := 49) C dX4_used_49 rfl 0 rfl ?_
    refine aw_iload_n (pc := 50) C dX4_used_50 rfl 1 rfl ?_
    refine aw_iload_n (pc := 51) C dX4_used_51 rfl 2 rfl ?_
    obtain ⟨q12, μ13, hq11, h⟩ := bn_some h
    refine aw_Vi (pc := 52) (a := 45) (Bs := [.int v1, .int v2]) C (ok_X4_useNow C.tr hq11) kv_X4_useNow q1141 rfl rfl rfl rfl dX4_used_52 ⟨(show 9 ≤ 9 by decide), (show 271 ≤ 279 by decide)⟩ ⟨Nat.zero_le _, Nat.zero_le _⟩ [] (Nat.le_of_ble_eq_true rfl) rfl ?_
    cases h
    exact aw_iret (pc := 55) C dX4_used_55
  · replace h := ite_F h hc
    refine aw_iconst (pc := 45) C (v := 0) dX4_used_45 rfl ?_
    refine aw_goto (pc := 46) C 55 dX4_used_46 rfl ?_
    cases h
    exact aw_iret (pc := 55) C dX4_used_55
theorem ok_X4_used {l : Launch} (htr : l.stackTraces = false) {v1 : Int32} {v2 : Int32} {μ : Mm} {r : (Int32 × Mm)}  (h : X4_used v1 v2 μ = some r) : MetX l yX4_used cX4_used 3 (some .int) 9 (fun ad => [.ref (ad 45), .int v1, .int v2]) μ (.inr (some (.int r.1))) r.2 := by
  refine MetX.of htr (by decide) rfl (fun ad => Nat.le_of_ble_eq_true rfl) (fun p e s m args below meth c D cI cL ad C hex hw => ?_)
  show AV l p e s m args below meth c D cI cL ad 9 3 (.inr (some (.int r.1))) r.2 0 [(0, .ref (ad 45)), (1, .int v1), (2, .int v2)] [] μ
  unfold X4_used at h
  refine aw_aload_n (pc := 0) C dX4_used_0 rfl 0 rfl ?_
  refine aw_iload_n (pc := 1) C dX4_used_1 rfl 1 rfl ?_
  refine aw_iconst (pc := 2) C (v := 0) dX4_used_2 rfl ?_
  refine aw_aload_n (pc := 3) C dX4_used_3 rfl 0 rfl ?_
  refine aw_get (pc := 4) C (a := 45) (k := 1) (v := .ref (ad 46)) inX4 rfl rfl (by decide) q741 dX4_used_4 rfl ?_
  refine aw_iconst (pc := 7) C (v := 3) dX4_used_7 rfl ?_
  obtain ⟨g1, h⟩ := ck_some h
  refine aw_iaload (pc := 8) C (a := 46) rfl g1 dX4_used_8 ?_
  refine aw_iconst (pc := 9) C (v := 1) dX4_used_9 rfl ?_
  refine aw_isub (pc := 10) C dX4_used_10 ?_
  obtain ⟨q3, hq2, h⟩ := bi_some h
  refine aw_Si (pc := 11) (Bs := [.int v1, .int 0, .int ((μ.1 46 (3 : Int32).toNatClampNeg) - 1)]) C (ok_X4_within C.tr hq2) kv_X4_within q835 rfl rfl dX4_used_11 ⟨(show 1 ≤ 9 by decide), (show 22 ≤ 279 by decide)⟩ ⟨Nat.zero_le _, Nat.zero_le _⟩ [.ref (ad 45)] (Nat.le_of_ble_eq_true rfl) rfl ?_
  refine aw_if_ne (pc := 14) C 21 dX4_used_14 rfl (fun hc => ?_) (fun hc => ?_)
  · replace h := ite_F h hc
    refine aw_iload_n (pc := 21) C dX4_used_21 rfl 2 rfl ?_
    refine aw_iconst (pc := 22) C (v := 0) dX4_used_22 rfl ?_
    refine aw_iconst (pc := 23) C (v := 3) dX4_used_23 rfl ?_
    obtain ⟨q5, hq4, h⟩ := bi_some h
    refine aw_Si (pc := 24) (Bs := [.int v2, .int 0, .int 3]) C (ok_X4_within C.tr hq4) kv_X4_within q835 rfl rfl dX4_used_24 ⟨(show 1 ≤ 9 by decide), (show 22 ≤ 279 by decide)⟩ ⟨Nat.zero_le _, Nat.zero_le _⟩ [.ref (ad 45)] (Nat.le_of_ble_eq_true rfl) rfl ?_
    have kJ : AV l p e s m args below meth c D cI cL ad 9 3 (.inr (some (.int r.1))) r.2 35 [(0, .ref (ad 45)), (1, .int v1), (2, .int v2)] [.int (if q5 = 0 then (2 : Int32) else 0), .ref (ad 45)] μ := by
      obtain ⟨μ6, eμ6, h⟩ := bd_some h
      refine aw_putI (pc := 35) C (a := 45) (k := 0) (ty := .int) inX4 tyX4 tyX4_ok nmX4 rfl rfl (by decide) q740 rfl (by decide +kernel) rfl rfl (by show 0 < 26; decide) dX4_used_35 fl_4_0 eμ6 ?_
      refine aw_aload_n (pc := 38) C dX4_used_38 rfl 0 rfl ?_
      refine aw_get (pc := 39) C (a := 45) (k := 0) (v := .int (μ6.1 45 0)) inX4 rfl rfl (by decide) q740 dX4_used_39 rfl ?_
      refine aw_if_le (pc := 42) C 49 dX4_used_42 rfl (fun hc => ?_) (fun hc => ?_)
      · replace h := ite_T h hc
        refine aw_aload_n (pc := 49) C dX4_used_49 rfl 0 rfl ?_
        refine aw_iload_n (pc := 50) C dX4_used_50 rfl 1 rfl ?_
        refine aw_iload_n (pc := 51) C dX4_used_51 rfl 2 rfl ?_
        obtain ⟨q8, μ9, hq7, h⟩ := bn_some h
        refine aw_Vi (pc := 52) (a := 45) (Bs := [.int v1, .int v2]) C (ok_X4_useNow C.tr hq7) kv_X4_useNow q1141 rfl rfl rfl rfl dX4_used_52 ⟨(show 9 ≤ 9 by decide), (show 271 ≤ 279 by decide)⟩ ⟨Nat.zero_le _, Nat.zero_le _⟩ [] (Nat.le_of_ble_eq_true rfl) rfl ?_
        cases h
        exact aw_iret (pc := 55) C dX4_used_55
      · replace h := ite_F h hc
        refine aw_iconst (pc := 45) C (v := 0) dX4_used_45 rfl ?_
        refine aw_goto (pc := 46) C 55 dX4_used_46 rfl ?_
        cases h
        exact aw_iret (pc := 55) C dX4_used_55
    refine aw_if_eq (pc := 27) C 34 dX4_used_27 rfl (fun hd1 => ?_) (fun hd1 => ?_)
    · refine aw_iconst (pc := 34) C (v := 2) dX4_used_34 rfl ?_
      rw [if_pos hd1] at kJ
      exact kJ
    · refine aw_iconst (pc := 30) C (v := 0) dX4_used_30 rfl ?_
      refine aw_goto (pc := 31) C 35 dX4_used_31 rfl ?_
      rw [if_neg hd1] at kJ
      exact kJ
  · replace h := ite_T h hc
    refine aw_iconst (pc := 17) C (v := 1) dX4_used_17 rfl ?_
    refine aw_goto (pc := 18) C 35 dX4_used_18 rfl ?_
    refine aw_sub [0, 1, 2] rfl ?_
    exact ok_X4_used_j35 C hex h
/-! ### NameScopesModel.visible(IZ)I -/
theorem ok_X4_visible {l : Launch} (htr : l.stackTraces = false) {v1 : Int32} {v2 : Int32} {μ : Mm} {r : (Int32 × Mm)}  (h : X4_visible v1 v2 μ = some r) : MetX l yX4_visible cX4_visible 3 (some .int) 8 (fun ad => [.ref (ad 45), .int v1, .int v2]) μ (.inr (some (.int r.1))) r.2 := by
  refine MetX.of htr (by decide) rfl (fun ad => Nat.le_of_ble_eq_true rfl) (fun p e s m args below meth c D cI cL ad C hex hw => ?_)
  show AV l p e s m args below meth c D cI cL ad 8 3 (.inr (some (.int r.1))) r.2 0 [(0, .ref (ad 45)), (1, .int v1), (2, .int v2)] [] μ
  unfold X4_visible at h
  refine aw_aload_n (pc := 0) C dX4_visible_0 rfl 0 rfl ?_
  refine aw_aload_n (pc := 1) C dX4_visible_1 rfl 0 rfl ?_
  refine aw_iload_n (pc := 2) C dX4_visible_2 rfl 1 rfl ?_
  obtain ⟨q2, hq1, h⟩ := bi_some h
  refine aw_Vi (pc := 3) (a := 45) (Bs := [.int v1]) C (ok_X4_isScope C.tr hq1) kv_X4_isScope q831 rfl rfl rfl rfl dX4_visible_3 ⟨(show 2 ≤ 8 by decide), (show 52 ≤ 248 by decide)⟩ ⟨Nat.zero_le _, Nat.zero_le _⟩ [.ref (ad 45)] (Nat.le_of_ble_eq_true rfl) rfl ?_
  have kJ : AV l p e s m args below meth c D cI cL ad 8 3 (.inr (some (.int r.1))) r.2 14 [(0, .ref (ad 45)), (1, .int v1), (2, .int v2)] [.int (if q2 = 0 then (1 : Int32) else 0), .ref (ad 45)] μ := by
    obtain ⟨μ3, eμ3, h⟩ := bd_some h
    refine aw_putI (pc := 14) C (a := 45) (k := 0) (ty := .int) inX4 tyX4 tyX4_ok nmX4 rfl rfl (by decide) q740 rfl (by decide +kernel) rfl rfl (by show 0 < 26; decide) dX4_visible_14 fl_4_0 eμ3 ?_
    refine aw_aload_n (pc := 17) C dX4_visible_17 rfl 0 rfl ?_
    refine aw_get (pc := 18) C (a := 45) (k := 0) (v := .int (μ3.1 45 0)) inX4 rfl rfl (by decide) q740 dX4_visible_18 rfl ?_
    refine aw_if_le (pc := 21) C 28 dX4_visible_21 rfl (fun hc => ?_) (fun hc => ?_)
    · replace h := ite_T h hc
      refine aw_aload_n (pc := 28) C dX4_visible_28 rfl 0 rfl ?_
      refine aw_iload_n (pc := 29) C dX4_visible_29 rfl 1 rfl ?_
      refine aw_iload_n (pc := 30) C dX4_visible_30 rfl 2 rfl ?_
      obtain ⟨q5, μ6, hq4, h⟩ := bn_some h
      refine aw_Vi (pc := 31) (a := 45) (Bs := [.int v1, .int v2]) C (ok_X4_seen C.tr hq4) kv_X4_seen q1041 rfl rfl rfl rfl dX4_visible_31 ⟨(show 8 ≤ 8 by decide), (show 242 ≤ 248 by decide)⟩ ⟨Nat.zero_le _, Nat.zero_le _⟩ [] (Nat.le_of_ble_eq_true rfl) rfl ?_
      cases h
      exact aw_iret (pc := 34) C dX4_visible_34
    · replace h := ite_F h hc
      refine aw_iconst (pc := 24) C (v := 0) dX4_visible_24 rfl ?_
      refine aw_goto (pc := 25) C 34 dX4_visible_25 rfl ?_
      cases h
      exact aw_iret (pc := 34) C dX4_visible_34
  refine aw_if_eq (pc := 6) C 13 dX4_visible_6 rfl (fun hd1 => ?_) (fun hd1 => ?_)
  · refine aw_iconst (pc := 13) C (v := 1) dX4_visible_13 rfl ?_
    rw [if_pos hd1] at kJ
    exact kJ
  · refine aw_iconst (pc := 9) C (v := 0) dX4_visible_9 rfl ?_
    refine aw_goto (pc := 10) C 14 dX4_visible_10 rfl ?_
    rw [if_neg hd1] at kJ
    exact kJ
