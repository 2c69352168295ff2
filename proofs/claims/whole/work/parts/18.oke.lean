/-! ### NameScopesModel.mixParts()V -/
theorem ok_X4_mixParts_l78 {l : Launch} {p : Program} {e : Env} {s : State} {m : MethodId} {args : Array Value} {below : List Frame} {meth : Method} {c : Code} {D : va_G} {cI cL : ClassId} {ad : Nat → Nat} (C : CX p l s m args meth c RX4 cX4_mixParts 2 none D cI cL (AA ad s.heap.size)) (hex : ∀ x ∈ c.exceptionTable.toList, False) {r : Mm} {k78 : Int32 → Mm → Option Mm} (hk78 : ∀ (v1 : Int32) (μ : Mm), k78 v1 μ = some r → AV l p e s m args below meth c D cI cL ad 11 2 (.inr none) r 78 [(0, .ref (ad 45)), (1, .int v1)] [] μ) {v1 : Int32} {μ : Mm}  (h : X4_mixParts_l78 k78 v1 μ = some r) : AV l p e s m args below meth c D cI cL ad 11 2 (.inr none) r 78 [(0, .ref (ad 45)), (1, .int v1)] [] μ := by
  unfold X4_mixParts_l78 at h
  refine aw_iload_n (pc := 78) C dX4_mixParts_78 rfl 1 rfl ?_
  refine aw_iconst (pc := 79) C (v := 4) dX4_mixParts_79 rfl ?_
  refine aw_aload_n (pc := 80) C dX4_mixParts_80 rfl 0 rfl ?_
  refine aw_get (pc := 81) C (a := 45) (k := 1) (v := .ref (ad 46)) inX4 rfl rfl (by decide) q741 dX4_mixParts_81 rfl ?_
  refine aw_iconst (pc := 84) C (v := 3) dX4_mixParts_84 rfl ?_
  obtain ⟨g3, h⟩ := ck_some h
  refine aw_iaload (pc := 85) C (a := 46) rfl g3 dX4_mixParts_85 ?_
  refine aw_imul (pc := 86) C dX4_mixParts_86 ?_
  refine aw_icmp_ge (pc := 87) C 111 dX4_mixParts_87 rfl (fun hc => ?_) (fun hc => ?_)
  · replace h := ite_T h hc
    cases h
    exact aw_vret (pc := 111) C dX4_mixParts_111
  · replace h := ite_F h hc
    refine aw_aload_n (pc := 90) C dX4_mixParts_90 rfl 0 rfl ?_
    refine aw_aload_n (pc := 91) C dX4_mixParts_91 rfl 0 rfl ?_
    refine aw_iload_n (pc := 92) C dX4_mixParts_92 rfl 1 rfl ?_
    refine aw_iconst (pc := 93) C (v := 4) dX4_mixParts_93 rfl ?_
    refine aw_idiv (pc := 94) C dX4_mixParts_94 (by decide) ?_
    refine aw_iload_n (pc := 95) C dX4_mixParts_95 rfl 1 rfl ?_
    refine aw_iconst (pc := 96) C (v := 4) dX4_mixParts_96 rfl ?_
    refine aw_irem (pc := 97) C dX4_mixParts_97 (by decide) ?_
    obtain ⟨q5, μ6, hq4, h⟩ := bn_some h
    refine aw_Vi (pc := 98) (a := 45) (Bs := [.int (v1 / 4), .int (v1 - v1 / 4 * 4)]) C (ok_X4_useNow C.tr hq4) kv_X4_useNow q1141 rfl rfl rfl rfl dX4_mixParts_98 ⟨(show 9 ≤ 11 by decide), (show 271 ≤ 341 by decide)⟩ ⟨Nat.zero_le _, Nat.zero_le _⟩ [.ref (ad 45)] (Nat.le_of_ble_eq_true rfl) rfl ?_
    refine aw_i2l (pc := 101) C dX4_mixParts_101 ?_
    obtain ⟨μ9, hq7, h⟩ := bi_some h
    refine aw_Vv (pc := 102) (a := 45) (Bs := [.long (q5).toInt64]) C (ok_X4_mix C.tr hq7) kv_X4_mix q1158 rfl rfl rfl rfl dX4_mixParts_102 ⟨(show 1 ≤ 11 by decide), (show 22 ≤ 341 by decide)⟩ ⟨Nat.zero_le _, Nat.zero_le _⟩ [] (Nat.le_of_ble_eq_true rfl) rfl ?_
    refine aw_iinc (pc := 105) C (v := (v1 + 1)) (lv' := [(1, .int (v1 + 1)), (0, .ref (ad 45))]) dX4_mixParts_105 1 rfl (by decide) rfl rfl ?_
    refine aw_goto (pc := 108) C 78 dX4_mixParts_108 rfl ?_
    refine aw_sub [1, 0] rfl ?_
    exact hk78 (v1 + 1) μ9 h
theorem ok_X4_mixParts_l78_w {l : Launch} {p : Program} {e : Env} {s : State} {m : MethodId} {args : Array Value} {below : List Frame} {meth : Method} {c : Code} {D : va_G} {cI cL : ClassId} {ad : Nat → Nat} (C : CX p l s m args meth c RX4 cX4_mixParts 2 none D cI cL (AA ad s.heap.size)) (hex : ∀ x ∈ c.exceptionTable.toList, False) {r : Mm}  : ∀ (n : Nat) (v1 : Int32) (μ : Mm) , itr (X4_mixParts_l78) (fun _ _ => none) n v1 μ = some r → AV l p e s m args below meth c D cI cL ad 11 2 (.inr none) r 78 [(0, .ref (ad 45)), (1, .int v1)] [] μ := by
  intro n
  induction n with
  | zero => intro v1 μ h; exact nomatch (show (none : Option Mm) = some r from h)
  | succ n ih => intro v1 μ h; exact ok_X4_mixParts_l78 C hex  ih h
theorem ok_X4_mixParts_l40 {l : Launch} {p : Program} {e : Env} {s : State} {m : MethodId} {args : Array Value} {below : List Frame} {meth : Method} {c : Code} {D : va_G} {cI cL : ClassId} {ad : Nat → Nat} (C : CX p l s m args meth c RX4 cX4_mixParts 2 none D cI cL (AA ad s.heap.size)) (hex : ∀ x ∈ c.exceptionTable.toList, False) {r : Mm} {k40 : Int32 → Mm → Option Mm} (hk40 : ∀ (v1 : Int32) (μ : Mm), k40 v1 μ = some r → AV l p e s m args below meth c D cI cL ad 11 2 (.inr none) r 40 [(0, .ref (ad 45)), (1, .int v1)] [] μ) {v1 : Int32} {μ : Mm}  (h : X4_mixParts_l40 k40 v1 μ = some r) : AV l p e s m args below meth c D cI cL ad 11 2 (.inr none) r 40 [(0, .ref (ad 45)), (1, .int v1)] [] μ := by
  unfold X4_mixParts_l40 at h
  refine aw_iload_n (pc := 40) C dX4_mixParts_40 rfl 1 rfl ?_
  refine aw_bipush (pc := 41) C (v := 8) dX4_mixParts_41 rfl ?_
  refine aw_aload_n (pc := 43) C dX4_mixParts_43 rfl 0 rfl ?_
  refine aw_get (pc := 44) C (a := 45) (k := 1) (v := .ref (ad 46)) inX4 rfl rfl (by decide) q741 dX4_mixParts_44 rfl ?_
  refine aw_iconst (pc := 47) C (v := 2) dX4_mixParts_47 rfl ?_
  obtain ⟨g2, h⟩ := ck_some h
  refine aw_iaload (pc := 48) C (a := 46) rfl g2 dX4_mixParts_48 ?_
  refine aw_imul (pc := 49) C dX4_mixParts_49 ?_
  refine aw_icmp_ge (pc := 50) C 76 dX4_mixParts_50 rfl (fun hc => ?_) (fun hc => ?_)
  · replace h := ite_T h hc
    refine aw_iconst (pc := 76) C (v := 0) dX4_mixParts_76 rfl ?_
    refine aw_istore_n (pc := 77) C (x := 0) (lv' := [(1, .int 0), (0, .ref (ad 45))]) dX4_mixParts_77 rfl (by decide) rfl rfl ?_
    refine aw_sub [1, 0] rfl ?_
    exact ok_X4_mixParts_l78_w C hex big 0 μ h
  · replace h := ite_F h hc
    refine aw_aload_n (pc := 53) C dX4_mixParts_53 rfl 0 rfl ?_
    refine aw_aload_n (pc := 54) C dX4_mixParts_54 rfl 0 rfl ?_
    refine aw_iload_n (pc := 55) C dX4_mixParts_55 rfl 1 rfl ?_
    refine aw_bipush (pc := 56) C (v := 8) dX4_mixParts_56 rfl ?_
    refine aw_idiv (pc := 58) C dX4_mixParts_58 (by decide) ?_
    refine aw_iload_n (pc := 59) C dX4_mixParts_59 rfl 1 rfl ?_
    refine aw_bipush (pc := 60) C (v := 8) dX4_mixParts_60 rfl ?_
    refine aw_irem (pc := 62) C dX4_mixParts_62 (by decide) ?_
    obtain ⟨q11, μ12, hq10, h⟩ := bn_some h
    refine aw_Vi (pc := 63) (a := 45) (Bs := [.int (v1 / 8), .int (v1 - v1 / 8 * 8)]) C (ok_X4_importNow C.tr hq10) kv_X4_importNow q1133 rfl rfl rfl rfl dX4_mixParts_63 ⟨(show 11 ≤ 11 by decide), (show 332 ≤ 341 by decide)⟩ ⟨Nat.zero_le _, Nat.zero_le _⟩ [.ref (ad 45)] (Nat.le_of_ble_eq_true rfl) rfl ?_
    refine aw_i2l (pc := 66) C dX4_mixParts_66 ?_
    obtain ⟨μ15, hq13, h⟩ := bi_some h
    refine aw_Vv (pc := 67) (a := 45) (Bs := [.long (q11).toInt64]) C (ok_X4_mix C.tr hq13) kv_X4_mix q1158 rfl rfl rfl rfl dX4_mixParts_67 ⟨(show 1 ≤ 11 by decide), (show 22 ≤ 341 by decide)⟩ ⟨Nat.zero_le _, Nat.zero_le _⟩ [] (Nat.le_of_ble_eq_true rfl) rfl ?_
    refine aw_iinc (pc := 70) C (v := (v1 + 1)) (lv' := [(1, .int (v1 + 1)), (0, .ref (ad 45))]) dX4_mixParts_70 1 rfl (by decide) rfl rfl ?_
    refine aw_goto (pc := 73) C 40 dX4_mixParts_73 rfl ?_
    refine aw_sub [1, 0] rfl ?_
    exact hk40 (v1 + 1) μ15 h
theorem ok_X4_mixParts_l40_w {l : Launch} {p : Program} {e : Env} {s : State} {m : MethodId} {args : Array Value} {below : List Frame} {meth : Method} {c : Code} {D : va_G} {cI cL : ClassId} {ad : Nat → Nat} (C : CX p l s m args meth c RX4 cX4_mixParts 2 none D cI cL (AA ad s.heap.size)) (hex : ∀ x ∈ c.exceptionTable.toList, False) {r : Mm}  : ∀ (n : Nat) (v1 : Int32) (μ : Mm) , itr (X4_mixParts_l40) (fun _ _ => none) n v1 μ = some r → AV l p e s m args below meth c D cI cL ad 11 2 (.inr none) r 40 [(0, .ref (ad 45)), (1, .int v1)] [] μ := by
  intro n
  induction n with
  | zero => intro v1 μ h; exact nomatch (show (none : Option Mm) = some r from h)
  | succ n ih => intro v1 μ h; exact ok_X4_mixParts_l40 C hex  ih h
theorem ok_X4_mixParts_l2 {l : Launch} {p : Program} {e : Env} {s : State} {m : MethodId} {args : Array Value} {below : List Frame} {meth : Method} {c : Code} {D : va_G} {cI cL : ClassId} {ad : Nat → Nat} (C : CX p l s m args meth c RX4 cX4_mixParts 2 none D cI cL (AA ad s.heap.size)) (hex : ∀ x ∈ c.exceptionTable.toList, False) {r : Mm} {k2 : Int32 → Mm → Option Mm} (hk2 : ∀ (v1 : Int32) (μ : Mm), k2 v1 μ = some r → AV l p e s m args below meth c D cI cL ad 11 2 (.inr none) r 2 [(0, .ref (ad 45)), (1, .int v1)] [] μ) {v1 : Int32} {μ : Mm}  (h : X4_mixParts_l2 k2 v1 μ = some r) : AV l p e s m args below meth c D cI cL ad 11 2 (.inr none) r 2 [(0, .ref (ad 45)), (1, .int v1)] [] μ := by
  unfold X4_mixParts_l2 at h
  refine aw_iload_n (pc := 2) C dX4_mixParts_2 rfl 1 rfl ?_
  refine aw_bipush (pc := 3) C (v := 6) dX4_mixParts_3 rfl ?_
  refine aw_aload_n (pc := 5) C dX4_mixParts_5 rfl 0 rfl ?_
  refine aw_get (pc := 6) C (a := 45) (k := 1) (v := .ref (ad 46)) inX4 rfl rfl (by decide) q741 dX4_mixParts_6 rfl ?_
  refine aw_iconst (pc := 9) C (v := 1) dX4_mixParts_9 rfl ?_
  obtain ⟨g1, h⟩ := ck_some h
  refine aw_iaload (pc := 10) C (a := 46) rfl g1 dX4_mixParts_10 ?_
  refine aw_imul (pc := 11) C dX4_mixParts_11 ?_
  refine aw_icmp_ge (pc := 12) C 38 dX4_mixParts_12 rfl (fun hc => ?_) (fun hc => ?_)
  · replace h := ite_T h hc
    refine aw_iconst (pc := 38) C (v := 0) dX4_mixParts_38 rfl ?_
    refine aw_istore_n (pc := 39) C (x := 0) (lv' := [(1, .int 0), (0, .ref (ad 45))]) dX4_mixParts_39 rfl (by decide) rfl rfl ?_
    refine aw_sub [1, 0] rfl ?_
    exact ok_X4_mixParts_l40_w C hex big 0 μ h
  · replace h := ite_F h hc
    refine aw_aload_n (pc := 15) C dX4_mixParts_15 rfl 0 rfl ?_
    refine aw_aload_n (pc := 16) C dX4_mixParts_16 rfl 0 rfl ?_
    refine aw_iload_n (pc := 17) C dX4_mixParts_17 rfl 1 rfl ?_
    refine aw_bipush (pc := 18) C (v := 6) dX4_mixParts_18 rfl ?_
    refine aw_idiv (pc := 20) C dX4_mixParts_20 (by decide) ?_
    refine aw_iload_n (pc := 21) C dX4_mixParts_21 rfl 1 rfl ?_
    refine aw_bipush (pc := 22) C (v := 6) dX4_mixParts_22 rfl ?_
    refine aw_irem (pc := 24) C dX4_mixParts_24 (by decide) ?_
    obtain ⟨q17, μ18, hq16, h⟩ := bn_some h
    refine aw_Vi (pc := 25) (a := 45) (Bs := [.int (v1 / 6), .int (v1 - v1 / 6 * 6)]) C (ok_X4_declarationNow C.tr hq16) kv_X4_declarationNow q1117 rfl rfl rfl rfl dX4_mixParts_25 ⟨(show 10 ≤ 11 by decide), (show 301 ≤ 341 by decide)⟩ ⟨Nat.zero_le _, Nat.zero_le _⟩ [.ref (ad 45)] (Nat.le_of_ble_eq_true rfl) rfl ?_
    refine aw_i2l (pc := 28) C dX4_mixParts_28 ?_
    obtain ⟨μ21, hq19, h⟩ := bi_some h
    refine aw_Vv (pc := 29) (a := 45) (Bs := [.long (q17).toInt64]) C (ok_X4_mix C.tr hq19) kv_X4_mix q1158 rfl rfl rfl rfl dX4_mixParts_29 ⟨(show 1 ≤ 11 by decide), (show 22 ≤ 341 by decide)⟩ ⟨Nat.zero_le _, Nat.zero_le _⟩ [] (Nat.le_of_ble_eq_true rfl) rfl ?_
    refine aw_iinc (pc := 32) C (v := (v1 + 1)) (lv' := [(1, .int (v1 + 1)), (0, .ref (ad 45))]) dX4_mixParts_32 1 rfl (by decide) rfl rfl ?_
    refine aw_goto (pc := 35) C 2 dX4_mixParts_35 rfl ?_
    refine aw_sub [1, 0] rfl ?_
    exact hk2 (v1 + 1) μ21 h
theorem ok_X4_mixParts_l2_w {l : Launch} {p : Program} {e : Env} {s : State} {m : MethodId} {args : Array Value} {below : List Frame} {meth : Method} {c : Code} {D : va_G} {cI cL : ClassId} {ad : Nat → Nat} (C : CX p l s m args meth c RX4 cX4_mixParts 2 none D cI cL (AA ad s.heap.size)) (hex : ∀ x ∈ c.exceptionTable.toList, False) {r : Mm}  : ∀ (n : Nat) (v1 : Int32) (μ : Mm) , itr (X4_mixParts_l2) (fun _ _ => none) n v1 μ = some r → AV l p e s m args below meth c D cI cL ad 11 2 (.inr none) r 2 [(0, .ref (ad 45)), (1, .int v1)] [] μ := by
  intro n
  induction n with
  | zero => intro v1 μ h; exact nomatch (show (none : Option Mm) = some r from h)
  | succ n ih => intro v1 μ h; exact ok_X4_mixParts_l2 C hex  ih h
theorem ok_X4_mixParts {l : Launch} (htr : l.stackTraces = false) {μ : Mm} {r : Mm}  (h : X4_mixParts μ = some r) : MetX l yX4_mixParts cX4_mixParts 2 none 11 (fun ad => [.ref (ad 45)]) μ (.inr none) r := by
  refine MetX.of htr (by decide) rfl (fun ad => Nat.le_of_ble_eq_true rfl) (fun p e s m args below meth c D cI cL ad C hex hw => ?_)
  show AV l p e s m args below meth c D cI cL ad 11 2 (.inr none) r 0 [(0, .ref (ad 45))] [] μ
  unfold X4_mixParts at h
  refine aw_iconst (pc := 0) C (v := 0) dX4_mixParts_0 rfl ?_
  refine aw_istore_n (pc := 1) C (x := 0) (lv' := [(1, .int 0), (0, .ref (ad 45))]) dX4_mixParts_1 rfl (by decide) rfl rfl ?_
  refine aw_sub [1, 0] rfl ?_
  exact ok_X4_mixParts_l2_w C hex big 0 μ h
/-! ### NameScopesModel.digest()J -/
theorem ok_X4_digest_l104 {l : Launch} {p : Program} {e : Env} {s : State} {m : MethodId} {args : Array Value} {below : List Frame} {meth : Method} {c : Code} {D : va_G} {cI cL : ClassId} {ad : Nat → Nat} (C : CX p l s m args meth c RX4 cX4_digest 2 (some .long) D cI cL (AA ad s.heap.size)) (hex : ∀ x ∈ c.exceptionTable.toList, False) {r : (Int64 × Mm)} {k104 : Int32 → Mm → Option (Int64 × Mm)} (hk104 : ∀ (v1 : Int32) (μ : Mm), k104 v1 μ = some r → AV l p e s m args below meth c D cI cL ad 12 2 (.inr (some (.long r.1))) r.2 104 [(0, .ref (ad 45)), (1, .int v1)] [] μ) {v1 : Int32} {μ : Mm}  (h : X4_digest_l104 k104 v1 μ = some r) : AV l p e s m args below meth c D cI cL ad 12 2 (.inr (some (.long r.1))) r.2 104 [(0, .ref (ad 45)), (1, .int v1)] [] μ := by
  unfold X4_digest_l104 at h
  refine aw_iload_n (pc := 104) C dX4_digest_104 rfl 1 rfl ?_
  refine aw_aload_n (pc := 105) C dX4_digest_105 rfl 0 rfl ?_
  refine aw_get (pc := 106) C (a := 45) (k := 5) (v := .int (μ.1 45 5)) inX4 rfl rfl (by decide) q745 dX4_digest_106 rfl ?_
  refine aw_icmp_ge (pc := 109) C 129 dX4_digest_109 rfl (fun hc => ?_) (fun hc => ?_)
  · replace h := ite_T h hc
    refine aw_aload_n (pc := 129) C dX4_digest_129 rfl 0 rfl ?_
    refine aw_get (pc := 130) C (a := 45) (k := 25) (v := .long (mH μ)) inX4 rfl rfl (by decide) q765 dX4_digest_130 rfl ?_
    cases h
    exact aw_lret (pc := 133) C dX4_digest_133
  · replace h := ite_F h hc
    refine aw_aload_n (pc := 112) C dX4_digest_112 rfl 0 rfl ?_
    refine aw_aload_n (pc := 113) C dX4_digest_113 rfl 0 rfl ?_
    refine aw_get (pc := 114) C (a := 45) (k := 6) (v := .ref (ad 49)) inX4 rfl rfl (by decide) q746 dX4_digest_114 rfl ?_
    refine aw_iload_n (pc := 117) C dX4_digest_117 rfl 1 rfl ?_
    obtain ⟨g10, h⟩ := ck_some h
    refine aw_iaload (pc := 118) C (a := 49) rfl g10 dX4_digest_118 ?_
    refine aw_i2l (pc := 119) C dX4_digest_119 ?_
    obtain ⟨μ13, hq11, h⟩ := bi_some h
    refine aw_Vv (pc := 120) (a := 45) (Bs := [.long ((μ.1 49 (v1 : Int32).toNatClampNeg)).toInt64]) C (ok_X4_mix C.tr hq11) kv_X4_mix q1158 rfl rfl rfl rfl dX4_digest_120 ⟨(show 1 ≤ 12 by decide), (show 22 ≤ 372 by decide)⟩ ⟨Nat.zero_le _, Nat.zero_le _⟩ [] (Nat.le_of_ble_eq_true rfl) rfl ?_
    refine aw_iinc (pc := 123) C (v := (v1 + 1)) (lv' := [(1, .int (v1 + 1)), (0, .ref (ad 45))]) dX4_digest_123 1 rfl (by decide) rfl rfl ?_
    refine aw_goto (pc := 126) C 104 dX4_digest_126 rfl ?_
    refine aw_sub [1, 0] rfl ?_
    exact hk104 (v1 + 1) μ13 h
theorem ok_X4_digest_l104_w {l : Launch} {p : Program} {e : Env} {s : State} {m : MethodId} {args : Array Value} {below : List Frame} {meth : Method} {c : Code} {D : va_G} {cI cL : ClassId} {ad : Nat → Nat} (C : CX p l s m args meth c RX4 cX4_digest 2 (some .long) D cI cL (AA ad s.heap.size)) (hex : ∀ x ∈ c.exceptionTable.toList, False) {r : (Int64 × Mm)}  : ∀ (n : Nat) (v1 : Int32) (μ : Mm) , itr (X4_digest_l104) (fun _ _ => none) n v1 μ = some r → AV l p e s m args below meth c D cI cL ad 12 2 (.inr (some (.long r.1))) r.2 104 [(0, .ref (ad 45)), (1, .int v1)] [] μ := by
  intro n
  induction n with
  | zero => intro v1 μ h; exact nomatch (show (none : Option (Int64 × Mm)) = some r from h)
  | succ n ih => intro v1 μ h; exact ok_X4_digest_l104 C hex  ih h
theorem ok_X4_digest_l38 {l : Launch} {p : Program} {e : Env} {s : State} {m : MethodId} {args : Array Value} {below : List Frame} {meth : Method} {c : Code} {D : va_G} {cI cL : ClassId} {ad : Nat → Nat} (C : CX p l s m args meth c RX4 cX4_digest 2 (some .long) D cI cL (AA ad s.heap.size)) (hex : ∀ x ∈ c.exceptionTable.toList, False) {r : (Int64 × Mm)} {k38 : Int32 → Mm → Option (Int64 × Mm)} (hk38 : ∀ (v1 : Int32) (μ : Mm), k38 v1 μ = some r → AV l p e s m args below meth c D cI cL ad 12 2 (.inr (some (.long r.1))) r.2 38 [(0, .ref (ad 45)), (1, .int v1)] [] μ) {v1 : Int32} {μ : Mm}  (h : X4_digest_l38 k38 v1 μ = some r) : AV l p e s m args below meth c D cI cL ad 12 2 (.inr (some (.long r.1))) r.2 38 [(0, .ref (ad 45)), (1, .int v1)] [] μ := by
  unfold X4_digest_l38 at h
  refine aw_iload_n (pc := 38) C dX4_digest_38 rfl 1 rfl ?_
  refine aw_aload_n (pc := 39) C dX4_digest_39 rfl 0 rfl ?_
  refine aw_get (pc := 40) C (a := 45) (k := 1) (v := .ref (ad 46)) inX4 rfl rfl (by decide) q741 dX4_digest_40 rfl ?_
  refine aw_iconst (pc := 43) C (v := 0) dX4_digest_43 rfl ?_
  obtain ⟨g3, h⟩ := ck_some h
  refine aw_iaload (pc := 44) C (a := 46) rfl g3 dX4_digest_44 ?_
  refine aw_icmp_ge (pc := 45) C 89 dX4_digest_45 rfl (fun hc => ?_) (fun hc => ?_)
  · replace h := ite_T h hc
    refine aw_aload_n (pc := 89) C dX4_digest_89 rfl 0 rfl ?_
    obtain ⟨μ6, hq4, h⟩ := bi_some h
    refine aw_Vv (pc := 90) (a := 45) (Bs := []) C (ok_X4_mixParts C.tr hq4) kv_X4_mixParts q1163 rfl rfl rfl rfl dX4_digest_90 ⟨(show 12 ≤ 12 by decide), (show 362 ≤ 372 by decide)⟩ ⟨Nat.zero_le _, Nat.zero_le _⟩ [] (Nat.le_of_ble_eq_true rfl) rfl ?_
    refine aw_aload_n (pc := 93) C dX4_digest_93 rfl 0 rfl ?_
    refine aw_aload_n (pc := 94) C dX4_digest_94 rfl 0 rfl ?_
    refine aw_get (pc := 95) C (a := 45) (k := 5) (v := .int (μ6.1 45 5)) inX4 rfl rfl (by decide) q745 dX4_digest_95 rfl ?_
    refine aw_i2l (pc := 98) C dX4_digest_98 ?_
    obtain ⟨μ9, hq7, h⟩ := bi_some h
    refine aw_Vv (pc := 99) (a := 45) (Bs := [.long ((μ6.1 45 5)).toInt64]) C (ok_X4_mix C.tr hq7) kv_X4_mix q1158 rfl rfl rfl rfl dX4_digest_99 ⟨(show 1 ≤ 12 by decide), (show 22 ≤ 372 by decide)⟩ ⟨Nat.zero_le _, Nat.zero_le _⟩ [] (Nat.le_of_ble_eq_true rfl) rfl ?_
    refine aw_iconst (pc := 102) C (v := 0) dX4_digest_102 rfl ?_
    refine aw_istore_n (pc := 103) C (x := 0) (lv' := [(1, .int 0), (0, .ref (ad 45))]) dX4_digest_103 rfl (by decide) rfl rfl ?_
    refine aw_sub [1, 0] rfl ?_
    exact ok_X4_digest_l104_w C hex big 0 μ9 h
  · replace h := ite_F h hc
    refine aw_aload_n (pc := 48) C dX4_digest_48 rfl 0 rfl ?_
    refine aw_aload_n (pc := 49) C dX4_digest_49 rfl 0 rfl ?_
    refine aw_get (pc := 50) C (a := 45) (k := 1) (v := .ref (ad 46)) inX4 rfl rfl (by decide) q741 dX4_digest_50 rfl ?_
    refine aw_iconst (pc := 53) C (v := 4) dX4_digest_53 rfl ?_
    refine aw_iload_n (pc := 54) C dX4_digest_54 rfl 1 rfl ?_
    refine aw_iadd (pc := 55) C dX4_digest_55 ?_
    obtain ⟨g14, h⟩ := ck_some h
    refine aw_iaload (pc := 56) C (a := 46) rfl g14 dX4_digest_56 ?_
    refine aw_i2l (pc := 57) C dX4_digest_57 ?_
    obtain ⟨μ17, hq15, h⟩ := bi_some h
    refine aw_Vv (pc := 58) (a := 45) (Bs := [.long ((μ.1 46 ((4 + v1) : Int32).toNatClampNeg)).toInt64]) C (ok_X4_mix C.tr hq15) kv_X4_mix q1158 rfl rfl rfl rfl dX4_digest_58 ⟨(show 1 ≤ 12 by decide), (show 22 ≤ 372 by decide)⟩ ⟨Nat.zero_le _, Nat.zero_le _⟩ [] (Nat.le_of_ble_eq_true rfl) rfl ?_
    refine aw_aload_n (pc := 61) C dX4_digest_61 rfl 0 rfl ?_
    refine aw_aload_n (pc := 62) C dX4_digest_62 rfl 0 rfl ?_
    refine aw_iload_n (pc := 63) C dX4_digest_63 rfl 1 rfl ?_
    refine aw_iconst (pc := 64) C (v := 0) dX4_digest_64 rfl ?_
    obtain ⟨q19, μ20, hq18, h⟩ := bn_some h
    refine aw_Vi (pc := 65) (a := 45) (Bs := [.int v1, .int 0]) C (ok_X4_seen C.tr hq18) kv_X4_seen q1041 rfl rfl rfl rfl dX4_digest_65 ⟨(show 8 ≤ 12 by decide), (show 242 ≤ 372 by decide)⟩ ⟨Nat.zero_le _, Nat.zero_le _⟩ [.ref (ad 45)] (Nat.le_of_ble_eq_true rfl) rfl ?_
    refine aw_i2l (pc := 68) C dX4_digest_68 ?_
    obtain ⟨μ23, hq21, h⟩ := bi_some h
    refine aw_Vv (pc := 69) (a := 45) (Bs := [.long (q19).toInt64]) C (ok_X4_mix C.tr hq21) kv_X4_mix q1158 rfl rfl rfl rfl dX4_digest_69 ⟨(show 1 ≤ 12 by decide), (show 22 ≤ 372 by decide)⟩ ⟨Nat.zero_le _, Nat.zero_le _⟩ [] (Nat.le_of_ble_eq_true rfl) rfl ?_
    refine aw_aload_n (pc := 72) C dX4_digest_72 rfl 0 rfl ?_
    refine aw_aload_n (pc := 73) C dX4_digest_73 rfl 0 rfl ?_
    refine aw_iload_n (pc := 74) C dX4_digest_74 rfl 1 rfl ?_
    refine aw_iconst (pc := 75) C (v := 1) dX4_digest_75 rfl ?_
    obtain ⟨q25, μ26, hq24, h⟩ := bn_some h
    refine aw_Vi (pc := 76) (a := 45) (Bs := [.int v1, .int 1]) C (ok_X4_seen C.tr hq24) kv_X4_seen q1041 rfl rfl rfl rfl dX4_digest_76 ⟨(show 8 ≤ 12 by decide), (show 242 ≤ 372 by decide)⟩ ⟨Nat.zero_le _, Nat.zero_le _⟩ [.ref (ad 45)] (Nat.le_of_ble_eq_true rfl) rfl ?_
    refine aw_i2l (pc := 79) C dX4_digest_79 ?_
    obtain ⟨μ29, hq27, h⟩ := bi_some h
    refine aw_Vv (pc := 80) (a := 45) (Bs := [.long (q25).toInt64]) C (ok_X4_mix C.tr hq27) kv_X4_mix q1158 rfl rfl rfl rfl dX4_digest_80 ⟨(show 1 ≤ 12 by decide), (show 22 ≤ 372 by decide)⟩ ⟨Nat.zero_le _, Nat.zero_le _⟩ [] (Nat.le_of_ble_eq_true rfl) rfl ?_
    refine aw_iinc (pc := 83) C (v := (v1 + 1)) (lv' := [(1, .int (v1 + 1)), (0, .ref (ad 45))]) dX4_digest_83 1 rfl (by decide) rfl rfl ?_
    refine aw_goto (pc := 86) C 38 dX4_digest_86 rfl ?_
    refine aw_sub [1, 0] rfl ?_
    exact hk38 (v1 + 1) μ29 h
theorem ok_X4_digest_l38_w {l : Launch} {p : Program} {e : Env} {s : State} {m : MethodId} {args : Array Value} {below : List Frame} {meth : Method} {c : Code} {D : va_G} {cI cL : ClassId} {ad : Nat → Nat} (C : CX p l s m args meth c RX4 cX4_digest 2 (some .long) D cI cL (AA ad s.heap.size)) (hex : ∀ x ∈ c.exceptionTable.toList, False) {r : (Int64 × Mm)}  : ∀ (n : Nat) (v1 : Int32) (μ : Mm) , itr (X4_digest_l38) (fun _ _ => none) n v1 μ = some r → AV l p e s m args below meth c D cI cL ad 12 2 (.inr (some (.long r.1))) r.2 38 [(0, .ref (ad 45)), (1, .int v1)] [] μ := by
  intro n
  induction n with
  | zero => intro v1 μ h; exact nomatch (show (none : Option (Int64 × Mm)) = some r from h)
  | succ n ih => intro v1 μ h; exact ok_X4_digest_l38 C hex  ih h
theorem ok_X4_digest_l14 {l : Launch} {p : Program} {e : Env} {s : State} {m : MethodId} {args : Array Value} {below : List Frame} {meth : Method} {c : Code} {D : va_G} {cI cL : ClassId} {ad : Nat → Nat} (C : CX p l s m args meth c RX4 cX4_digest 2 (some .long) D cI cL (AA ad s.heap.size)) (hex : ∀ x ∈ c.exceptionTable.toList, False) {r : (Int64 × Mm)} {k14 : Int32 → Mm → Option (Int64 × Mm)} (hk14 : ∀ (v1 : Int32) (μ : Mm), k14 v1 μ = some r → AV l p e s m args below meth c D cI cL ad 12 2 (.inr (some (.long r.1))) r.2 14 [(0, .ref (ad 45)), (1, .int v1)] [] μ) {v1 : Int32} {μ : Mm}  (h : X4_digest_l14 k14 v1 μ = some r) : AV l p e s m args below meth c D cI cL ad 12 2 (.inr (some (.long r.1))) r.2 14 [(0, .ref (ad 45)), (1, .int v1)] [] μ := by
  unfold X4_digest_l14 at h
  refine aw_iload_n (pc := 14) C dX4_digest_14 rfl 1 rfl ?_
  refine aw_bipush (pc := 15) C (v := 11) dX4_digest_15 rfl ?_
  refine aw_icmp_ge (pc := 17) C 36 dX4_digest_17 rfl (fun hc => ?_) (fun hc => ?_)
  · replace h := ite_T h hc
    refine aw_iconst (pc := 36) C (v := 0) dX4_digest_36 rfl ?_
    refine aw_istore_n (pc := 37) C (x := 0) (lv' := [(1, .int 0), (0, .ref (ad 45))]) dX4_digest_37 rfl (by decide) rfl rfl ?_
    refine aw_sub [1, 0] rfl ?_
    exact ok_X4_digest_l38_w C hex big 0 μ h
  · replace h := ite_F h hc
    refine aw_aload_n (pc := 20) C dX4_digest_20 rfl 0 rfl ?_
    refine aw_aload_n (pc := 21) C dX4_digest_21 rfl 0 rfl ?_
    refine aw_iload_n (pc := 22) C dX4_digest_22 rfl 1 rfl ?_
    obtain ⟨q31, μ32, hq30, h⟩ := bn_some h
    refine aw_Vi (pc := 23) (a := 45) (Bs := [.int v1]) C (ok_X4_counted C.tr hq30) kv_X4_counted q1073 rfl rfl rfl rfl dX4_digest_23 ⟨(show 12 ≤ 12 by decide), (show 362 ≤ 372 by decide)⟩ ⟨Nat.zero_le _, Nat.zero_le _⟩ [.ref (ad 45)] (Nat.le_of_ble_eq_true rfl) rfl ?_
    refine aw_i2l (pc := 26) C dX4_digest_26 ?_
    obtain ⟨μ35, hq33, h⟩ := bi_some h
    refine aw_Vv (pc := 27) (a := 45) (Bs := [.long (q31).toInt64]) C (ok_X4_mix C.tr hq33) kv_X4_mix q1158 rfl rfl rfl rfl dX4_digest_27 ⟨(show 1 ≤ 12 by decide), (show 22 ≤ 372 by decide)⟩ ⟨Nat.zero_le _, Nat.zero_le _⟩ [] (Nat.le_of_ble_eq_true rfl) rfl ?_
    refine aw_iinc (pc := 30) C (v := (v1 + 1)) (lv' := [(1, .int (v1 + 1)), (0, .ref (ad 45))]) dX4_digest_30 1 rfl (by decide) rfl rfl ?_
    refine aw_goto (pc := 33) C 14 dX4_digest_33 rfl ?_
    refine aw_sub [1, 0] rfl ?_
    exact hk14 (v1 + 1) μ35 h
theorem ok_X4_digest_l14_w {l : Launch} {p : Program} {e : Env} {s : State} {m : MethodId} {args : Array Value} {below : List Frame} {meth : Method} {c : Code} {D : va_G} {cI cL : ClassId} {ad : Nat → Nat} (C : CX p l s m args meth c RX4 cX4_digest 2 (some .long) D cI cL (AA ad s.heap.size)) (hex : ∀ x ∈ c.exceptionTable.toList, False) {r : (Int64 × Mm)}  : ∀ (n : Nat) (v1 : Int32) (μ : Mm) , itr (X4_digest_l14) (fun _ _ => none) n v1 μ = some r → AV l p e s m args below meth c D cI cL ad 12 2 (.inr (some (.long r.1))) r.2 14 [(0, .ref (ad 45)), (1, .int v1)] [] μ := by
  intro n
  induction n with
  | zero => intro v1 μ h; exact nomatch (show (none : Option (Int64 × Mm)) = some r from h)
  | succ n ih => intro v1 μ h; exact ok_X4_digest_l14 C hex  ih h
theorem ok_X4_digest {l : Launch} (htr : l.stackTraces = false) {μ : Mm} {r : (Int64 × Mm)}  (h : X4_digest μ = some r) : MetX l yX4_digest cX4_digest 2 (some .long) 12 (fun ad => [.ref (ad 45)]) μ (.inr (some (.long r.1))) r.2 := by
  refine MetX.of htr (by decide) rfl (fun ad => Nat.le_of_ble_eq_true rfl) (fun p e s m args below meth c D cI cL ad C hex hw => ?_)
  show AV l p e s m args below meth c D cI cL ad 12 2 (.inr (some (.long r.1))) r.2 0 [(0, .ref (ad 45))] [] μ
  unfold X4_digest at h
  refine aw_aload_n (pc := 0) C dX4_digest_0 rfl 0 rfl ?_
  refine aw_iconst (pc := 1) C (v := 0) dX4_digest_1 rfl ?_
  obtain ⟨μ1, eμ1, h⟩ := bd_some h
  refine aw_putI (pc := 2) C (a := 45) (k := 0) (ty := .int) inX4 tyX4 tyX4_ok nmX4 rfl rfl (by decide) q740 rfl (by decide +kernel) rfl rfl (by show 0 < 26; decide) dX4_digest_2 fl_4_0 eμ1 ?_
  refine aw_aload_n (pc := 5) C dX4_digest_5 rfl 0 rfl ?_
  refine aw_ldc2_w (pc := 6) C dX4_digest_6 q1157 ?_
  obtain ⟨μ2, eμ2, h⟩ := bd_some h
  refine aw_putV (pc := 9) C (μ' := μ2) (a := 45) (k := 25) (ty := .long) inX4 tyX4 tyX4_ok nmX4 rfl rfl (by decide) q765 rfl (by decide +kernel) rfl rfl (by show 25 < 26; decide) dX4_digest_9 (fun q => by subst eμ2; exact q) (by subst eμ2; exact ws_h) ?_
  refine aw_iconst (pc := 12) C (v := 0) dX4_digest_12 rfl ?_
  refine aw_istore_n (pc := 13) C (x := 0) (lv' := [(1, .int 0), (0, .ref (ad 45))]) dX4_digest_13 rfl (by decide) rfl rfl ?_
  refine aw_sub [1, 0] rfl ?_
  exact ok_X4_digest_l14_w C hex big 0 μ2 h
/-! ### NameScopesModel.use(II)I -/
theorem ok_X4_use_j40 {l : Launch} {p : Program} {e : Env} {s : State} {m : MethodId} {args : Array Value} {below : List Frame} {meth : Method} {c : Code} {D : va_G} {cI cL : ClassId} {ad : Nat → Nat} (C : CX p l s m args meth c RX4 cX4_use 3 (some .int) D cI cL (AA ad s.heap.size)) (hex : ∀ x ∈ c.exceptionTable.toList, False) {r : (Int32 × Mm)} {v1 : Int32} {v2 : Int32} {s0 : Int32} {μ : Mm}  (h : X4_use_j40 v1 v2 s0 μ = some r) : AV l p e s m args below meth c D cI cL ad 2 3 (.inr (some (.int r.1))) r.2 40 [(0, .ref (ad 45)), (1, .int v1), (2, .int v2)] [.int s0, .ref (ad 45)] μ := by
  unfold X4_use_j40 at h
  obtain ⟨μ17, eμ17, h⟩ := bd_some h
  refine aw_putI (pc := 40) C (a := 45) (k := 0) (ty := .int) inX4 tyX4 tyX4_ok nmX4 rfl rfl (by decide) q740 rfl (by decide +kernel) rfl rfl (by show 0 < 26; decide) dX4_use_40 fl_4_0 eμ17 ?_
  refine aw_aload_n (pc := 43) C dX4_use_43 rfl 0 rfl ?_
  refine aw_get (pc := 44) C (a := 45) (k := 0) (v := .int (μ17.1 45 0)) inX4 rfl rfl (by decide) q740 dX4_use_44 rfl ?_
  refine aw_if_le (pc := 47) C 52 dX4_use_47 rfl (fun hc => ?_) (fun hc => ?_)
  · replace h := ite_T h hc
    refine aw_aload_n (pc := 52) C dX4_use_52 rfl 0 rfl ?_
    refine aw_get (pc := 53) C (a := 45) (k := 1) (v := .ref (ad 46)) inX4 rfl rfl (by decide) q741 dX4_use_53 rfl ?_
    refine aw_sipush (pc := 56) C (v := 230) dX4_use_56 rfl ?_
    refine aw_iconst (pc := 59) C (v := 2) dX4_use_59 rfl ?_
    refine aw_aload_n (pc := 60) C dX4_use_60 rfl 0 rfl ?_
    refine aw_get (pc := 61) C (a := 45) (k := 1) (v := .ref (ad 46)) inX4 rfl rfl (by decide) q741 dX4_use_61 rfl ?_
    refine aw_iconst (pc := 64) C (v := 3) dX4_use_64 rfl ?_
    obtain ⟨g18, h⟩ := ck_some h
    refine aw_iaload (pc := 65) C (a := 46) rfl g18 dX4_use_65 ?_
    refine aw_imul (pc := 66) C dX4_use_66 ?_
    refine aw_iadd (pc := 67) C dX4_use_67 ?_
    refine aw_iload_n (pc := 68) C dX4_use_68 rfl 1 rfl ?_
    obtain ⟨g19, h⟩ := ck_some h
    obtain ⟨μ20, eμ20, h⟩ := bd_some h
    refine aw_iastore (pc := 69) C (a := 46) rfl g19 dX4_use_69 eμ20 ?_
    refine aw_aload_n (pc := 70) C dX4_use_70 rfl 0 rfl ?_
    refine aw_get (pc := 71) C (a := 45) (k := 1) (v := .ref (ad 46)) inX4 rfl rfl (by decide) q741 dX4_use_71 rfl ?_
    refine aw_sipush (pc := 74) C (v := 230) dX4_use_74 rfl ?_
    refine aw_iconst (pc := 77) C (v := 2) dX4_use_77 rfl ?_
    refine aw_aload_n (pc := 78) C dX4_use_78 rfl 0 rfl ?_
    refine aw_get (pc := 79) C (a := 45) (k := 1) (v := .ref (ad 46)) inX4 rfl rfl (by decide) q741 dX4_use_79 rfl ?_
    refine aw_iconst (pc := 82) C (v := 3) dX4_use_82 rfl ?_
    obtain ⟨g21, h⟩ := ck_some h
    refine aw_iaload (pc := 83) C (a := 46) rfl g21 dX4_use_83 ?_
    refine aw_imul (pc := 84) C dX4_use_84 ?_
    refine aw_iadd (pc := 85) C dX4_use_85 ?_
    refine aw_iconst (pc := 86) C (v := 1) dX4_use_86 rfl ?_
    refine aw_iadd (pc := 87) C dX4_use_87 ?_
    refine aw_iload_n (pc := 88) C dX4_use_88 rfl 2 rfl ?_
    obtain ⟨g22, h⟩ := ck_some h
    obtain ⟨μ23, eμ23, h⟩ := bd_some h
    refine aw_iastore (pc := 89) C (a := 46) rfl g22 dX4_use_89 eμ23 ?_
    refine aw_aload_n (pc := 90) C dX4_use_90 rfl 0 rfl ?_
    refine aw_get (pc := 91) C (a := 45) (k := 1) (v := .ref (ad 46)) inX4 rfl rfl (by decide) q741 dX4_use_91 rfl ?_
    refine aw_iconst (pc := 94) C (v := 3) dX4_use_94 rfl ?_
    refine aw_dup2 (pc := 95) C dX4_use_95 rfl rfl ?_
    obtain ⟨g24, h⟩ := ck_some h
    refine aw_iaload (pc := 96) C (a := 46) rfl g24 dX4_use_96 ?_
    refine aw_iconst (pc := 97) C (v := 1) dX4_use_97 rfl ?_
    refine aw_iadd (pc := 98) C dX4_use_98 ?_
    obtain ⟨g25, h⟩ := ck_some h
    obtain ⟨μ26, eμ26, h⟩ := bd_some h
    refine aw_iastore (pc := 99) C (a := 46) rfl g25 dX4_use_99 eμ26 ?_
    refine aw_aload_n (pc := 100) C dX4_use_100 rfl 0 rfl ?_
    refine aw_get (pc := 101) C (a := 45) (k := 1) (v := .ref (ad 46)) inX4 rfl rfl (by decide) q741 dX4_use_101 rfl ?_
    refine aw_iconst (pc := 104) C (v := 3) dX4_use_104 rfl ?_
    obtain ⟨g27, h⟩ := ck_some h
    refine aw_iaload (pc := 105) C (a := 46) rfl g27 dX4_use_105 ?_
    refine aw_iconst (pc := 106) C (v := 1) dX4_use_106 rfl ?_
    refine aw_isub (pc := 107) C dX4_use_107 ?_
    cases h
    exact aw_iret (pc := 108) C dX4_use_108
  · replace h := ite_F h hc
    refine aw_iconst (pc := 50) C (v := 0) dX4_use_50 rfl ?_
    cases h
    exact aw_iret (pc := 51) C dX4_use_51
theorem ok_X4_use {l : Launch} (htr : l.stackTraces = false) {v1 : Int32} {v2 : Int32} {μ : Mm} {r : (Int32 × Mm)}  (h : X4_use v1 v2 μ = some r) : MetX l yX4_use cX4_use 3 (some .int) 2 (fun ad => [.ref (ad 45), .int v1, .int v2]) μ (.inr (some (.int r.1))) r.2 := by
  refine MetX.of htr (by decide) rfl (fun ad => Nat.le_of_ble_eq_true rfl) (fun p e s m args below meth c D cI cL ad C hex hw => ?_)
  show AV l p e s m args below meth c D cI cL ad 2 3 (.inr (some (.int r.1))) r.2 0 [(0, .ref (ad 45)), (1, .int v1), (2, .int v2)] [] μ
  unfold X4_use at h
  refine aw_aload_n (pc := 0) C dX4_use_0 rfl 0 rfl ?_
  refine aw_aload_n (pc := 1) C dX4_use_1 rfl 0 rfl ?_
  refine aw_iload_n (pc := 2) C dX4_use_2 rfl 1 rfl ?_
  obtain ⟨q2, hq1, h⟩ := bi_some h
  refine aw_Vi (pc := 3) (a := 45) (Bs := [.int v1]) C (ok_X4_isScope C.tr hq1) kv_X4_isScope q831 rfl rfl rfl rfl dX4_use_3 ⟨(show 2 ≤ 2 by decide), (show 52 ≤ 62 by decide)⟩ ⟨Nat.zero_le _, Nat.zero_le _⟩ [.ref (ad 45)] (Nat.le_of_ble_eq_true rfl) rfl ?_
  refine aw_if_ne (pc := 6) C 13 dX4_use_6 rfl (fun hc => ?_) (fun hc => ?_)
  · replace h := ite_F h hc
    refine aw_iload_n (pc := 13) C dX4_use_13 rfl 2 rfl ?_
    obtain ⟨q4, hq3, h⟩ := bi_some h
    refine aw_Si (pc := 14) (Bs := [.int v2]) C (ok_X4_isName C.tr hq3) kv_X4_isName q842 rfl rfl dX4_use_14 ⟨(show 2 ≤ 2 by decide), (show 51 ≤ 62 by decide)⟩ ⟨Nat.zero_le _, Nat.zero_le _⟩ [.ref (ad 45)] (Nat.le_of_ble_eq_true rfl) rfl ?_
    refine aw_if_ne (pc := 17) C 24 dX4_use_17 rfl (fun hc => ?_) (fun hc => ?_)
    · replace h := ite_F h hc
      refine aw_aload_n (pc := 24) C dX4_use_24 rfl 0 rfl ?_
      refine aw_get (pc := 25) C (a := 45) (k := 1) (v := .ref (ad 46)) inX4 rfl rfl (by decide) q741 dX4_use_25 rfl ?_
      refine aw_iconst (pc := 28) C (v := 3) dX4_use_28 rfl ?_
      obtain ⟨g5, h⟩ := ck_some h
      refine aw_iaload (pc := 29) C (a := 46) rfl g5 dX4_use_29 ?_
      refine aw_bipush (pc := 30) C (v := 30) dX4_use_30 rfl ?_
      have kJ : AV l p e s m args below meth c D cI cL ad 2 3 (.inr (some (.int r.1))) r.2 40 [(0, .ref (ad 45)), (1, .int v1), (2, .int v2)] [.int (if (μ.1 46 (3 : Int32).toNatClampNeg) = 30 then (3 : Int32) else 0), .ref (ad 45)] μ := by
        obtain ⟨μ6, eμ6, h⟩ := bd_some h
        refine aw_putI (pc := 40) C (a := 45) (k := 0) (ty := .int) inX4 tyX4 tyX4_ok nmX4 rfl rfl (by decide) q740 rfl (by decide +kernel) rfl rfl (by show 0 < 26; decide) dX4_use_40 fl_4_0 eμ6 ?_
        refine aw_aload_n (pc := 43) C dX4_use_43 rfl 0 rfl ?_
        refine aw_get (pc := 44) C (a := 45) (k := 0) (v := .int (μ6.1 45 0)) inX4 rfl rfl (by decide) q740 dX4_use_44 rfl ?_
        refine aw_if_le (pc := 47) C 52 dX4_use_47 rfl (fun hc => ?_) (fun hc => ?_)
        · replace h := ite_T h hc
          refine aw_aload_n (pc := 52) C dX4_use_52 rfl 0 rfl ?_
          refine aw_get (pc := 53) C (a := 45) (k := 1) (v := .ref (ad 46)) inX4 rfl rfl (by decide) q741 dX4_use_53 rfl ?_
          refine aw_sipush (pc := 56) C (v := 230) dX4_use_56 rfl ?_
          refine aw_iconst (pc := 59) C (v := 2) dX4_use_59 rfl ?_
          refine aw_aload_n (pc := 60) C dX4_use_60 rfl 0 rfl ?_
          refine aw_get (pc := 61) C (a := 45) (k := 1) (v := .ref (ad 46)) inX4 rfl rfl (by decide) q741 dX4_use_61 rfl ?_
          refine aw_iconst (pc := 64) C (v := 3) dX4_use_64 rfl ?_
          obtain ⟨g7, h⟩ := ck_some h
          refine aw_iaload (pc := 65) C (a := 46) rfl g7 dX4_use_65 ?_
          refine aw_imul (pc := 66) C dX4_use_66 ?_
          refine aw_iadd (pc := 67) C dX4_use_67 ?_
          refine aw_iload_n (pc := 68) C dX4_use_68 rfl 1 rfl ?_
          obtain ⟨g8, h⟩ := ck_some h
          obtain ⟨μ9, eμ9, h⟩ := bd_some h
          refine aw_iastore (pc := 69) C (a := 46) rfl g8 dX4_use_69 eμ9 ?_
          refine aw_aload_n (pc := 70) C dX4_use_70 rfl 0 rfl ?_
          refine aw_get (pc := 71) C (a := 45) (k := 1) (v := .ref (ad 46)) inX4 rfl rfl (by decide) q741 dX4_use_71 rfl ?_
          refine aw_sipush (pc := 74) C (v := 230) dX4_use_74 rfl ?_
          refine aw_iconst (pc := 77) C (v := 2) dX4_use_77 rfl ?_
          refine aw_aload_n (pc := 78) C dX4_use_78 rfl 0 rfl ?_
          refine aw_get (pc := 79) C (a := 45) (k := 1) (v := .ref (ad 46)) inX4 rfl rfl (by decide) q741 dX4_use_79 rfl ?_
          refine aw_iconst (pc := 82) C (v := 3) dX4_use_82 rfl ?_
          obtain ⟨g10, h⟩ := ck_some h
          refine aw_iaload (pc := 83) C (a := 46) rfl g10 dX4_use_83 ?_
          refine aw_imul (pc := 84) C dX4_use_84 ?_
          refine aw_iadd (pc := 85) C dX4_use_85 ?_
          refine aw_iconst (pc := 86) C (v := 1) dX4_use_86 rfl ?_
          refine aw_iadd (pc := 87) C dX4_use_87 ?_
          refine aw_iload_n (pc := 88) C dX4_use_88 rfl 2 rfl ?_
          obtain ⟨g11, h⟩ := ck_some h
          obtain ⟨μ12, eμ12, h⟩ := bd_some h
          refine aw_iastore (pc := 89) C (a := 46) rfl g11 dX4_use_89 eμ12 ?_
          refine aw_aload_n (pc := 90) C dX4_use_90 rfl 0 rfl ?_
          refine aw_get (pc := 91) C (a := 45) (k := 1) (v := .ref (ad 46)) inX4 rfl rfl (by decide) q741 dX4_use_91 rfl ?_
          refine aw_iconst (pc := 94) C (v := 3) dX4_use_94 rfl ?_
          refine aw_dup2 (pc := 95) C dX4_use_95 rfl rfl ?_
          obtain ⟨g13, h⟩ := ck_some h
          refine aw_iaload (pc := 96) C (a := 46) rfl g13 dX4_use_96 ?_
          refine aw_iconst (pc := 97) C (v := 1) dX4_use_97 rfl ?_
          refine aw_iadd (pc := 98) C dX4_use_98 ?_
          obtain ⟨g14, h⟩ := ck_some h
          obtain ⟨μ15, eμ15, h⟩ := bd_some h
          refine aw_iastore (pc := 99) C (a := 46) rfl g14 dX4_use_99 eμ15 ?_
          refine aw_aload_n (pc := 100) C dX4_use_100 rfl 0 rfl ?_
          refine aw_get (pc := 101) C (a := 45) (k := 1) (v := .ref (ad 46)) inX4 rfl rfl (by decide) q741 dX4_use_101 rfl ?_
          refine aw_iconst (pc := 104) C (v := 3) dX4_use_104 rfl ?_
          obtain ⟨g16, h⟩ := ck_some h
          refine aw_iaload (pc := 105) C (a := 46) rfl g16 dX4_use_105 ?_
          refine aw_iconst (pc := 106) C (v := 1) dX4_use_106 rfl ?_
          refine aw_isub (pc := 107) C dX4_use_107 ?_
          cases h
          exact aw_iret (pc := 108) C dX4_use_108
        · replace h := ite_F h hc
          refine aw_iconst (pc := 50) C (v := 0) dX4_use_50 rfl ?_
          cases h
          exact aw_iret (pc := 51) C dX4_use_51
      refine aw_icmp_ne (pc := 32) C 39 dX4_use_32 rfl (fun hd1 => ?_) (fun hd1 => ?_)
      · refine aw_iconst (pc := 39) C (v := 0) dX4_use_39 rfl ?_
        rw [if_neg hd1] at kJ
        exact kJ
      · refine aw_iconst (pc := 35) C (v := 3) dX4_use_35 rfl ?_
        refine aw_goto (pc := 36) C 40 dX4_use_36 rfl ?_
        rw [if_pos hd1] at kJ
        exact kJ
    · replace h := ite_T h hc
      refine aw_iconst (pc := 20) C (v := 2) dX4_use_20 rfl ?_
      refine aw_goto (pc := 21) C 40 dX4_use_21 rfl ?_
      refine aw_sub [0, 1, 2] rfl ?_
      exact ok_X4_use_j40 C hex h
  · replace h := ite_T h hc
    refine aw_iconst (pc := 9) C (v := 1) dX4_use_9 rfl ?_
    refine aw_goto (pc := 10) C 40 dX4_use_10 rfl ?_
    refine aw_sub [0, 1, 2] rfl ?_
    exact ok_X4_use_j40 C hex h
/-! ### NameScopesModel.wrongImport(IIZ)I -/
theorem ok_X4_wrongImport_j16 {l : Launch} {p : Program} {e : Env} {s : State} {m : MethodId} {args : Array Value} {below : List Frame} {meth : Method} {c : Code} {D : va_G} {cI cL : ClassId} {ad : Nat → Nat} (C : CX p l s m args meth c RX4 cX4_wrongImport 4 (some .int) D cI cL (AA ad s.heap.size)) (hex : ∀ x ∈ c.exceptionTable.toList, False) {r : Int32} {v1 : Int32} {v2 : Int32} {v3 : Int32} {μ : Mm}  (h : X4_wrongImport_j16 v1 v2 v3 μ = some r) : AV l p e s m args below meth c D cI cL ad 2 4 (.inr (some (.int r))) μ 16 [] [] μ := by
  unfold X4_wrongImport_j16 at h
  refine aw_iconst (pc := 16) C (v := 1) dX4_wrongImport_16 rfl ?_
  refine aw_goto (pc := 17) C 49 dX4_wrongImport_17 rfl ?_
  cases h
  exact aw_iret (pc := 49) C dX4_wrongImport_49
theorem ok_X4_wrongImport_j29 {l : Launch} {p : Program} {e : Env} {s : State} {m : MethodId} {args : Array Value} {below : List Frame} {meth : Method} {c : Code} {D : va_G} {cI cL : ClassId} {ad : Nat → Nat} (C : CX p l s m args meth c RX4 cX4_wrongImport 4 (some .int) D cI cL (AA ad s.heap.size)) (hex : ∀ x ∈ c.exceptionTable.toList, False) {r : Int32} {v1 : Int32} {v2 : Int32} {v3 : Int32} {μ : Mm}  (h : X4_wrongImport_j29 v1 v2 v3 μ = some r) : AV l p e s m args below meth c D cI cL ad 2 4 (.inr (some (.int r))) μ 29 [] [] μ := by
  unfold X4_wrongImport_j29 at h
  refine aw_iconst (pc := 29) C (v := 2) dX4_wrongImport_29 rfl ?_
  refine aw_goto (pc := 30) C 49 dX4_wrongImport_30 rfl ?_
  cases h
  exact aw_iret (pc := 49) C dX4_wrongImport_49
theorem ok_X4_wrongImport {l : Launch} (htr : l.stackTraces = false) {v1 : Int32} {v2 : Int32} {v3 : Int32} {μ : Mm} {r : Int32}  (h : X4_wrongImport v1 v2 v3 μ = some r) : MetX l yX4_wrongImport cX4_wrongImport 4 (some .int) 2 (fun ad => [.ref (ad 45), .int v1, .int v2, .int v3]) μ (.inr (some (.int r))) μ := by
  refine MetX.of htr (by decide) rfl (fun ad => Nat.le_of_ble_eq_true rfl) (fun p e s m args below meth c D cI cL ad C hex hw => ?_)
  show AV l p e s m args below meth c D cI cL ad 2 4 (.inr (some (.int r))) μ 0 [(0, .ref (ad 45)), (1, .int v1), (2, .int v2), (3, .int v3)] [] μ
  unfold X4_wrongImport at h
  refine aw_aload_n (pc := 0) C dX4_wrongImport_0 rfl 0 rfl ?_
  refine aw_iload_n (pc := 1) C dX4_wrongImport_1 rfl 1 rfl ?_
  obtain ⟨q2, hq1, h⟩ := bi_some h
  refine aw_Vi (pc := 2) (a := 45) (Bs := [.int v1]) C (ok_X4_isScope C.tr hq1) kv_X4_isScope q831 rfl rfl rfl rfl dX4_wrongImport_2 ⟨(show 2 ≤ 2 by decide), (show 52 ≤ 62 by decide)⟩ ⟨Nat.zero_le _, Nat.zero_le _⟩ [] (Nat.le_of_ble_eq_true rfl) rfl ?_
  refine aw_if_eq (pc := 5) C 16 dX4_wrongImport_5 rfl (fun hc => ?_) (fun hc => ?_)
  · replace h := ite_T h hc
    refine aw_sub [] rfl ?_
    exact ok_X4_wrongImport_j16 C hex h
  · replace h := ite_F h hc
    refine aw_aload_n (pc := 8) C dX4_wrongImport_8 rfl 0 rfl ?_
    refine aw_iload_n (pc := 9) C dX4_wrongImport_9 rfl 2 rfl ?_
    obtain ⟨q4, hq3, h⟩ := bi_some h
    refine aw_Vi (pc := 10) (a := 45) (Bs := [.int v2]) C (ok_X4_isScope C.tr hq3) kv_X4_isScope q831 rfl rfl rfl rfl dX4_wrongImport_10 ⟨(show 2 ≤ 2 by decide), (show 52 ≤ 62 by decide)⟩ ⟨Nat.zero_le _, Nat.zero_le _⟩ [] (Nat.le_of_ble_eq_true rfl) rfl ?_
    refine aw_if_ne (pc := 13) C 20 dX4_wrongImport_13 rfl (fun hc => ?_) (fun hc => ?_)
    · replace h := ite_F h hc
      refine aw_iload_n (pc := 20) C dX4_wrongImport_20 rfl 1 rfl ?_
      refine aw_iload_n (pc := 21) C dX4_wrongImport_21 rfl 2 rfl ?_
      refine aw_icmp_eq (pc := 22) C 29 dX4_wrongImport_22 rfl (fun hc => ?_) (fun hc => ?_)
      · replace h := ite_T h hc
        refine aw_sub [] rfl ?_
        exact ok_X4_wrongImport_j29 C hex h
      · replace h := ite_F h hc
        refine aw_iload_n (pc := 25) C dX4_wrongImport_25 rfl 3 rfl ?_
        refine aw_if_ne (pc := 26) C 33 dX4_wrongImport_26 rfl (fun hc => ?_) (fun hc => ?_)
        · replace h := ite_F h hc
          refine aw_aload_n (pc := 33) C dX4_wrongImport_33 rfl 0 rfl ?_
          refine aw_get (pc := 34) C (a := 45) (k := 1) (v := .ref (ad 46)) inX4 rfl rfl (by decide) q741 dX4_wrongImport_34 rfl ?_
          refine aw_iconst (pc := 37) C (v := 2) dX4_wrongImport_37 rfl ?_
          obtain ⟨g5, h⟩ := ck_some h
          refine aw_iaload (pc := 38) C (a := 46) rfl g5 dX4_wrongImport_38 ?_
          refine aw_bipush (pc := 39) C (v := 20) dX4_wrongImport_39 rfl ?_
          have kJ : AV l p e s m args below meth c D cI cL ad 2 4 (.inr (some (.int r))) μ 49 [(0, .ref (ad 45)), (1, .int v1), (2, .int v2), (3, .int v3)] [.int (if (μ.1 46 (2 : Int32).toNatClampNeg) = 20 then (3 : Int32) else 0)] μ := by
            cases h
            exact aw_iret (pc := 49) C dX4_wrongImport_49
          refine aw_icmp_ne (pc := 41) C 48 dX4_wrongImport_41 rfl (fun hd1 => ?_) (fun hd1 => ?_)
          · refine aw_iconst (pc := 48) C (v := 0) dX4_wrongImport_48 rfl ?_
            rw [if_neg hd1] at kJ
            exact kJ
          · refine aw_iconst (pc := 44) C (v := 3) dX4_wrongImport_44 rfl ?_
            refine aw_goto (pc := 45) C 49 dX4_wrongImport_45 rfl ?_
            rw [if_pos hd1] at kJ
            exact kJ
        · replace h := ite_T h hc
          refine aw_sub [] rfl ?_
          exact ok_X4_wrongImport_j29 C hex h
    · replace h := ite_T h hc
      refine aw_sub [] rfl ?_
      exact ok_X4_wrongImport_j16 C hex h
/-! ### NameScopesModel.importOne(IIIIZ)I -/
theorem ok_X4_importOne_j24 {l : Launch} {p : Program} {e : Env} {s : State} {m : MethodId} {args : Array Value} {below : List Frame} {meth : Method} {c : Code} {D : va_G} {cI cL : ClassId} {ad : Nat → Nat} (C : CX p l s m args meth c RX4 cX4_importOne 6 (some .int) D cI cL (AA ad s.heap.size)) (hex : ∀ x ∈ c.exceptionTable.toList, False) {r : (Int32 × Mm)} {v1 : Int32} {v2 : Int32} {v3 : Int32} {v4 : Int32} {v5 : Int32} {s0 : Int32} {s1 : Int32} {s2 : Int32} {μ : Mm}  (h : X4_importOne_j24 v1 v2 v3 v4 v5 s0 s1 s2 μ = some r) : AV l p e s m args below meth c D cI cL ad 3 6 (.inr (some (.int r.1))) r.2 24 [(0, .ref (ad 45)), (1, .int v1), (2, .int v2), (3, .int v3), (4, .int v4), (5, .int v5)] [.int s0, .int s1, .int s2, .ref (ad 45), .ref (ad 45)] μ := by
  unfold X4_importOne_j24 at h
  obtain ⟨q4, hq3, h⟩ := bi_some h
  refine aw_Vi (pc := 24) (a := 45) (Bs := [.int s2, .int s1, .int s0]) C (ok_X4_wrongImport C.tr hq3) kv_X4_wrongImport q857 rfl rfl rfl rfl dX4_importOne_24 ⟨(show 3 ≤ 3 by decide), (show 85 ≤ 93 by decide)⟩ ⟨Nat.zero_le _, Nat.zero_le _⟩ [.ref (ad 45)] (Nat.le_of_ble_eq_true rfl) rfl ?_
  obtain ⟨μ5, eμ5, h⟩ := bd_some h
  refine aw_putI (pc := 27) C (a := 45) (k := 0) (ty := .int) inX4 tyX4 tyX4_ok nmX4 rfl rfl (by decide) q740 rfl (by decide +kernel) rfl rfl (by show 0 < 26; decide) dX4_importOne_27 fl_4_0 eμ5 ?_
  refine aw_aload_n (pc := 30) C dX4_importOne_30 rfl 0 rfl ?_
  refine aw_get (pc := 31) C (a := 45) (k := 0) (v := .int (μ5.1 45 0)) inX4 rfl rfl (by decide) q740 dX4_importOne_31 rfl ?_
  refine aw_if_le (pc := 34) C 41 dX4_importOne_34 rfl (fun hc => ?_) (fun hc => ?_)
  · replace h := ite_T h hc
    refine aw_aload_n (pc := 41) C dX4_importOne_41 rfl 0 rfl ?_
    refine aw_iload_n (pc := 42) C dX4_importOne_42 rfl 1 rfl ?_
    refine aw_iload_n (pc := 43) C dX4_importOne_43 rfl 2 rfl ?_
    refine aw_iload_n (pc := 44) C dX4_importOne_44 rfl 3 rfl ?_
    refine aw_iload (pc := 45) C dX4_importOne_45 4 rfl ?_
    refine aw_iconst (pc := 47) C (v := 0) dX4_importOne_47 rfl ?_
    refine aw_iload (pc := 48) C dX4_importOne_48 5 rfl ?_
    obtain ⟨q7, μ8, hq6, h⟩ := bn_some h
    refine aw_Vi (pc := 50) (a := 45) (Bs := [.int v1, .int v2, .int v3, .int v4, .int 0, .int v5]) C (ok_X4_addImport C.tr hq6) kv_X4_addImport q861 rfl rfl rfl rfl dX4_importOne_50 ⟨(show 1 ≤ 3 by decide), (show 27 ≤ 93 by decide)⟩ ⟨Nat.zero_le _, Nat.zero_le _⟩ [] (Nat.le_of_ble_eq_true rfl) rfl ?_
    cases h
    exact aw_iret (pc := 53) C dX4_importOne_53
  · replace h := ite_F h hc
    refine aw_iconst (pc := 37) C (v := 0) dX4_importOne_37 rfl ?_
    refine aw_goto (pc := 38) C 53 dX4_importOne_38 rfl ?_
    cases h
    exact aw_iret (pc := 53) C dX4_importOne_53
theorem ok_X4_importOne_j23 {l : Launch} {p : Program} {e : Env} {s : State} {m : MethodId} {args : Array Value} {below : List Frame} {meth : Method} {c : Code} {D : va_G} {cI cL : ClassId} {ad : Nat → Nat} (C : CX p l s m args meth c RX4 cX4_importOne 6 (some .int) D cI cL (AA ad s.heap.size)) (hex : ∀ x ∈ c.exceptionTable.toList, False) {r : (Int32 × Mm)} {v1 : Int32} {v2 : Int32} {v3 : Int32} {v4 : Int32} {v5 : Int32} {s0 : Int32} {s1 : Int32} {μ : Mm}  (h : X4_importOne_j23 v1 v2 v3 v4 v5 s0 s1 μ = some r) : AV l p e s m args below meth c D cI cL ad 3 6 (.inr (some (.int r.1))) r.2 23 [(0, .ref (ad 45)), (1, .int v1), (2, .int v2), (3, .int v3), (4, .int v4), (5, .int v5)] [.int s0, .int s1, .ref (ad 45), .ref (ad 45)] μ := by
  unfold X4_importOne_j23 at h
  refine aw_iconst (pc := 23) C (v := 0) dX4_importOne_23 rfl ?_
  refine aw_sub [0, 1, 2, 3, 4, 5] rfl ?_
  exact ok_X4_importOne_j24 C hex h
theorem ok_X4_importOne {l : Launch} (htr : l.stackTraces = false) {v1 : Int32} {v2 : Int32} {v3 : Int32} {v4 : Int32} {v5 : Int32} {μ : Mm} {r : (Int32 × Mm)}  (h : X4_importOne v1 v2 v3 v4 v5 μ = some r) : MetX l yX4_importOne cX4_importOne 6 (some .int) 3 (fun ad => [.ref (ad 45), .int v1, .int v2, .int v3, .int v4, .int v5]) μ (.inr (some (.int r.1))) r.2 := by
  refine MetX.of htr (by decide) rfl (fun ad => Nat.le_of_ble_eq_true rfl) (fun p e s m args below meth c D cI cL ad C hex hw => ?_)
  show AV l p e s m args below meth c D cI cL ad 3 6 (.inr (some (.int r.1))) r.2 0 [(0, .ref (ad 45)), (1, .int v1), (2, .int v2), (3, .int v3), (4, .int v4), (5, .int v5)] [] μ
  unfold X4_importOne at h
  refine aw_aload_n (pc := 0) C dX4_importOne_0 rfl 0 rfl ?_
  refine aw_aload_n (pc := 1) C dX4_importOne_1 rfl 0 rfl ?_
  refine aw_iload_n (pc := 2) C dX4_importOne_2 rfl 1 rfl ?_
  refine aw_iload_n (pc := 3) C dX4_importOne_3 rfl 2 rfl ?_
  refine aw_iload_n (pc := 4) C dX4_importOne_4 rfl 3 rfl ?_
  obtain ⟨q2, hq1, h⟩ := bi_some h
  refine aw_Si (pc := 5) (Bs := [.int v3]) C (ok_X4_isName C.tr hq1) kv_X4_isName q842 rfl rfl dX4_importOne_5 ⟨(show 2 ≤ 3 by decide), (show 51 ≤ 93 by decide)⟩ ⟨Nat.zero_le _, Nat.zero_le _⟩ [.int v2, .int v1, .ref (ad 45), .ref (ad 45)] (Nat.le_of_ble_eq_true rfl) rfl ?_
  refine aw_if_eq (pc := 8) C 23 dX4_importOne_8 rfl (fun hc => ?_) (fun hc => ?_)
  · replace h := ite_T h hc
    refine aw_sub [0, 1, 2, 3, 4, 5] rfl ?_
    exact ok_X4_importOne_j23 C hex h
  · replace h := ite_F h hc
    refine aw_iload (pc := 11) C dX4_importOne_11 4 rfl ?_
    obtain ⟨q10, hq9, h⟩ := bi_some h
    refine aw_Si (pc := 13) (Bs := [.int v4]) C (ok_X4_isName C.tr hq9) kv_X4_isName q842 rfl rfl dX4_importOne_13 ⟨(show 2 ≤ 3 by decide), (show 51 ≤ 93 by decide)⟩ ⟨Nat.zero_le _, Nat.zero_le _⟩ [.int v2, .int v1, .ref (ad 45), .ref (ad 45)] (Nat.le_of_ble_eq_true rfl) rfl ?_
    have kJ : AV l p e s m args below meth c D cI cL ad 3 6 (.inr (some (.int r.1))) r.2 24 [(0, .ref (ad 45)), (1, .int v1), (2, .int v2), (3, .int v3), (4, .int v4), (5, .int v5)] [.int (if q10 = 0 then (0 : Int32) else 1), .int v2, .int v1, .ref (ad 45), .ref (ad 45)] μ := by
      obtain ⟨q12, hq11, h⟩ := bi_some h
      refine aw_Vi (pc := 24) (a := 45) (Bs := [.int v1, .int v2, .int (if q10 = 0 then (0 : Int32) else 1)]) C (ok_X4_wrongImport C.tr hq11) kv_X4_wrongImport q857 rfl rfl rfl rfl dX4_importOne_24 ⟨(show 3 ≤ 3 by decide), (show 85 ≤ 93 by decide)⟩ ⟨Nat.zero_le _, Nat.zero_le _⟩ [.ref (ad 45)] (Nat.le_of_ble_eq_true rfl) rfl ?_
      obtain ⟨μ13, eμ13, h⟩ := bd_some h
      refine aw_putI (pc := 27) C (a := 45) (k := 0) (ty := .int) inX4 tyX4 tyX4_ok nmX4 rfl rfl (by decide) q740 rfl (by decide +kernel) rfl rfl (by show 0 < 26; decide) dX4_importOne_27 fl_4_0 eμ13 ?_
      refine aw_aload_n (pc := 30) C dX4_importOne_30 rfl 0 rfl ?_
      refine aw_get (pc := 31) C (a := 45) (k := 0) (v := .int (μ13.1 45 0)) inX4 rfl rfl (by decide) q740 dX4_importOne_31 rfl ?_
      refine aw_if_le (pc := 34) C 41 dX4_importOne_34 rfl (fun hc => ?_) (fun hc => ?_)
      · replace h := ite_T h hc
        refine aw_aload_n (pc := 41) C dX4_importOne_41 rfl 0 rfl ?_
        refine aw_iload_n (pc := 42) C dX4_importOne_42 rfl 1 rfl ?_
        refine aw_iload_n (pc := 43) C dX4_importOne_43 rfl 2 rfl ?_
        refine aw_iload_n (pc := 44) C dX4_importOne_44 rfl 3 rfl ?_
        refine aw_iload (pc := 45) C dX4_importOne_45 4 rfl ?_
        refine aw_iconst (pc := 47) C (v := 0) dX4_importOne_47 rfl ?_
        refine aw_iload (pc := 48) C dX4_importOne_48 5 rfl ?_
        obtain ⟨q15, μ16, hq14, h⟩ := bn_some h
        refine aw_Vi (pc := 50) (a := 45) (Bs := [.int v1, .int v2, .int v3, .int v4, .int 0, .int v5]) C (ok_X4_addImport C.tr hq14) kv_X4_addImport q861 rfl rfl rfl rfl dX4_importOne_50 ⟨(show 1 ≤ 3 by decide), (show 27 ≤ 93 by decide)⟩ ⟨Nat.zero_le _, Nat.zero_le _⟩ [] (Nat.le_of_ble_eq_true rfl) rfl ?_
        cases h
        exact aw_iret (pc := 53) C dX4_importOne_53
      · replace h := ite_F h hc
        refine aw_iconst (pc := 37) C (v := 0) dX4_importOne_37 rfl ?_
        refine aw_goto (pc := 38) C 53 dX4_importOne_38 rfl ?_
        cases h
        exact aw_iret (pc := 53) C dX4_importOne_53
    refine aw_if_eq (pc := 16) C 23 dX4_importOne_16 rfl (fun hd1 => ?_) (fun hd1 => ?_)
    · refine aw_iconst (pc := 23) C (v := 0) dX4_importOne_23 rfl ?_
      rw [if_pos hd1] at kJ
      exact kJ
    · refine aw_iconst (pc := 19) C (v := 1) dX4_importOne_19 rfl ?_
      refine aw_goto (pc := 20) C 24 dX4_importOne_20 rfl ?_
      rw [if_neg hd1] at kJ
      exact kJ
/-! ### NameScopesModel.importAll(IIIZ)I -/
theorem ok_X4_importAll {l : Launch} (htr : l.stackTraces = false) {v1 : Int32} {v2 : Int32} {v3 : Int32} {v4 : Int32} {μ : Mm} {r : (Int32 × Mm)}  (h : X4_importAll v1 v2 v3 v4 μ = some r) : MetX l yX4_importAll cX4_importAll 5 (some .int) 3 (fun ad => [.ref (ad 45), .int v1, .int v2, .int v3, .int v4]) μ (.inr (some (.int r.1))) r.2 := by
  refine MetX.of htr (by decide) rfl (fun ad => Nat.le_of_ble_eq_true rfl) (fun p e s m args below meth c D cI cL ad C hex hw => ?_)
  show AV l p e s m args below meth c D cI cL ad 3 5 (.inr (some (.int r.1))) r.2 0 [(0, .ref (ad 45)), (1, .int v1), (2, .int v2), (3, .int v3), (4, .int v4)] [] μ
  unfold X4_importAll at h
  refine aw_aload_n (pc := 0) C dX4_importAll_0 rfl 0 rfl ?_
  refine aw_aload_n (pc := 1) C dX4_importAll_1 rfl 0 rfl ?_
  refine aw_iload_n (pc := 2) C dX4_importAll_2 rfl 1 rfl ?_
  refine aw_iload_n (pc := 3) C dX4_importAll_3 rfl 2 rfl ?_
  refine aw_iload_n (pc := 4) C dX4_importAll_4 rfl 3 rfl ?_
  refine aw_iconst (pc := 5) C (v := 0) dX4_importAll_5 rfl ?_
  refine aw_ldc (pc := 6) C dX4_importAll_6 q869 ?_
  obtain ⟨q2, hq1, h⟩ := bi_some h
  refine aw_Si (pc := 8) (Bs := [.int v3, .int 0, .int 67108863]) C (ok_X4_within C.tr hq1) kv_X4_within q835 rfl rfl dX4_importAll_8 ⟨(show 1 ≤ 3 by decide), (show 22 ≤ 93 by decide)⟩ ⟨Nat.zero_le _, Nat.zero_le _⟩ [.int v2, .int v1, .ref (ad 45), .ref (ad 45)] (Nat.le_of_ble_eq_true rfl) rfl ?_
  obtain ⟨q4, hq3, h⟩ := bi_some h
  refine aw_Vi (pc := 11) (a := 45) (Bs := [.int v1, .int v2, .int q2]) C (ok_X4_wrongImport C.tr hq3) kv_X4_wrongImport q857 rfl rfl rfl rfl dX4_importAll_11 ⟨(show 3 ≤ 3 by decide), (show 85 ≤ 93 by decide)⟩ ⟨Nat.zero_le _, Nat.zero_le _⟩ [.ref (ad 45)] (Nat.le_of_ble_eq_true rfl) rfl ?_
  obtain ⟨μ5, eμ5, h⟩ := bd_some h
  refine aw_putI (pc := 14) C (a := 45) (k := 0) (ty := .int) inX4 tyX4 tyX4_ok nmX4 rfl rfl (by decide) q740 rfl (by decide +kernel) rfl rfl (by show 0 < 26; decide) dX4_importAll_14 fl_4_0 eμ5 ?_
  refine aw_aload_n (pc := 17) C dX4_importAll_17 rfl 0 rfl ?_
  refine aw_get (pc := 18) C (a := 45) (k := 0) (v := .int (μ5.1 45 0)) inX4 rfl rfl (by decide) q740 dX4_importAll_18 rfl ?_
  refine aw_if_le (pc := 21) C 28 dX4_importAll_21 rfl (fun hc => ?_) (fun hc => ?_)
  · replace h := ite_T h hc
    refine aw_aload_n (pc := 28) C dX4_importAll_28 rfl 0 rfl ?_
    refine aw_iload_n (pc := 29) C dX4_importAll_29 rfl 1 rfl ?_
    refine aw_iload_n (pc := 30) C dX4_importAll_30 rfl 2 rfl ?_
    refine aw_iconst (pc := 31) C (v := (-1)) dX4_importAll_31 rfl ?_
    refine aw_iconst (pc := 32) C (v := (-1)) dX4_importAll_32 rfl ?_
    refine aw_iload_n (pc := 33) C dX4_importAll_33 rfl 3 rfl ?_
    refine aw_iload (pc := 34) C dX4_importAll_34 4 rfl ?_
    obtain ⟨q7, μ8, hq6, h⟩ := bn_some h
    refine aw_Vi (pc := 36) (a := 45) (Bs := [.int v1, .int v2, .int (-1), .int (-1), .int v3, .int v4]) C (ok_X4_addImport C.tr hq6) kv_X4_addImport q861 rfl rfl rfl rfl dX4_importAll_36 ⟨(show 1 ≤ 3 by decide), (show 27 ≤ 93 by decide)⟩ ⟨Nat.zero_le _, Nat.zero_le _⟩ [] (Nat.le_of_ble_eq_true rfl) rfl ?_
    cases h
    exact aw_iret (pc := 39) C dX4_importAll_39
  · replace h := ite_F h hc
    refine aw_iconst (pc := 24) C (v := 0) dX4_importAll_24 rfl ?_
    refine aw_goto (pc := 25) C 39 dX4_importAll_25 rfl ?_
    cases h
    exact aw_iret (pc := 39) C dX4_importAll_39
/-! ### NameScopesModel.endItem()V -/
theorem ok_X4_endItem_j196 {l : Launch} {p : Program} {e : Env} {s : State} {m : MethodId} {args : Array Value} {below : List Frame} {meth : Method} {c : Code} {D : va_G} {cI cL : ClassId} {ad : Nat → Nat} (C : CX p l s m args meth c RX4 cX4_endItem 1 none D cI cL (AA ad s.heap.size)) (hex : ∀ x ∈ c.exceptionTable.toList, False) {r : Mm} {μ : Mm}  (h : X4_endItem_j196 μ = some r) : AV l p e s m args below meth c D cI cL ad 4 1 (.inr none) r 196 [(0, .ref (ad 45))] [] μ := by
  unfold X4_endItem_j196 at h
  refine aw_aload_n (pc := 196) C dX4_endItem_196 rfl 0 rfl ?_
  refine aw_aload_n (pc := 197) C dX4_endItem_197 rfl 0 rfl ?_
  refine aw_get (pc := 198) C (a := 45) (k := 0) (v := .int (μ.1 45 0)) inX4 rfl rfl (by decide) q740 dX4_endItem_198 rfl ?_
  have kJ : AV l p e s m args below meth c D cI cL ad 4 1 (.inr none) r 209 [(0, .ref (ad 45))] [.int (if (μ.1 45 0) ≤ 0 then (0 : Int32) else 1), .ref (ad 45)] μ := by
    obtain ⟨μ6, eμ6, h⟩ := bd_some h
    refine aw_putI (pc := 209) C (a := 45) (k := 21) (ty := .boolean) inX4 tyX4 tyX4_ok nmX4 rfl rfl (by decide) q761 rfl (by decide +kernel) (b01_nar (b01_ite b01_0 b01_1)) (b01_fit (b01_ite b01_0 b01_1)) (by show 21 < 26; decide) dX4_endItem_209 fl_4_21 eμ6 ?_
    cases h
    exact aw_vret (pc := 212) C dX4_endItem_212
  refine aw_if_le (pc := 201) C 208 dX4_endItem_201 rfl (fun hd1 => ?_) (fun hd1 => ?_)
  · refine aw_iconst (pc := 208) C (v := 0) dX4_endItem_208 rfl ?_
    rw [if_pos hd1] at kJ
    exact kJ
  · refine aw_iconst (pc := 204) C (v := 1) dX4_endItem_204 rfl ?_
    refine aw_goto (pc := 205) C 209 dX4_endItem_205 rfl ?_
    rw [if_neg hd1] at kJ
    exact kJ
theorem ok_X4_endItem_j69 {l : Launch} {p : Program} {e : Env} {s : State} {m : MethodId} {args : Array Value} {below : List Frame} {meth : Method} {c : Code} {D : va_G} {cI cL : ClassId} {ad : Nat → Nat} (C : CX p l s m args meth c RX4 cX4_endItem 1 none D cI cL (AA ad s.heap.size)) (hex : ∀ x ∈ c.exceptionTable.toList, False) {r : Mm} {μ : Mm}  (h : X4_endItem_j69 μ = some r) : AV l p e s m args below meth c D cI cL ad 4 1 (.inr none) r 69 [(0, .ref (ad 45))] [] μ := by
  unfold X4_endItem_j69 at h
  refine aw_aload_n (pc := 69) C dX4_endItem_69 rfl 0 rfl ?_
  refine aw_aload_n (pc := 70) C dX4_endItem_70 rfl 0 rfl ?_
  refine aw_get (pc := 71) C (a := 45) (k := 14) (v := .int (μ.1 45 14)) inX4 rfl rfl (by decide) q754 dX4_endItem_71 rfl ?_
  refine aw_aload_n (pc := 74) C dX4_endItem_74 rfl 0 rfl ?_
  refine aw_get (pc := 75) C (a := 45) (k := 16) (v := .int (μ.1 45 16)) inX4 rfl rfl (by decide) q756 dX4_endItem_75 rfl ?_
  refine aw_aload_n (pc := 78) C dX4_endItem_78 rfl 0 rfl ?_
  refine aw_get (pc := 79) C (a := 45) (k := 13) (v := .int (μ.1 45 13)) inX4 rfl rfl (by decide) q753 dX4_endItem_79 rfl ?_
  refine aw_bipush (pc := 82) C (v := 46) dX4_endItem_82 rfl ?_
  have kJ : AV l p e s m args below meth c D cI cL ad 4 1 (.inr none) r 92 [(0, .ref (ad 45))] [.int (if (μ.1 45 13) = 46 then (1 : Int32) else 0), .int (μ.1 45 16), .int (μ.1 45 14), .ref (ad 45)] μ := by
    obtain ⟨q4, μ5, hq3, h⟩ := bn_some h
    refine aw_Vi (pc := 92) (a := 45) (Bs := [.int (μ.1 45 14), .int (μ.1 45 16), .int (if (μ.1 45 13) = 46 then (1 : Int32) else 0)]) C (ok_X4_declare C.tr hq3) kv_X4_declare q974 rfl rfl rfl rfl dX4_endItem_92 ⟨(show 3 ≤ 4 by decide), (show 86 ≤ 124 by decide)⟩ ⟨Nat.zero_le _, Nat.zero_le _⟩ [] (Nat.le_of_ble_eq_true rfl) rfl ?_
    refine aw_pop (pc := 95) C dX4_endItem_95 rfl ?_
    refine aw_goto (pc := 96) C 196 dX4_endItem_96 rfl ?_
    refine aw_sub [0] rfl ?_
    exact ok_X4_endItem_j196 C hex h
  refine aw_icmp_ne (pc := 84) C 91 dX4_endItem_84 rfl (fun hd1 => ?_) (fun hd1 => ?_)
  · refine aw_iconst (pc := 91) C (v := 0) dX4_endItem_91 rfl ?_
    rw [if_neg hd1] at kJ
    exact kJ
  · refine aw_iconst (pc := 87) C (v := 1) dX4_endItem_87 rfl ?_
    refine aw_goto (pc := 88) C 92 dX4_endItem_88 rfl ?_
    rw [if_pos hd1] at kJ
    exact kJ
theorem ok_X4_endItem_j164 {l : Launch} {p : Program} {e : Env} {s : State} {m : MethodId} {args : Array Value} {below : List Frame} {meth : Method} {c : Code} {D : va_G} {cI cL : ClassId} {ad : Nat → Nat} (C : CX p l s m args meth c RX4 cX4_endItem 1 none D cI cL (AA ad s.heap.size)) (hex : ∀ x ∈ c.exceptionTable.toList, False) {r : Mm} {s0 : Int32} {s1 : Int32} {s2 : Int32} {s3 : Int32} {μ : Mm}  (h : X4_endItem_j164 s0 s1 s2 s3 μ = some r) : AV l p e s m args below meth c D cI cL ad 4 1 (.inr none) r 164 [(0, .ref (ad 45))] [.int s0, .int s1, .int s2, .int s3, .ref (ad 45)] μ := by
  unfold X4_endItem_j164 at h
  refine aw_aload_n (pc := 164) C dX4_endItem_164 rfl 0 rfl ?_
  refine aw_get (pc := 165) C (a := 45) (k := 19) (v := .int (μ.1 45 19)) inX4 rfl rfl (by decide) q759 dX4_endItem_165 rfl ?_
  obtain ⟨q11, μ12, hq10, h⟩ := bn_some h
  refine aw_Vi (pc := 168) (a := 45) (Bs := [.int s3, .int s2, .int s1, .int s0, .int (μ.1 45 19)]) C (ok_X4_importOne C.tr hq10) kv_X4_importOne q976 rfl rfl rfl rfl dX4_endItem_168 ⟨(show 4 ≤ 4 by decide), (show 118 ≤ 124 by decide)⟩ ⟨Nat.zero_le _, Nat.zero_le _⟩ [] (Nat.le_of_ble_eq_true rfl) rfl ?_
  refine aw_pop (pc := 171) C dX4_endItem_171 rfl ?_
  refine aw_goto (pc := 172) C 196 dX4_endItem_172 rfl ?_
  refine aw_sub [0] rfl ?_
  exact ok_X4_endItem_j196 C hex h
theorem ok_X4_endItem {l : Launch} (htr : l.stackTraces = false) {μ : Mm} {r : Mm}  (h : X4_endItem μ = some r) : MetX l yX4_endItem cX4_endItem 1 none 4 (fun ad => [.ref (ad 45)]) μ (.inr none) r := by
  refine MetX.of htr (by decide) rfl (fun ad => Nat.le_of_ble_eq_true rfl) (fun p e s m args below meth c D cI cL ad C hex hw => ?_)
  show AV l p e s m args below meth c D cI cL ad 4 1 (.inr none) r 0 [(0, .ref (ad 45))] [] μ
  unfold X4_endItem at h
  refine aw_aload_n (pc := 0) C dX4_endItem_0 rfl 0 rfl ?_
  refine aw_dup (pc := 1) C dX4_endItem_1 rfl ?_
  refine aw_get (pc := 2) C (a := 45) (k := 22) (v := .int (μ.1 45 22)) inX4 rfl rfl (by decide) q762 dX4_endItem_2 rfl ?_
  refine aw_iconst (pc := 5) C (v := 1) dX4_endItem_5 rfl ?_
  refine aw_iadd (pc := 6) C dX4_endItem_6 ?_
  obtain ⟨μ1, eμ1, h⟩ := bd_some h
  refine aw_putI (pc := 7) C (a := 45) (k := 22) (ty := .int) inX4 tyX4 tyX4_ok nmX4 rfl rfl (by decide) q762 rfl (by decide +kernel) rfl rfl (by show 22 < 26; decide) dX4_endItem_7 fl_4_22 eμ1 ?_
  refine aw_aload_n (pc := 10) C dX4_endItem_10 rfl 0 rfl ?_
  refine aw_iconst (pc := 11) C (v := 0) dX4_endItem_11 rfl ?_
  obtain ⟨μ2, eμ2, h⟩ := bd_some h
  refine aw_putI (pc := 12) C (a := 45) (k := 12) (ty := .int) inX4 tyX4 tyX4_ok nmX4 rfl rfl (by decide) q752 rfl (by decide +kernel) rfl rfl (by show 12 < 26; decide) dX4_endItem_12 fl_4_12 eμ2 ?_
  refine aw_aload_n (pc := 15) C dX4_endItem_15 rfl 0 rfl ?_
  refine aw_get (pc := 16) C (a := 45) (k := 20) (v := .int (μ2.1 45 20)) inX4 rfl rfl (by decide) q760 dX4_endItem_16 rfl ?_
  refine aw_if_eq (pc := 19) C 29 dX4_endItem_19 rfl (fun hc => ?_) (fun hc => ?_)
  · replace h := ite_T h hc
    cases h
    exact aw_vret (pc := 29) C dX4_endItem_29
  · replace h := ite_F h hc
    refine aw_aload_n (pc := 22) C dX4_endItem_22 rfl 0 rfl ?_
    refine aw_get (pc := 23) C (a := 45) (k := 21) (v := .int (μ2.1 45 21)) inX4 rfl rfl (by decide) q761 dX4_endItem_23 rfl ?_
    refine aw_if_eq (pc := 26) C 30 dX4_endItem_26 rfl (fun hc => ?_) (fun hc => ?_)
    · replace h := ite_T h hc
      refine aw_aload_n (pc := 30) C dX4_endItem_30 rfl 0 rfl ?_
      refine aw_get (pc := 31) C (a := 45) (k := 13) (v := .int (μ2.1 45 13)) inX4 rfl rfl (by decide) q753 dX4_endItem_31 rfl ?_
      refine aw_bipush (pc := 34) C (v := 94) dX4_endItem_34 rfl ?_
      refine aw_icmp_ne (pc := 36) C 51 dX4_endItem_36 rfl (fun hc => ?_) (fun hc => ?_)
      · replace h := ite_F h hc
        refine aw_aload_n (pc := 51) C dX4_endItem_51 rfl 0 rfl ?_
        refine aw_get (pc := 52) C (a := 45) (k := 13) (v := .int (μ2.1 45 13)) inX4 rfl rfl (by decide) q753 dX4_endItem_52 rfl ?_
        refine aw_bipush (pc := 55) C (v := 46) dX4_endItem_55 rfl ?_
        refine aw_icmp_eq (pc := 57) C 69 dX4_endItem_57 rfl (fun hc => ?_) (fun hc => ?_)
        · replace h := ite_T h hc
          refine aw_sub [0] rfl ?_
          exact ok_X4_endItem_j69 C hex h
        · replace h := ite_F h hc
          refine aw_aload_n (pc := 60) C dX4_endItem_60 rfl 0 rfl ?_
          refine aw_get (pc := 61) C (a := 45) (k := 13) (v := .int (μ2.1 45 13)) inX4 rfl rfl (by decide) q753 dX4_endItem_61 rfl ?_
          refine aw_bipush (pc := 64) C (v := 45) dX4_endItem_64 rfl ?_
          refine aw_icmp_ne (pc := 66) C 99 dX4_endItem_66 rfl (fun hc => ?_) (fun hc => ?_)
          · replace h := ite_F h hc
            refine aw_aload_n (pc := 99) C dX4_endItem_99 rfl 0 rfl ?_
            refine aw_get (pc := 100) C (a := 45) (k := 13) (v := .int (μ2.1 45 13)) inX4 rfl rfl (by decide) q753 dX4_endItem_100 rfl ?_
            refine aw_bipush (pc := 103) C (v := 63) dX4_endItem_103 rfl ?_
            refine aw_icmp_ne (pc := 105) C 124 dX4_endItem_105 rfl (fun hc => ?_) (fun hc => ?_)
            · replace h := ite_F h hc
              refine aw_aload_n (pc := 124) C dX4_endItem_124 rfl 0 rfl ?_
              refine aw_get (pc := 125) C (a := 45) (k := 16) (v := .int (μ2.1 45 16)) inX4 rfl rfl (by decide) q756 dX4_endItem_125 rfl ?_
              refine aw_iconst (pc := 128) C (v := (-1)) dX4_endItem_128 rfl ?_
              refine aw_icmp_eq (pc := 129) C 175 dX4_endItem_129 rfl (fun hc => ?_) (fun hc => ?_)
              · replace h := ite_T h hc
                refine aw_aload_n (pc := 175) C dX4_endItem_175 rfl 0 rfl ?_
                refine aw_aload_n (pc := 176) C dX4_endItem_176 rfl 0 rfl ?_
                refine aw_get (pc := 177) C (a := 45) (k := 14) (v := .int (μ2.1 45 14)) inX4 rfl rfl (by decide) q754 dX4_endItem_177 rfl ?_
                refine aw_aload_n (pc := 180) C dX4_endItem_180 rfl 0 rfl ?_
                refine aw_get (pc := 181) C (a := 45) (k := 15) (v := .int (μ2.1 45 15)) inX4 rfl rfl (by decide) q755 dX4_endItem_181 rfl ?_
                refine aw_aload_n (pc := 184) C dX4_endItem_184 rfl 0 rfl ?_
                refine aw_get (pc := 185) C (a := 45) (k := 18) (v := .int (μ2.1 45 18)) inX4 rfl rfl (by decide) q758 dX4_endItem_185 rfl ?_
                refine aw_aload_n (pc := 188) C dX4_endItem_188 rfl 0 rfl ?_
                refine aw_get (pc := 189) C (a := 45) (k := 19) (v := .int (μ2.1 45 19)) inX4 rfl rfl (by decide) q759 dX4_endItem_189 rfl ?_
                obtain ⟨q8, μ9, hq7, h⟩ := bn_some h
                refine aw_Vi (pc := 192) (a := 45) (Bs := [.int (μ2.1 45 14), .int (μ2.1 45 15), .int (μ2.1 45 18), .int (μ2.1 45 19)]) C (ok_X4_importAll C.tr hq7) kv_X4_importAll q977 rfl rfl rfl rfl dX4_endItem_192 ⟨(show 4 ≤ 4 by decide), (show 117 ≤ 124 by decide)⟩ ⟨Nat.zero_le _, Nat.zero_le _⟩ [] (Nat.le_of_ble_eq_true rfl) rfl ?_
                refine aw_pop (pc := 195) C dX4_endItem_195 rfl ?_
                refine aw_sub [0] rfl ?_
                exact ok_X4_endItem_j196 C hex h
              · replace h := ite_F h hc
                refine aw_aload_n (pc := 132) C dX4_endItem_132 rfl 0 rfl ?_
                refine aw_aload_n (pc := 133) C dX4_endItem_133 rfl 0 rfl ?_
                refine aw_get (pc := 134) C (a := 45) (k := 14) (v := .int (μ2.1 45 14)) inX4 rfl rfl (by decide) q754 dX4_endItem_134 rfl ?_
                refine aw_aload_n (pc := 137) C dX4_endItem_137 rfl 0 rfl ?_
                refine aw_get (pc := 138) C (a := 45) (k := 15) (v := .int (μ2.1 45 15)) inX4 rfl rfl (by decide) q755 dX4_endItem_138 rfl ?_
                refine aw_aload_n (pc := 141) C dX4_endItem_141 rfl 0 rfl ?_
                refine aw_get (pc := 142) C (a := 45) (k := 16) (v := .int (μ2.1 45 16)) inX4 rfl rfl (by decide) q756 dX4_endItem_142 rfl ?_
                refine aw_aload_n (pc := 145) C dX4_endItem_145 rfl 0 rfl ?_
                refine aw_get (pc := 146) C (a := 45) (k := 17) (v := .int (μ2.1 45 17)) inX4 rfl rfl (by decide) q757 dX4_endItem_146 rfl ?_
                refine aw_iconst (pc := 149) C (v := (-1)) dX4_endItem_149 rfl ?_
                refine aw_icmp_ne (pc := 150) C 160 dX4_endItem_150 rfl (fun hc => ?_) (fun hc => ?_)
                · replace h := ite_F h hc
                  refine aw_aload_n (pc := 160) C dX4_endItem_160 rfl 0 rfl ?_
                  refine aw_get (pc := 161) C (a := 45) (k := 17) (v := .int (μ2.1 45 17)) inX4 rfl rfl (by decide) q757 dX4_endItem_161 rfl ?_
                  refine aw_sub [0] rfl ?_
                  exact ok_X4_endItem_j164 C hex h
                · replace h := ite_T h hc
                  refine aw_aload_n (pc := 153) C dX4_endItem_153 rfl 0 rfl ?_
                  refine aw_get (pc := 154) C (a := 45) (k := 16) (v := .int (μ2.1 45 16)) inX4 rfl rfl (by decide) q756 dX4_endItem_154 rfl ?_
                  refine aw_goto (pc := 157) C 164 dX4_endItem_157 rfl ?_
                  refine aw_sub [0] rfl ?_
                  exact ok_X4_endItem_j164 C hex h
            · replace h := ite_T h hc
              refine aw_aload_n (pc := 108) C dX4_endItem_108 rfl 0 rfl ?_
              refine aw_aload_n (pc := 109) C dX4_endItem_109 rfl 0 rfl ?_
              refine aw_get (pc := 110) C (a := 45) (k := 14) (v := .int (μ2.1 45 14)) inX4 rfl rfl (by decide) q754 dX4_endItem_110 rfl ?_
              refine aw_aload_n (pc := 113) C dX4_endItem_113 rfl 0 rfl ?_
              refine aw_get (pc := 114) C (a := 45) (k := 16) (v := .int (μ2.1 45 16)) inX4 rfl rfl (by decide) q756 dX4_endItem_114 rfl ?_
              obtain ⟨q14, μ15, hq13, h⟩ := bn_some h
              refine aw_Vi (pc := 117) (a := 45) (Bs := [.int (μ2.1 45 14), .int (μ2.1 45 16)]) C (ok_X4_use C.tr hq13) kv_X4_use q975 rfl rfl rfl rfl dX4_endItem_117 ⟨(show 3 ≤ 4 by decide), (show 84 ≤ 124 by decide)⟩ ⟨Nat.zero_le _, Nat.zero_le _⟩ [] (Nat.le_of_ble_eq_true rfl) rfl ?_
              refine aw_pop (pc := 120) C dX4_endItem_120 rfl ?_
              refine aw_goto (pc := 121) C 196 dX4_endItem_121 rfl ?_
              refine aw_sub [0] rfl ?_
              exact ok_X4_endItem_j196 C hex h
          · replace h := ite_T h hc
            refine aw_sub [0] rfl ?_
            exact ok_X4_endItem_j69 C hex h
      · replace h := ite_T h hc
        refine aw_aload_n (pc := 39) C dX4_endItem_39 rfl 0 rfl ?_
        refine aw_aload_n (pc := 40) C dX4_endItem_40 rfl 0 rfl ?_
        refine aw_get (pc := 41) C (a := 45) (k := 14) (v := .int (μ2.1 45 14)) inX4 rfl rfl (by decide) q754 dX4_endItem_41 rfl ?_
        obtain ⟨q17, μ18, hq16, h⟩ := bn_some h
        refine aw_Vi (pc := 44) (a := 45) (Bs := [.int (μ2.1 45 14)]) C (ok_X4_addScope C.tr hq16) kv_X4_addScope q973 rfl rfl rfl rfl dX4_endItem_44 ⟨(show 3 ≤ 4 by decide), (show 83 ≤ 124 by decide)⟩ ⟨Nat.zero_le _, Nat.zero_le _⟩ [] (Nat.le_of_ble_eq_true rfl) rfl ?_
        refine aw_pop (pc := 47) C dX4_endItem_47 rfl ?_
        refine aw_goto (pc := 48) C 196 dX4_endItem_48 rfl ?_
        refine aw_sub [0] rfl ?_
        exact ok_X4_endItem_j196 C hex h
    · replace h := ite_F h hc
      cases h
      exact aw_vret (pc := 29) C dX4_endItem_29
/-! ### NameScopesModel.isScopeLetter(I)Z -/
theorem ok_X4_isScopeLetter {l : Launch} (htr : l.stackTraces = false) {v0 : Int32} {μ : Mm} {r : Int32}  (h : X4_isScopeLetter v0 = some r) : MetX l yX4_isScopeLetter cX4_isScopeLetter 1 (some .boolean) 1 (fun ad => [.int v0]) μ (.inr (some (.int r))) μ := by
  refine MetX.of htr (by decide) rfl (fun ad => Nat.le_of_ble_eq_true rfl) (fun p e s m args below meth c D cI cL ad C hex hw => ?_)
  show AV l p e s m args below meth c D cI cL ad 1 1 (.inr (some (.int r))) μ 0 [(0, .int v0)] [] μ
  unfold X4_isScopeLetter at h
  refine aw_iload_n (pc := 0) C dX4_isScopeLetter_0 rfl 0 rfl ?_
  refine aw_bipush (pc := 1) C (v := 65) dX4_isScopeLetter_1 rfl ?_
  refine aw_bipush (pc := 3) C (v := 80) dX4_isScopeLetter_3 rfl ?_
  obtain ⟨q2, hq1, h⟩ := bi_some h
  refine aw_Si (pc := 5) (Bs := [.int v0, .int 65, .int 80]) C (ok_X4_within C.tr hq1) kv_X4_within q835 rfl rfl dX4_isScopeLetter_5 ⟨(show 1 ≤ 1 by decide), (show 22 ≤ 31 by decide)⟩ ⟨Nat.zero_le _, Nat.zero_le _⟩ [] (Nat.le_of_ble_eq_true rfl) rfl ?_
  obtain ⟨g3, h⟩ := rz_some h
  cases h
  exact aw_zret (pc := 8) C (b01_nar g3) dX4_isScopeLetter_8
/-! ### NameScopesModel.goes(ZI)Z -/
theorem ok_X4_goes_j13 {l : Launch} {p : Program} {e : Env} {s : State} {m : MethodId} {args : Array Value} {below : List Frame} {meth : Method} {c : Code} {D : va_G} {cI cL : ClassId} {ad : Nat → Nat} (C : CX p l s m args meth c RX4 cX4_goes 3 (some .boolean) D cI cL (AA ad s.heap.size)) (hex : ∀ x ∈ c.exceptionTable.toList, False) {r : (Int32 × Mm)} {v1 : Int32} {v2 : Int32} {s0 : Int32} {μ : Mm}  (h : X4_goes_j13 v1 v2 s0 μ = some r) : AV l p e s m args below meth c D cI cL ad 0 3 (.inr (some (.int r.1))) r.2 13 [(1, .int v1)] [.int s0, .ref (ad 45)] μ := by
  unfold X4_goes_j13 at h
  obtain ⟨μ1, eμ1, h⟩ := bd_some h
  refine aw_putI (pc := 13) C (a := 45) (k := 12) (ty := .int) inX4 tyX4 tyX4_ok nmX4 rfl rfl (by decide) q752 rfl (by decide +kernel) rfl rfl (by show 12 < 26; decide) dX4_goes_13 fl_4_12 eμ1 ?_
  refine aw_iload_n (pc := 16) C dX4_goes_16 rfl 0 rfl ?_
  obtain ⟨g2, h⟩ := rz_some h
  cases h
  exact aw_zret (pc := 17) C (b01_nar g2) dX4_goes_17
theorem ok_X4_goes {l : Launch} (htr : l.stackTraces = false) {v1 : Int32} {v2 : Int32} {μ : Mm} {r : (Int32 × Mm)}  (h : X4_goes v1 v2 μ = some r) : MetX l yX4_goes cX4_goes 3 (some .boolean) 0 (fun ad => [.ref (ad 45), .int v1, .int v2]) μ (.inr (some (.int r.1))) r.2 := by
  refine MetX.of htr (by decide) rfl (fun ad => Nat.le_of_ble_eq_true rfl) (fun p e s m args below meth c D cI cL ad C hex hw => ?_)
  show AV l p e s m args below meth c D cI cL ad 0 3 (.inr (some (.int r.1))) r.2 0 [(0, .ref (ad 45)), (1, .int v1), (2, .int v2)] [] μ
  unfold X4_goes at h
  refine aw_aload_n (pc := 0) C dX4_goes_0 rfl 0 rfl ?_
  refine aw_iload_n (pc := 1) C dX4_goes_1 rfl 1 rfl ?_
  refine aw_if_eq (pc := 2) C 9 dX4_goes_2 rfl (fun hc => ?_) (fun hc => ?_)
  · replace h := ite_T h hc
    refine aw_aload_n (pc := 9) C dX4_goes_9 rfl 0 rfl ?_
    refine aw_get (pc := 10) C (a := 45) (k := 12) (v := .int (μ.1 45 12)) inX4 rfl rfl (by decide) q752 dX4_goes_10 rfl ?_
    refine aw_sub [1] rfl ?_
    exact ok_X4_goes_j13 C hex h
  · replace h := ite_F h hc
    refine aw_iload_n (pc := 5) C dX4_goes_5 rfl 2 rfl ?_
    refine aw_goto (pc := 6) C 13 dX4_goes_6 rfl ?_
    refine aw_sub [1] rfl ?_
    exact ok_X4_goes_j13 C hex h
/-! ### NameScopesModel.takesSign(I)Z -/
theorem ok_X4_takesSign {l : Launch} (htr : l.stackTraces = false) {v1 : Int32} {μ : Mm} {r : (Int32 × Mm)}  (h : X4_takesSign v1 μ = some r) : MetX l yX4_takesSign cX4_takesSign 3 (some .boolean) 0 (fun ad => [.ref (ad 45), .int v1]) μ (.inr (some (.int r.1))) r.2 := by
  refine MetX.of htr (by decide) rfl (fun ad => Nat.le_of_ble_eq_true rfl) (fun p e s m args below meth c D cI cL ad C hex hw => ?_)
  show AV l p e s m args below meth c D cI cL ad 0 3 (.inr (some (.int r.1))) r.2 0 [(0, .ref (ad 45)), (1, .int v1)] [] μ
  unfold X4_takesSign at h
  refine aw_iload_n (pc := 0) C dX4_takesSign_0 rfl 1 rfl ?_
  refine aw_bipush (pc := 1) C (v := 94) dX4_takesSign_1 rfl ?_
  have kJ : AV l p e s m args below meth c D cI cL ad 0 3 (.inr (some (.int r.1))) r.2 35 [(0, .ref (ad 45)), (1, .int v1)] [.int (if v1 = 94 then (1 : Int32) else (if v1 = 46 then (1 : Int32) else (if v1 = 45 then (1 : Int32) else (if v1 = 63 then (1 : Int32) else (if v1 = 60 then (1 : Int32) else 0)))))] μ := by
    obtain ⟨x1, ex1, h⟩ := bd_some h
    refine aw_istore_n (pc := 35) C (x := x1) (lv' := [(2, .int x1), (0, .ref (ad 45)), (1, .int v1)]) dX4_takesSign_35 rfl (by decide) ex1 rfl ?_
    refine aw_iload_n (pc := 36) C dX4_takesSign_36 rfl 0 rfl ?_
    refine aw_if_eq (pc := 37) C 91 dX4_takesSign_37 rfl (fun hc => ?_) (fun hc => ?_)
    · replace h := ite_T h hc
      refine aw_iload_n (pc := 91) C dX4_takesSign_91 rfl 0 rfl ?_
      cases h
      exact aw_zret (pc := 92) C (b01_nar (ex1 ▸ (b01_ite b01_1 (b01_ite b01_1 (b01_ite b01_1 (b01_ite b01_1 (b01_ite b01_1 b01_0))))))) dX4_takesSign_92
    · replace h := ite_F h hc
      refine aw_aload_n (pc := 40) C dX4_takesSign_40 rfl 1 rfl ?_
      refine aw_iload_n (pc := 41) C dX4_takesSign_41 rfl 2 rfl ?_
      obtain ⟨μ2, eμ2, h⟩ := bd_some h
      refine aw_putI (pc := 42) C (a := 45) (k := 13) (ty := .int) inX4 tyX4 tyX4_ok nmX4 rfl rfl (by decide) q753 rfl (by decide +kernel) rfl rfl (by show 13 < 26; decide) dX4_takesSign_42 fl_4_13 eμ2 ?_
      refine aw_aload_n (pc := 45) C dX4_takesSign_45 rfl 1 rfl ?_
      refine aw_iconst (pc := 46) C (v := 0) dX4_takesSign_46 rfl ?_
      obtain ⟨μ3, eμ3, h⟩ := bd_some h
      refine aw_putI (pc := 47) C (a := 45) (k := 19) (ty := .boolean) inX4 tyX4 tyX4_ok nmX4 rfl rfl (by decide) q759 rfl (by decide +kernel) (b01_nar b01_0) (b01_fit b01_0) (by show 19 < 26; decide) dX4_takesSign_47 fl_4_19 eμ3 ?_
      refine aw_aload_n (pc := 50) C dX4_takesSign_50 rfl 1 rfl ?_
      refine aw_iconst (pc := 51) C (v := (-1)) dX4_takesSign_51 rfl ?_
      obtain ⟨μ4, eμ4, h⟩ := bd_some h
      refine aw_putI (pc := 52) C (a := 45) (k := 16) (ty := .int) inX4 tyX4 tyX4_ok nmX4 rfl rfl (by decide) q756 rfl (by decide +kernel) rfl rfl (by show 16 < 26; decide) dX4_takesSign_52 fl_4_16 eμ4 ?_
      refine aw_aload_n (pc := 55) C dX4_takesSign_55 rfl 1 rfl ?_
      refine aw_iconst (pc := 56) C (v := (-1)) dX4_takesSign_56 rfl ?_
      obtain ⟨μ5, eμ5, h⟩ := bd_some h
      refine aw_putI (pc := 57) C (a := 45) (k := 17) (ty := .int) inX4 tyX4 tyX4_ok nmX4 rfl rfl (by decide) q757 rfl (by decide +kernel) rfl rfl (by show 17 < 26; decide) dX4_takesSign_57 fl_4_17 eμ5 ?_
      refine aw_aload_n (pc := 60) C dX4_takesSign_60 rfl 1 rfl ?_
      refine aw_iconst (pc := 61) C (v := 0) dX4_takesSign_61 rfl ?_
      obtain ⟨μ6, eμ6, h⟩ := bd_some h
      refine aw_putI (pc := 62) C (a := 45) (k := 18) (ty := .int) inX4 tyX4 tyX4_ok nmX4 rfl rfl (by decide) q758 rfl (by decide +kernel) rfl rfl (by show 18 < 26; decide) dX4_takesSign_62 fl_4_18 eμ6 ?_
      refine aw_aload_n (pc := 65) C dX4_takesSign_65 rfl 1 rfl ?_
      refine aw_iload_n (pc := 66) C dX4_takesSign_66 rfl 2 rfl ?_
      refine aw_bipush (pc := 67) C (v := 94) dX4_takesSign_67 rfl ?_
      have kJ : AV l p e s m args below meth c D cI cL ad 0 3 (.inr (some (.int r.1))) r.2 88 [(2, .int x1), (0, .ref (ad 45)), (1, .int v1)] [.int (if v1 = 94 then (11 : Int32) else (if v1 = 60 then (3 : Int32) else 2)), .ref (ad 45)] μ6 := by
        obtain ⟨μ7, eμ7, h⟩ := bd_some h
        refine aw_putI (pc := 88) C (a := 45) (k := 12) (ty := .int) inX4 tyX4 tyX4_ok nmX4 rfl rfl (by decide) q752 rfl (by decide +kernel) rfl rfl (by show 12 < 26; decide) dX4_takesSign_88 fl_4_12 eμ7 ?_
        refine aw_iload_n (pc := 91) C dX4_takesSign_91 rfl 0 rfl ?_
        cases h
        exact aw_zret (pc := 92) C (b01_nar (ex1 ▸ (b01_ite b01_1 (b01_ite b01_1 (b01_ite b01_1 (b01_ite b01_1 (b01_ite b01_1 b01_0))))))) dX4_takesSign_92
      refine aw_icmp_ne (pc := 69) C 77 dX4_takesSign_69 rfl (fun hd1 => ?_) (fun hd1 => ?_)
      · refine aw_iload_n (pc := 77) C dX4_takesSign_77 rfl 2 rfl ?_
        refine aw_bipush (pc := 78) C (v := 60) dX4_takesSign_78 rfl ?_
        refine aw_icmp_ne (pc := 80) C 87 dX4_takesSign_80 rfl (fun hd2 => ?_) (fun hd2 => ?_)
        · refine aw_iconst (pc := 87) C (v := 2) dX4_takesSign_87 rfl ?_
          rw [if_neg hd1, if_neg hd2] at kJ
          exact kJ
        · refine aw_iconst (pc := 83) C (v := 3) dX4_takesSign_83 rfl ?_
          refine aw_goto (pc := 84) C 88 dX4_takesSign_84 rfl ?_
          rw [if_neg hd1, if_pos hd2] at kJ
          exact kJ
      · refine aw_bipush (pc := 72) C (v := 11) dX4_takesSign_72 rfl ?_
        refine aw_goto (pc := 74) C 88 dX4_takesSign_74 rfl ?_
        rw [if_pos hd1] at kJ
        exact kJ
  refine aw_icmp_eq (pc := 3) C 30 dX4_takesSign_3 rfl (fun hd1 => ?_) (fun hd1 => ?_)
  · refine aw_iconst (pc := 30) C (v := 1) dX4_takesSign_30 rfl ?_
    refine aw_goto (pc := 31) C 35 dX4_takesSign_31 rfl ?_
    rw [if_pos hd1] at kJ
    exact kJ
  · refine aw_iload_n (pc := 6) C dX4_takesSign_6 rfl 1 rfl ?_
    refine aw_bipush (pc := 7) C (v := 46) dX4_takesSign_7 rfl ?_
    refine aw_icmp_eq (pc := 9) C 30 dX4_takesSign_9 rfl (fun hd2 => ?_) (fun hd2 => ?_)
    · refine aw_iconst (pc := 30) C (v := 1) dX4_takesSign_30 rfl ?_
      refine aw_goto (pc := 31) C 35 dX4_takesSign_31 rfl ?_
      rw [if_neg hd1, if_pos hd2] at kJ
      exact kJ
    · refine aw_iload_n (pc := 12) C dX4_takesSign_12 rfl 1 rfl ?_
      refine aw_bipush (pc := 13) C (v := 45) dX4_takesSign_13 rfl ?_
      refine aw_icmp_eq (pc := 15) C 30 dX4_takesSign_15 rfl (fun hd3 => ?_) (fun hd3 => ?_)
      · refine aw_iconst (pc := 30) C (v := 1) dX4_takesSign_30 rfl ?_
        refine aw_goto (pc := 31) C 35 dX4_takesSign_31 rfl ?_
        rw [if_neg hd1, if_neg hd2, if_pos hd3] at kJ
        exact kJ
      · refine aw_iload_n (pc := 18) C dX4_takesSign_18 rfl 1 rfl ?_
        refine aw_bipush (pc := 19) C (v := 63) dX4_takesSign_19 rfl ?_
        refine aw_icmp_eq (pc := 21) C 30 dX4_takesSign_21 rfl (fun hd4 => ?_) (fun hd4 => ?_)
        · refine aw_iconst (pc := 30) C (v := 1) dX4_takesSign_30 rfl ?_
          refine aw_goto (pc := 31) C 35 dX4_takesSign_31 rfl ?_
          rw [if_neg hd1, if_neg hd2, if_neg hd3, if_pos hd4] at kJ
          exact kJ
        · refine aw_iload_n (pc := 24) C dX4_takesSign_24 rfl 1 rfl ?_
          refine aw_bipush (pc := 25) C (v := 60) dX4_takesSign_25 rfl ?_
          refine aw_icmp_ne (pc := 27) C 34 dX4_takesSign_27 rfl (fun hd5 => ?_) (fun hd5 => ?_)
          · refine aw_iconst (pc := 34) C (v := 0) dX4_takesSign_34 rfl ?_
            rw [if_neg hd1, if_neg hd2, if_neg hd3, if_neg hd4, if_neg hd5] at kJ
            exact kJ
          · refine aw_iconst (pc := 30) C (v := 1) dX4_takesSign_30 rfl ?_
            refine aw_goto (pc := 31) C 35 dX4_takesSign_31 rfl ?_
            rw [if_neg hd1, if_neg hd2, if_neg hd3, if_neg hd4, if_pos hd5] at kJ
            exact kJ
/-! ### NameScopesModel.takesFrom(I)Z -/
theorem ok_X4_takesFrom_j45 {l : Launch} {p : Program} {e : Env} {s : State} {m : MethodId} {args : Array Value} {below : List Frame} {meth : Method} {c : Code} {D : va_G} {cI cL : ClassId} {ad : Nat → Nat} (C : CX p l s m args meth c RX4 cX4_takesFrom 2 (some .boolean) D cI cL (AA ad s.heap.size)) (hex : ∀ x ∈ c.exceptionTable.toList, False) {r : (Int32 × Mm)} {v1 : Int32} {s0 : Int32} {μ : Mm}  (h : X4_takesFrom_j45 v1 s0 μ = some r) : AV l p e s m args below meth c D cI cL ad 2 2 (.inr (some (.int r.1))) r.2 45 [(0, .ref (ad 45)), (1, .int v1)] [.int s0, .ref (ad 45)] μ := by
  unfold X4_takesFrom_j45 at h
  obtain ⟨μ3, eμ3, h⟩ := bd_some h
  refine aw_putI (pc := 45) C (a := 45) (k := 15) (ty := .int) inX4 tyX4 tyX4_ok nmX4 rfl rfl (by decide) q755 rfl (by decide +kernel) rfl rfl (by show 15 < 26; decide) dX4_takesFrom_45 fl_4_15 eμ3 ?_
  refine aw_aload_n (pc := 48) C dX4_takesFrom_48 rfl 0 rfl ?_
  refine aw_iload_n (pc := 49) C dX4_takesFrom_49 rfl 1 rfl ?_
  obtain ⟨q5, hq4, h⟩ := bi_some h
  refine aw_Si (pc := 50) (Bs := [.int v1]) C (ok_X4_isScopeLetter C.tr hq4) kv_X4_isScopeLetter q978 rfl rfl dX4_takesFrom_50 ⟨(show 2 ≤ 2 by decide), (show 51 ≤ 62 by decide)⟩ ⟨Nat.zero_le _, Nat.zero_le _⟩ [.ref (ad 45)] (Nat.le_of_ble_eq_true rfl) rfl ?_
  refine aw_iconst (pc := 53) C (v := 5) dX4_takesFrom_53 rfl ?_
  obtain ⟨q7, μ8, hq6, h⟩ := bn_some h
  refine aw_Vi (pc := 54) (a := 45) (Bs := [.int q5, .int 5]) C (ok_X4_goes C.tr hq6) kv_X4_goes q981 rfl rfl rfl rfl dX4_takesFrom_54 ⟨(show 1 ≤ 2 by decide), (show 22 ≤ 62 by decide)⟩ ⟨Nat.zero_le _, Nat.zero_le _⟩ [] (Nat.le_of_ble_eq_true rfl) rfl ?_
  obtain ⟨g9, h⟩ := rz_some h
  cases h
  exact aw_zret (pc := 57) C (b01_nar g9) dX4_takesFrom_57
theorem ok_X4_takesFrom_j26 {l : Launch} {p : Program} {e : Env} {s : State} {m : MethodId} {args : Array Value} {below : List Frame} {meth : Method} {c : Code} {D : va_G} {cI cL : ClassId} {ad : Nat → Nat} (C : CX p l s m args meth c RX4 cX4_takesFrom 2 (some .boolean) D cI cL (AA ad s.heap.size)) (hex : ∀ x ∈ c.exceptionTable.toList, False) {r : (Int32 × Mm)} {v1 : Int32} {μ : Mm}  (h : X4_takesFrom_j26 v1 μ = some r) : AV l p e s m args below meth c D cI cL ad 2 2 (.inr (some (.int r.1))) r.2 26 [(0, .ref (ad 45)), (1, .int v1)] [] μ := by
  unfold X4_takesFrom_j26 at h
  refine aw_aload_n (pc := 26) C dX4_takesFrom_26 rfl 0 rfl ?_
  refine aw_iload_n (pc := 27) C dX4_takesFrom_27 rfl 1 rfl ?_
  obtain ⟨q2, hq1, h⟩ := bi_some h
  refine aw_Si (pc := 28) (Bs := [.int v1]) C (ok_X4_isScopeLetter C.tr hq1) kv_X4_isScopeLetter q978 rfl rfl dX4_takesFrom_28 ⟨(show 2 ≤ 2 by decide), (show 51 ≤ 62 by decide)⟩ ⟨Nat.zero_le _, Nat.zero_le _⟩ [.ref (ad 45)] (Nat.le_of_ble_eq_true rfl) rfl ?_
  refine aw_if_eq (pc := 31) C 41 dX4_takesFrom_31 rfl (fun hc => ?_) (fun hc => ?_)
  · replace h := ite_T h hc
    refine aw_aload_n (pc := 41) C dX4_takesFrom_41 rfl 0 rfl ?_
    refine aw_get (pc := 42) C (a := 45) (k := 15) (v := .int (μ.1 45 15)) inX4 rfl rfl (by decide) q755 dX4_takesFrom_42 rfl ?_
    refine aw_sub [0, 1] rfl ?_
    exact ok_X4_takesFrom_j45 C hex h
  · replace h := ite_F h hc
    refine aw_iload_n (pc := 34) C dX4_takesFrom_34 rfl 1 rfl ?_
    refine aw_bipush (pc := 35) C (v := 65) dX4_takesFrom_35 rfl ?_
    refine aw_isub (pc := 37) C dX4_takesFrom_37 ?_
    refine aw_goto (pc := 38) C 45 dX4_takesFrom_38 rfl ?_
    refine aw_sub [0, 1] rfl ?_
    exact ok_X4_takesFrom_j45 C hex h
theorem ok_X4_takesFrom {l : Launch} (htr : l.stackTraces = false) {v1 : Int32} {μ : Mm} {r : (Int32 × Mm)}  (h : X4_takesFrom v1 μ = some r) : MetX l yX4_takesFrom cX4_takesFrom 2 (some .boolean) 2 (fun ad => [.ref (ad 45), .int v1]) μ (.inr (some (.int r.1))) r.2 := by
  refine MetX.of htr (by decide) rfl (fun ad => Nat.le_of_ble_eq_true rfl) (fun p e s m args below meth c D cI cL ad C hex hw => ?_)
  show AV l p e s m args below meth c D cI cL ad 2 2 (.inr (some (.int r.1))) r.2 0 [(0, .ref (ad 45)), (1, .int v1)] [] μ
  unfold X4_takesFrom at h
  refine aw_aload_n (pc := 0) C dX4_takesFrom_0 rfl 0 rfl ?_
  refine aw_get (pc := 1) C (a := 45) (k := 12) (v := .int (μ.1 45 12)) inX4 rfl rfl (by decide) q752 dX4_takesFrom_1 rfl ?_
  refine aw_iconst (pc := 4) C (v := 3) dX4_takesFrom_4 rfl ?_
  refine aw_icmp_ne (pc := 5) C 26 dX4_takesFrom_5 rfl (fun hc => ?_) (fun hc => ?_)
  · replace h := ite_F h hc
    refine aw_sub [0, 1] rfl ?_
    exact ok_X4_takesFrom_j26 C hex h
  · replace h := ite_T h hc
    refine aw_iload_n (pc := 8) C dX4_takesFrom_8 rfl 1 rfl ?_
    refine aw_bipush (pc := 9) C (v := 60) dX4_takesFrom_9 rfl ?_
    refine aw_icmp_ne (pc := 11) C 26 dX4_takesFrom_11 rfl (fun hc => ?_) (fun hc => ?_)
    · replace h := ite_F h hc
      refine aw_sub [0, 1] rfl ?_
      exact ok_X4_takesFrom_j26 C hex h
    · replace h := ite_T h hc
      refine aw_aload_n (pc := 14) C dX4_takesFrom_14 rfl 0 rfl ?_
      refine aw_iconst (pc := 15) C (v := 1) dX4_takesFrom_15 rfl ?_
      obtain ⟨μ10, eμ10, h⟩ := bd_some h
      refine aw_putI (pc := 16) C (a := 45) (k := 19) (ty := .boolean) inX4 tyX4 tyX4_ok nmX4 rfl rfl (by decide) q759 rfl (by decide +kernel) (b01_nar b01_1) (b01_fit b01_1) (by show 19 < 26; decide) dX4_takesFrom_16 fl_4_19 eμ10 ?_
      refine aw_aload_n (pc := 19) C dX4_takesFrom_19 rfl 0 rfl ?_
      refine aw_iconst (pc := 20) C (v := 1) dX4_takesFrom_20 rfl ?_
      refine aw_iconst (pc := 21) C (v := 4) dX4_takesFrom_21 rfl ?_
      obtain ⟨q12, μ13, hq11, h⟩ := bn_some h
      refine aw_Vi (pc := 22) (a := 45) (Bs := [.int 1, .int 4]) C (ok_X4_goes C.tr hq11) kv_X4_goes q981 rfl rfl rfl rfl dX4_takesFrom_22 ⟨(show 1 ≤ 2 by decide), (show 22 ≤ 62 by decide)⟩ ⟨Nat.zero_le _, Nat.zero_le _⟩ [] (Nat.le_of_ble_eq_true rfl) rfl ?_
      obtain ⟨g14, h⟩ := rz_some h
      cases h
      exact aw_zret (pc := 25) C (b01_nar g14) dX4_takesFrom_25
/-! ### NameScopesModel.isNameLetter(I)Z -/
theorem ok_X4_isNameLetter {l : Launch} (htr : l.stackTraces = false) {v0 : Int32} {μ : Mm} {r : Int32}  (h : X4_isNameLetter v0 = some r) : MetX l yX4_isNameLetter cX4_isNameLetter 1 (some .boolean) 1 (fun ad => [.int v0]) μ (.inr (some (.int r))) μ := by
  refine MetX.of htr (by decide) rfl (fun ad => Nat.le_of_ble_eq_true rfl) (fun p e s m args below meth c D cI cL ad C hex hw => ?_)
  show AV l p e s m args below meth c D cI cL ad 1 1 (.inr (some (.int r))) μ 0 [(0, .int v0)] [] μ
  unfold X4_isNameLetter at h
  refine aw_iload_n (pc := 0) C dX4_isNameLetter_0 rfl 0 rfl ?_
  refine aw_bipush (pc := 1) C (v := 97) dX4_isNameLetter_1 rfl ?_
  refine aw_bipush (pc := 3) C (v := 122) dX4_isNameLetter_3 rfl ?_
  obtain ⟨q2, hq1, h⟩ := bi_some h
  refine aw_Si (pc := 5) (Bs := [.int v0, .int 97, .int 122]) C (ok_X4_within C.tr hq1) kv_X4_within q835 rfl rfl dX4_isNameLetter_5 ⟨(show 1 ≤ 1 by decide), (show 22 ≤ 31 by decide)⟩ ⟨Nat.zero_le _, Nat.zero_le _⟩ [] (Nat.le_of_ble_eq_true rfl) rfl ?_
  obtain ⟨g3, h⟩ := rz_some h
  cases h
  exact aw_zret (pc := 8) C (b01_nar g3) dX4_isNameLetter_8
/-! ### NameScopesModel.takesName(I)Z -/
theorem ok_X4_takesName_j104 {l : Launch} {p : Program} {e : Env} {s : State} {m : MethodId} {args : Array Value} {below : List Frame} {meth : Method} {c : Code} {D : va_G} {cI cL : ClassId} {ad : Nat → Nat} (C : CX p l s m args meth c RX4 cX4_takesName 3 (some .boolean) D cI cL (AA ad s.heap.size)) (hex : ∀ x ∈ c.exceptionTable.toList, False) {r : (Int32 × Mm)} {v1 : Int32} {s0 : Int32} {s1 : Int32} {μ : Mm}  (h : X4_takesName_j104 v1 s0 s1 μ = some r) : AV l p e s m args below meth c D cI cL ad 2 3 (.inr (some (.int r.1))) r.2 104 [] [.int s0, .int s1, .ref (ad 45)] μ := by
  unfold X4_takesName_j104 at h
  obtain ⟨q8, μ9, hq7, h⟩ := bn_some h
  refine aw_Vi (pc := 104) (a := 45) (Bs := [.int s1, .int s0]) C (ok_X4_goes C.tr hq7) kv_X4_goes q981 rfl rfl rfl rfl dX4_takesName_104 ⟨(show 1 ≤ 2 by decide), (show 22 ≤ 62 by decide)⟩ ⟨Nat.zero_le _, Nat.zero_le _⟩ [] (Nat.le_of_ble_eq_true rfl) rfl ?_
  obtain ⟨g10, h⟩ := rz_some h
  cases h
  exact aw_zret (pc := 107) C (b01_nar g10) dX4_takesName_107
theorem ok_X4_takesName_j72 {l : Launch} {p : Program} {e : Env} {s : State} {m : MethodId} {args : Array Value} {below : List Frame} {meth : Method} {c : Code} {D : va_G} {cI cL : ClassId} {ad : Nat → Nat} (C : CX p l s m args meth c RX4 cX4_takesName 3 (some .boolean) D cI cL (AA ad s.heap.size)) (hex : ∀ x ∈ c.exceptionTable.toList, False) {r : (Int32 × Mm)} {v1 : Int32} {v2 : Int32} {μ : Mm}  (h : X4_takesName_j72 v1 v2 μ = some r) : AV l p e s m args below meth c D cI cL ad 2 3 (.inr (some (.int r.1))) r.2 72 [(0, .ref (ad 45)), (2, .int v2)] [] μ := by
  unfold X4_takesName_j72 at h
  refine aw_aload_n (pc := 72) C dX4_takesName_72 rfl 0 rfl ?_
  refine aw_iload_n (pc := 73) C dX4_takesName_73 rfl 1 rfl ?_
  refine aw_aload_n (pc := 74) C dX4_takesName_74 rfl 0 rfl ?_
  refine aw_get (pc := 75) C (a := 45) (k := 12) (v := .int (μ.1 45 12)) inX4 rfl rfl (by decide) q752 dX4_takesName_75 rfl ?_
  refine aw_bipush (pc := 78) C (v := 6) dX4_takesName_78 rfl ?_
  refine aw_icmp_ne (pc := 80) C 88 dX4_takesName_80 rfl (fun hc => ?_) (fun hc => ?_)
  · replace h := ite_F h hc
    refine aw_aload_n (pc := 88) C dX4_takesName_88 rfl 0 rfl ?_
    refine aw_get (pc := 89) C (a := 45) (k := 12) (v := .int (μ.1 45 12)) inX4 rfl rfl (by decide) q752 dX4_takesName_89 rfl ?_
    refine aw_bipush (pc := 92) C (v := 9) dX4_takesName_92 rfl ?_
    have kJ : AV l p e s m args below meth c D cI cL ad 2 3 (.inr (some (.int r.1))) r.2 104 [(0, .ref (ad 45)), (2, .int v2)] [.int (if (μ.1 45 12) < 9 then (11 : Int32) else 10), .int v2, .ref (ad 45)] μ := by
      obtain ⟨q4, μ5, hq3, h⟩ := bn_some h
      refine aw_Vi (pc := 104) (a := 45) (Bs := [.int v2, .int (if (μ.1 45 12) < 9 then (11 : Int32) else 10)]) C (ok_X4_goes C.tr hq3) kv_X4_goes q981 rfl rfl rfl rfl dX4_takesName_104 ⟨(show 1 ≤ 2 by decide), (show 22 ≤ 62 by decide)⟩ ⟨Nat.zero_le _, Nat.zero_le _⟩ [] (Nat.le_of_ble_eq_true rfl) rfl ?_
      obtain ⟨g6, h⟩ := rz_some h
      cases h
      exact aw_zret (pc := 107) C (b01_nar g6) dX4_takesName_107
    refine aw_icmp_lt (pc := 94) C 102 dX4_takesName_94 rfl (fun hd1 => ?_) (fun hd1 => ?_)
    · refine aw_bipush (pc := 102) C (v := 11) dX4_takesName_102 rfl ?_
      rw [if_pos hd1] at kJ
      exact kJ
    · refine aw_bipush (pc := 97) C (v := 10) dX4_takesName_97 rfl ?_
      refine aw_goto (pc := 99) C 104 dX4_takesName_99 rfl ?_
      rw [if_neg hd1] at kJ
      exact kJ
  · replace h := ite_T h hc
    refine aw_bipush (pc := 83) C (v := 7) dX4_takesName_83 rfl ?_
    refine aw_goto (pc := 85) C 104 dX4_takesName_85 rfl ?_
    refine aw_sub [] rfl ?_
    exact ok_X4_takesName_j104 C hex h
theorem ok_X4_takesName_j60 {l : Launch} {p : Program} {e : Env} {s : State} {m : MethodId} {args : Array Value} {below : List Frame} {meth : Method} {c : Code} {D : va_G} {cI cL : ClassId} {ad : Nat → Nat} (C : CX p l s m args meth c RX4 cX4_takesName 3 (some .boolean) D cI cL (AA ad s.heap.size)) (hex : ∀ x ∈ c.exceptionTable.toList, False) {r : (Int32 × Mm)} {v1 : Int32} {v2 : Int32} {μ : Mm}  (h : X4_takesName_j60 v1 v2 μ = some r) : AV l p e s m args below meth c D cI cL ad 2 3 (.inr (some (.int r.1))) r.2 60 [(0, .ref (ad 45)), (1, .int v1), (2, .int v2)] [] μ := by
  unfold X4_takesName_j60 at h
  refine aw_iload_n (pc := 60) C dX4_takesName_60 rfl 2 rfl ?_
  refine aw_if_eq (pc := 61) C 72 dX4_takesName_61 rfl (fun hc => ?_) (fun hc => ?_)
  · replace h := ite_T h hc
    refine aw_sub [0, 2] rfl ?_
    exact ok_X4_takesName_j72 C hex h
  · replace h := ite_F h hc
    refine aw_aload_n (pc := 64) C dX4_takesName_64 rfl 0 rfl ?_
    refine aw_iload_n (pc := 65) C dX4_takesName_65 rfl 1 rfl ?_
    refine aw_bipush (pc := 66) C (v := 97) dX4_takesName_66 rfl ?_
    refine aw_isub (pc := 68) C dX4_takesName_68 ?_
    obtain ⟨μ11, eμ11, h⟩ := bd_some h
    refine aw_putI (pc := 69) C (a := 45) (k := 16) (ty := .int) inX4 tyX4 tyX4_ok nmX4 rfl rfl (by decide) q756 rfl (by decide +kernel) rfl rfl (by show 16 < 26; decide) dX4_takesName_69 fl_4_16 eμ11 ?_
    refine aw_sub [0, 2] rfl ?_
    exact ok_X4_takesName_j72 C hex h
theorem ok_X4_takesName_j29 {l : Launch} {p : Program} {e : Env} {s : State} {m : MethodId} {args : Array Value} {below : List Frame} {meth : Method} {c : Code} {D : va_G} {cI cL : ClassId} {ad : Nat → Nat} (C : CX p l s m args meth c RX4 cX4_takesName 3 (some .boolean) D cI cL (AA ad s.heap.size)) (hex : ∀ x ∈ c.exceptionTable.toList, False) {r : (Int32 × Mm)} {v1 : Int32} {v2 : Int32} {μ : Mm}  (h : X4_takesName_j29 v1 v2 μ = some r) : AV l p e s m args below meth c D cI cL ad 2 3 (.inr (some (.int r.1))) r.2 29 [(0, .ref (ad 45)), (1, .int v1), (2, .int v2)] [] μ := by
  unfold X4_takesName_j29 at h
  refine aw_iload_n (pc := 29) C dX4_takesName_29 rfl 2 rfl ?_
  refine aw_if_eq (pc := 30) C 60 dX4_takesName_30 rfl (fun hc => ?_) (fun hc => ?_)
  · replace h := ite_T h hc
    refine aw_sub [0, 1, 2] rfl ?_
    exact ok_X4_takesName_j60 C hex h
  · replace h := ite_F h hc
    refine aw_aload_n (pc := 33) C dX4_takesName_33 rfl 0 rfl ?_
    refine aw_get (pc := 34) C (a := 45) (k := 12) (v := .int (μ.1 45 12)) inX4 rfl rfl (by decide) q752 dX4_takesName_34 rfl ?_
    refine aw_bipush (pc := 37) C (v := 9) dX4_takesName_37 rfl ?_
    refine aw_icmp_lt (pc := 39) C 60 dX4_takesName_39 rfl (fun hc => ?_) (fun hc => ?_)
    · replace h := ite_T h hc
      refine aw_sub [0, 1, 2] rfl ?_
      exact ok_X4_takesName_j60 C hex h
    · replace h := ite_F h hc
      refine aw_aload_n (pc := 42) C dX4_takesName_42 rfl 0 rfl ?_
      refine aw_dup (pc := 43) C dX4_takesName_43 rfl ?_
      refine aw_get (pc := 44) C (a := 45) (k := 18) (v := .int (μ.1 45 18)) inX4 rfl rfl (by decide) q758 dX4_takesName_44 rfl ?_
      refine aw_iconst (pc := 47) C (v := 1) dX4_takesName_47 rfl ?_
      refine aw_iload_n (pc := 48) C dX4_takesName_48 rfl 1 rfl ?_
      refine aw_bipush (pc := 49) C (v := 97) dX4_takesName_49 rfl ?_
      refine aw_isub (pc := 51) C dX4_takesName_51 ?_
      refine aw_ishl (pc := 52) C dX4_takesName_52 ?_
      refine aw_ior (pc := 53) C dX4_takesName_53 ?_
      obtain ⟨μ12, eμ12, h⟩ := bd_some h
      refine aw_putI (pc := 54) C (a := 45) (k := 18) (ty := .int) inX4 tyX4 tyX4_ok nmX4 rfl rfl (by decide) q758 rfl (by decide +kernel) rfl rfl (by show 18 < 26; decide) dX4_takesName_54 fl_4_18 eμ12 ?_
      refine aw_goto (pc := 57) C 72 dX4_takesName_57 rfl ?_
      refine aw_sub [0, 2] rfl ?_
      exact ok_X4_takesName_j72 C hex h
theorem ok_X4_takesName {l : Launch} (htr : l.stackTraces = false) {v1 : Int32} {μ : Mm} {r : (Int32 × Mm)}  (h : X4_takesName v1 μ = some r) : MetX l yX4_takesName cX4_takesName 3 (some .boolean) 2 (fun ad => [.ref (ad 45), .int v1]) μ (.inr (some (.int r.1))) r.2 := by
  refine MetX.of htr (by decide) rfl (fun ad => Nat.le_of_ble_eq_true rfl) (fun p e s m args below meth c D cI cL ad C hex hw => ?_)
  show AV l p e s m args below meth c D cI cL ad 2 3 (.inr (some (.int r.1))) r.2 0 [(0, .ref (ad 45)), (1, .int v1)] [] μ
  unfold X4_takesName at h
  refine aw_iload_n (pc := 0) C dX4_takesName_0 rfl 1 rfl ?_
  obtain ⟨q2, hq1, h⟩ := bi_some h
  refine aw_Si (pc := 1) (Bs := [.int v1]) C (ok_X4_isNameLetter C.tr hq1) kv_X4_isNameLetter q997 rfl rfl dX4_takesName_1 ⟨(show 2 ≤ 2 by decide), (show 51 ≤ 62 by decide)⟩ ⟨Nat.zero_le _, Nat.zero_le _⟩ [] (Nat.le_of_ble_eq_true rfl) rfl ?_
  refine aw_istore_n (pc := 4) C (x := q2) (lv' := [(2, .int q2), (0, .ref (ad 45)), (1, .int v1)]) dX4_takesName_4 rfl (by decide) rfl rfl ?_
  refine aw_iload_n (pc := 5) C dX4_takesName_5 rfl 0 rfl ?_
  refine aw_if_eq (pc := 6) C 29 dX4_takesName_6 rfl (fun hc => ?_) (fun hc => ?_)
  · replace h := ite_T h hc
    refine aw_sub [1, 2, 0] rfl ?_
    exact ok_X4_takesName_j29 C hex h
  · replace h := ite_F h hc
    refine aw_aload_n (pc := 9) C dX4_takesName_9 rfl 1 rfl ?_
    refine aw_get (pc := 10) C (a := 45) (k := 12) (v := .int (μ.1 45 12)) inX4 rfl rfl (by decide) q752 dX4_takesName_10 rfl ?_
    refine aw_bipush (pc := 13) C (v := 8) dX4_takesName_13 rfl ?_
    refine aw_icmp_ne (pc := 15) C 29 dX4_takesName_15 rfl (fun hc => ?_) (fun hc => ?_)
    · replace h := ite_F h hc
      refine aw_sub [1, 2, 0] rfl ?_
      exact ok_X4_takesName_j29 C hex h
    · replace h := ite_T h hc
      refine aw_aload_n (pc := 18) C dX4_takesName_18 rfl 1 rfl ?_
      refine aw_iload_n (pc := 19) C dX4_takesName_19 rfl 2 rfl ?_
      refine aw_bipush (pc := 20) C (v := 97) dX4_takesName_20 rfl ?_
      refine aw_isub (pc := 22) C dX4_takesName_22 ?_
      obtain ⟨μ13, eμ13, h⟩ := bd_some h
      refine aw_putI (pc := 23) C (a := 45) (k := 17) (ty := .int) inX4 tyX4 tyX4_ok nmX4 rfl rfl (by decide) q757 rfl (by decide +kernel) rfl rfl (by show 17 < 26; decide) dX4_takesName_23 fl_4_17 eμ13 ?_
      refine aw_goto (pc := 26) C 72 dX4_takesName_26 rfl ?_
      refine aw_sub [1, 0] rfl ?_
      exact ok_X4_takesName_j72 C hex h
/-! ### NameScopesModel.takes(I)Z -/
theorem ok_X4_takes_j103 {l : Launch} {p : Program} {e : Env} {s : State} {m : MethodId} {args : Array Value} {below : List Frame} {meth : Method} {c : Code} {D : va_G} {cI cL : ClassId} {ad : Nat → Nat} (C : CX p l s m args meth c RX4 cX4_takes 2 (some .boolean) D cI cL (AA ad s.heap.size)) (hex : ∀ x ∈ c.exceptionTable.toList, False) {r : (Int32 × Mm)} {v1 : Int32} {s0 : Int32} {μ : Mm}  (h : X4_takes_j103 v1 s0 μ = some r) : AV l p e s m args below meth c D cI cL ad 5 2 (.inr (some (.int r.1))) r.2 103 [(0, .ref (ad 45)), (1, .int v1)] [.int s0, .ref (ad 45)] μ := by
  unfold X4_takes_j103 at h
  obtain ⟨μ4, eμ4, h⟩ := bd_some h
  refine aw_putI (pc := 103) C (a := 45) (k := 14) (ty := .int) inX4 tyX4 tyX4_ok nmX4 rfl rfl (by decide) q754 rfl (by decide +kernel) rfl rfl (by show 14 < 26; decide) dX4_takes_103 fl_4_14 eμ4 ?_
  refine aw_aload_n (pc := 106) C dX4_takes_106 rfl 0 rfl ?_
  refine aw_iload_n (pc := 107) C dX4_takes_107 rfl 1 rfl ?_
  obtain ⟨q6, hq5, h⟩ := bi_some h
  refine aw_Si (pc := 108) (Bs := [.int v1]) C (ok_X4_isScopeLetter C.tr hq5) kv_X4_isScopeLetter q978 rfl rfl dX4_takes_108 ⟨(show 2 ≤ 5 by decide), (show 51 ≤ 155 by decide)⟩ ⟨Nat.zero_le _, Nat.zero_le _⟩ [.ref (ad 45)] (Nat.le_of_ble_eq_true rfl) rfl ?_
  refine aw_iconst (pc := 111) C (v := 1) dX4_takes_111 rfl ?_
  obtain ⟨q8, μ9, hq7, h⟩ := bn_some h
  refine aw_Vi (pc := 112) (a := 45) (Bs := [.int q6, .int 1]) C (ok_X4_goes C.tr hq7) kv_X4_goes q981 rfl rfl rfl rfl dX4_takes_112 ⟨(show 1 ≤ 5 by decide), (show 22 ≤ 155 by decide)⟩ ⟨Nat.zero_le _, Nat.zero_le _⟩ [] (Nat.le_of_ble_eq_true rfl) rfl ?_
  obtain ⟨g10, h⟩ := rz_some h
  cases h
  exact aw_zret (pc := 115) C (b01_nar g10) dX4_takes_115
theorem ok_X4_takes_j168 {l : Launch} {p : Program} {e : Env} {s : State} {m : MethodId} {args : Array Value} {below : List Frame} {meth : Method} {c : Code} {D : va_G} {cI cL : ClassId} {ad : Nat → Nat} (C : CX p l s m args meth c RX4 cX4_takes 2 (some .boolean) D cI cL (AA ad s.heap.size)) (hex : ∀ x ∈ c.exceptionTable.toList, False) {r : (Int32 × Mm)} {v1 : Int32} {μ : Mm}  (h : X4_takes_j168 v1 μ = some r) : AV l p e s m args below meth c D cI cL ad 5 2 (.inr (some (.int r.1))) r.2 168 [] [] μ := by
  unfold X4_takes_j168 at h
  refine aw_iconst (pc := 168) C (v := 1) dX4_takes_168 rfl ?_
  refine aw_goto (pc := 169) C 173 dX4_takes_169 rfl ?_
  cases h
  exact aw_zret (pc := 173) C (b01_nar b01_1) dX4_takes_173
theorem ok_X4_takes_j19 {l : Launch} {p : Program} {e : Env} {s : State} {m : MethodId} {args : Array Value} {below : List Frame} {meth : Method} {c : Code} {D : va_G} {cI cL : ClassId} {ad : Nat → Nat} (C : CX p l s m args meth c RX4 cX4_takes 2 (some .boolean) D cI cL (AA ad s.heap.size)) (hex : ∀ x ∈ c.exceptionTable.toList, False) {r : (Int32 × Mm)} {v1 : Int32} {μ : Mm}  (h : X4_takes_j19 v1 μ = some r) : AV l p e s m args below meth c D cI cL ad 5 2 (.inr (some (.int r.1))) r.2 19 [(0, .ref (ad 45)), (1, .int v1)] [] μ := by
  unfold X4_takes_j19 at h
  refine aw_aload_n (pc := 19) C dX4_takes_19 rfl 0 rfl ?_
  refine aw_get (pc := 20) C (a := 45) (k := 12) (v := .int (μ.1 45 12)) inX4 rfl rfl (by decide) q752 dX4_takes_20 rfl ?_
  by_cases hs1 : (μ.1 45 12) = 0
  · replace h := ite_T h hs1
    refine aw_tableIn (pc := 23) C 84 dX4_takes_23 (by rw [hs1]; decide) (by rw [hs1]; decide) (by rw [hs1]; rfl) rfl ?_
    refine aw_aload_n (pc := 84) C dX4_takes_84 rfl 0 rfl ?_
    refine aw_iload_n (pc := 85) C dX4_takes_85 rfl 1 rfl ?_
    obtain ⟨q3, hq2, h⟩ := bi_some h
    refine aw_Si (pc := 86) (Bs := [.int v1]) C (ok_X4_isScopeLetter C.tr hq2) kv_X4_isScopeLetter q978 rfl rfl dX4_takes_86 ⟨(show 2 ≤ 5 by decide), (show 51 ≤ 155 by decide)⟩ ⟨Nat.zero_le _, Nat.zero_le _⟩ [.ref (ad 45)] (Nat.le_of_ble_eq_true rfl) rfl ?_
    refine aw_if_eq (pc := 89) C 99 dX4_takes_89 rfl (fun hc => ?_) (fun hc => ?_)
    · replace h := ite_T h hc
      refine aw_aload_n (pc := 99) C dX4_takes_99 rfl 0 rfl ?_
      refine aw_get (pc := 100) C (a := 45) (k := 14) (v := .int (μ.1 45 14)) inX4 rfl rfl (by decide) q754 dX4_takes_100 rfl ?_
      refine aw_sub [0, 1] rfl ?_
      exact ok_X4_takes_j103 C hex h
    · replace h := ite_F h hc
      refine aw_iload_n (pc := 92) C dX4_takes_92 rfl 1 rfl ?_
      refine aw_bipush (pc := 93) C (v := 65) dX4_takes_93 rfl ?_
      refine aw_isub (pc := 95) C dX4_takes_95 ?_
      refine aw_goto (pc := 96) C 103 dX4_takes_96 rfl ?_
      refine aw_sub [0, 1] rfl ?_
      exact ok_X4_takes_j103 C hex h
  replace h := ite_F h hs1
  by_cases hs11 : (μ.1 45 12) = 1
  · replace h := ite_T h hs11
    refine aw_tableIn (pc := 23) C 116 dX4_takes_23 (by rw [hs11]; decide) (by rw [hs11]; decide) (by rw [hs11]; rfl) rfl ?_
    refine aw_aload_n (pc := 116) C dX4_takes_116 rfl 0 rfl ?_
    refine aw_iload_n (pc := 117) C dX4_takes_117 rfl 1 rfl ?_
    obtain ⟨q13, μ14, hq12, h⟩ := bn_some h
    refine aw_Vi (pc := 118) (a := 45) (Bs := [.int v1]) C (ok_X4_takesSign C.tr hq12) kv_X4_takesSign q985 rfl rfl rfl rfl dX4_takes_118 ⟨(show 1 ≤ 5 by decide), (show 22 ≤ 155 by decide)⟩ ⟨Nat.zero_le _, Nat.zero_le _⟩ [] (Nat.le_of_ble_eq_true rfl) rfl ?_
    obtain ⟨g15, h⟩ := rz_some h
    cases h
    exact aw_zret (pc := 121) C (b01_nar g15) dX4_takes_121
  replace h := ite_F h hs11
  by_cases hs16 : (μ.1 45 12) = 2
  · replace h := ite_T h hs16
    refine aw_tableIn (pc := 23) C 194 dX4_takes_23 (by rw [hs16]; decide) (by rw [hs16]; decide) (by rw [hs16]; rfl) rfl ?_
    refine aw_aload_n (pc := 194) C dX4_takes_194 rfl 0 rfl ?_
    refine aw_iload_n (pc := 195) C dX4_takes_195 rfl 1 rfl ?_
    obtain ⟨q18, μ19, hq17, h⟩ := bn_some h
    refine aw_Vi (pc := 196) (a := 45) (Bs := [.int v1]) C (ok_X4_takesName C.tr hq17) kv_X4_takesName q993 rfl rfl rfl rfl dX4_takes_196 ⟨(show 3 ≤ 5 by decide), (show 84 ≤ 155 by decide)⟩ ⟨Nat.zero_le _, Nat.zero_le _⟩ [] (Nat.le_of_ble_eq_true rfl) rfl ?_
    obtain ⟨g20, h⟩ := rz_some h
    cases h
    exact aw_zret (pc := 199) C (b01_nar g20) dX4_takes_199
  replace h := ite_F h hs16
  by_cases hs21 : (μ.1 45 12) = 3
  · replace h := ite_T h hs21
    refine aw_tableIn (pc := 23) C 122 dX4_takes_23 (by rw [hs21]; decide) (by rw [hs21]; decide) (by rw [hs21]; rfl) rfl ?_
    refine aw_aload_n (pc := 122) C dX4_takes_122 rfl 0 rfl ?_
    refine aw_iload_n (pc := 123) C dX4_takes_123 rfl 1 rfl ?_
    obtain ⟨q23, μ24, hq22, h⟩ := bn_some h
    refine aw_Vi (pc := 124) (a := 45) (Bs := [.int v1]) C (ok_X4_takesFrom C.tr hq22) kv_X4_takesFrom q989 rfl rfl rfl rfl dX4_takes_124 ⟨(show 3 ≤ 5 by decide), (show 83 ≤ 155 by decide)⟩ ⟨Nat.zero_le _, Nat.zero_le _⟩ [] (Nat.le_of_ble_eq_true rfl) rfl ?_
    obtain ⟨g25, h⟩ := rz_some h
    cases h
    exact aw_zret (pc := 127) C (b01_nar g25) dX4_takes_127
  replace h := ite_F h hs21
  by_cases hs26 : (μ.1 45 12) = 4
  · replace h := ite_T h hs26
    refine aw_tableIn (pc := 23) C 122 dX4_takes_23 (by rw [hs26]; decide) (by rw [hs26]; decide) (by rw [hs26]; rfl) rfl ?_
    refine aw_aload_n (pc := 122) C dX4_takes_122 rfl 0 rfl ?_
    refine aw_iload_n (pc := 123) C dX4_takes_123 rfl 1 rfl ?_
    obtain ⟨q28, μ29, hq27, h⟩ := bn_some h
    refine aw_Vi (pc := 124) (a := 45) (Bs := [.int v1]) C (ok_X4_takesFrom C.tr hq27) kv_X4_takesFrom q989 rfl rfl rfl rfl dX4_takes_124 ⟨(show 3 ≤ 5 by decide), (show 83 ≤ 155 by decide)⟩ ⟨Nat.zero_le _, Nat.zero_le _⟩ [] (Nat.le_of_ble_eq_true rfl) rfl ?_
    obtain ⟨g30, h⟩ := rz_some h
    cases h
    exact aw_zret (pc := 127) C (b01_nar g30) dX4_takes_127
  replace h := ite_F h hs26
  by_cases hs31 : (μ.1 45 12) = 5
  · replace h := ite_T h hs31
    refine aw_tableIn (pc := 23) C 128 dX4_takes_23 (by rw [hs31]; decide) (by rw [hs31]; decide) (by rw [hs31]; rfl) rfl ?_
    refine aw_aload_n (pc := 128) C dX4_takes_128 rfl 0 rfl ?_
    refine aw_iload_n (pc := 129) C dX4_takes_129 rfl 1 rfl ?_
    refine aw_bipush (pc := 130) C (v := 46) dX4_takes_130 rfl ?_
    have kJ : AV l p e s m args below meth c D cI cL ad 5 2 (.inr (some (.int r.1))) r.2 140 [(0, .ref (ad 45)), (1, .int v1)] [.int (if v1 = 46 then (1 : Int32) else 0), .ref (ad 45)] μ := by
      refine aw_bipush (pc := 140) C (v := 6) dX4_takes_140 rfl ?_
      obtain ⟨q33, μ34, hq32, h⟩ := bn_some h
      refine aw_Vi (pc := 142) (a := 45) (Bs := [.int (if v1 = 46 then (1 : Int32) else 0), .int 6]) C (ok_X4_goes C.tr hq32) kv_X4_goes q981 rfl rfl rfl rfl dX4_takes_142 ⟨(show 1 ≤ 5 by decide), (show 22 ≤ 155 by decide)⟩ ⟨Nat.zero_le _, Nat.zero_le _⟩ [] (Nat.le_of_ble_eq_true rfl) rfl ?_
      refine aw_if_ne (pc := 145) C 168 dX4_takes_145 rfl (fun hc => ?_) (fun hc => ?_)
      · replace h := ite_F h hc
        refine aw_sub [] rfl ?_
        exact ok_X4_takes_j168 C hex h
      · replace h := ite_T h hc
        refine aw_aload_n (pc := 148) C dX4_takes_148 rfl 0 rfl ?_
        refine aw_iload_n (pc := 149) C dX4_takes_149 rfl 1 rfl ?_
        refine aw_bipush (pc := 150) C (v := 47) dX4_takes_150 rfl ?_
        have kJ : AV l p e s m args below meth c D cI cL ad 5 2 (.inr (some (.int r.1))) r.2 160 [(0, .ref (ad 45)), (1, .int v1)] [.int (if v1 = 47 then (1 : Int32) else 0), .ref (ad 45)] μ34 := by
          refine aw_bipush (pc := 160) C (v := 9) dX4_takes_160 rfl ?_
          obtain ⟨q36, μ37, hq35, h⟩ := bn_some h
          refine aw_Vi (pc := 162) (a := 45) (Bs := [.int (if v1 = 47 then (1 : Int32) else 0), .int 9]) C (ok_X4_goes C.tr hq35) kv_X4_goes q981 rfl rfl rfl rfl dX4_takes_162 ⟨(show 1 ≤ 5 by decide), (show 22 ≤ 155 by decide)⟩ ⟨Nat.zero_le _, Nat.zero_le _⟩ [] (Nat.le_of_ble_eq_true rfl) rfl ?_
          have kJ : AV l p e s m args below meth c D cI cL ad 5 2 (.inr (some (.int r.1))) r.2 173 [(0, .ref (ad 45)), (1, .int v1)] [.int (if q36 = 0 then (0 : Int32) else 1)] μ37 := by
            cases h
            exact aw_zret (pc := 173) C (b01_nar (b01_ite b01_0 b01_1)) dX4_takes_173
          refine aw_if_eq (pc := 165) C 172 dX4_takes_165 rfl (fun hd1 => ?_) (fun hd1 => ?_)
          · refine aw_iconst (pc := 172) C (v := 0) dX4_takes_172 rfl ?_
            rw [if_pos hd1] at kJ
            exact kJ
          · refine aw_iconst (pc := 168) C (v := 1) dX4_takes_168 rfl ?_
            refine aw_goto (pc := 169) C 173 dX4_takes_169 rfl ?_
            rw [if_neg hd1] at kJ
            exact kJ
        refine aw_icmp_ne (pc := 152) C 159 dX4_takes_152 rfl (fun hd1 => ?_) (fun hd1 => ?_)
        · refine aw_iconst (pc := 159) C (v := 0) dX4_takes_159 rfl ?_
          rw [if_neg hd1] at kJ
          exact kJ
        · refine aw_iconst (pc := 155) C (v := 1) dX4_takes_155 rfl ?_
          refine aw_goto (pc := 156) C 160 dX4_takes_156 rfl ?_
          rw [if_pos hd1] at kJ
          exact kJ
    refine aw_icmp_ne (pc := 132) C 139 dX4_takes_132 rfl (fun hd1 => ?_) (fun hd1 => ?_)
    · refine aw_iconst (pc := 139) C (v := 0) dX4_takes_139 rfl ?_
      rw [if_neg hd1] at kJ
      exact kJ
    · refine aw_iconst (pc := 135) C (v := 1) dX4_takes_135 rfl ?_
      refine aw_goto (pc := 136) C 140 dX4_takes_136 rfl ?_
      rw [if_pos hd1] at kJ
      exact kJ
  replace h := ite_F h hs31
  by_cases hs38 : (μ.1 45 12) = 6
  · replace h := ite_T h hs38
    refine aw_tableIn (pc := 23) C 194 dX4_takes_23 (by rw [hs38]; decide) (by rw [hs38]; decide) (by rw [hs38]; rfl) rfl ?_
    refine aw_aload_n (pc := 194) C dX4_takes_194 rfl 0 rfl ?_
    refine aw_iload_n (pc := 195) C dX4_takes_195 rfl 1 rfl ?_
    obtain ⟨q40, μ41, hq39, h⟩ := bn_some h
    refine aw_Vi (pc := 196) (a := 45) (Bs := [.int v1]) C (ok_X4_takesName C.tr hq39) kv_X4_takesName q993 rfl rfl rfl rfl dX4_takes_196 ⟨(show 3 ≤ 5 by decide), (show 84 ≤ 155 by decide)⟩ ⟨Nat.zero_le _, Nat.zero_le _⟩ [] (Nat.le_of_ble_eq_true rfl) rfl ?_
    obtain ⟨g42, h⟩ := rz_some h
    cases h
    exact aw_zret (pc := 199) C (b01_nar g42) dX4_takes_199
  replace h := ite_F h hs38
  by_cases hs43 : (μ.1 45 12) = 7
  · replace h := ite_T h hs43
    refine aw_tableIn (pc := 23) C 174 dX4_takes_23 (by rw [hs43]; decide) (by rw [hs43]; decide) (by rw [hs43]; rfl) rfl ?_
    refine aw_aload_n (pc := 174) C dX4_takes_174 rfl 0 rfl ?_
    refine aw_iload_n (pc := 175) C dX4_takes_175 rfl 1 rfl ?_
    refine aw_bipush (pc := 176) C (v := 61) dX4_takes_176 rfl ?_
    have kJ : AV l p e s m args below meth c D cI cL ad 5 2 (.inr (some (.int r.1))) r.2 186 [(0, .ref (ad 45)), (1, .int v1)] [.int (if v1 = 61 then (1 : Int32) else 0), .ref (ad 45)] μ := by
      refine aw_bipush (pc := 186) C (v := 8) dX4_takes_186 rfl ?_
      obtain ⟨q45, μ46, hq44, h⟩ := bn_some h
      refine aw_Vi (pc := 188) (a := 45) (Bs := [.int (if v1 = 61 then (1 : Int32) else 0), .int 8]) C (ok_X4_goes C.tr hq44) kv_X4_goes q981 rfl rfl rfl rfl dX4_takes_188 ⟨(show 1 ≤ 5 by decide), (show 22 ≤ 155 by decide)⟩ ⟨Nat.zero_le _, Nat.zero_le _⟩ [] (Nat.le_of_ble_eq_true rfl) rfl ?_
      obtain ⟨g47, h⟩ := rz_some h
      cases h
      exact aw_zret (pc := 191) C (b01_nar g47) dX4_takes_191
    refine aw_icmp_ne (pc := 178) C 185 dX4_takes_178 rfl (fun hd1 => ?_) (fun hd1 => ?_)
    · refine aw_iconst (pc := 185) C (v := 0) dX4_takes_185 rfl ?_
      rw [if_neg hd1] at kJ
      exact kJ
    · refine aw_iconst (pc := 181) C (v := 1) dX4_takes_181 rfl ?_
      refine aw_goto (pc := 182) C 186 dX4_takes_182 rfl ?_
      rw [if_pos hd1] at kJ
      exact kJ
  replace h := ite_F h hs43
  by_cases hs48 : (μ.1 45 12) = 8
  · replace h := ite_T h hs48
    refine aw_tableIn (pc := 23) C 194 dX4_takes_23 (by rw [hs48]; decide) (by rw [hs48]; decide) (by rw [hs48]; rfl) rfl ?_
    refine aw_aload_n (pc := 194) C dX4_takes_194 rfl 0 rfl ?_
    refine aw_iload_n (pc := 195) C dX4_takes_195 rfl 1 rfl ?_
    obtain ⟨q50, μ51, hq49, h⟩ := bn_some h
    refine aw_Vi (pc := 196) (a := 45) (Bs := [.int v1]) C (ok_X4_takesName C.tr hq49) kv_X4_takesName q993 rfl rfl rfl rfl dX4_takes_196 ⟨(show 3 ≤ 5 by decide), (show 84 ≤ 155 by decide)⟩ ⟨Nat.zero_le _, Nat.zero_le _⟩ [] (Nat.le_of_ble_eq_true rfl) rfl ?_
    obtain ⟨g52, h⟩ := rz_some h
    cases h
    exact aw_zret (pc := 199) C (b01_nar g52) dX4_takes_199
  replace h := ite_F h hs48
  by_cases hs53 : (μ.1 45 12) = 9
  · replace h := ite_T h hs53
    refine aw_tableIn (pc := 23) C 194 dX4_takes_23 (by rw [hs53]; decide) (by rw [hs53]; decide) (by rw [hs53]; rfl) rfl ?_
    refine aw_aload_n (pc := 194) C dX4_takes_194 rfl 0 rfl ?_
    refine aw_iload_n (pc := 195) C dX4_takes_195 rfl 1 rfl ?_
    obtain ⟨q55, μ56, hq54, h⟩ := bn_some h
    refine aw_Vi (pc := 196) (a := 45) (Bs := [.int v1]) C (ok_X4_takesName C.tr hq54) kv_X4_takesName q993 rfl rfl rfl rfl dX4_takes_196 ⟨(show 3 ≤ 5 by decide), (show 84 ≤ 155 by decide)⟩ ⟨Nat.zero_le _, Nat.zero_le _⟩ [] (Nat.le_of_ble_eq_true rfl) rfl ?_
    obtain ⟨g57, h⟩ := rz_some h
    cases h
    exact aw_zret (pc := 199) C (b01_nar g57) dX4_takes_199
  replace h := ite_F h hs53
  by_cases hs58 : (μ.1 45 12) = 10
  · replace h := ite_T h hs58
    refine aw_tableIn (pc := 23) C 194 dX4_takes_23 (by rw [hs58]; decide) (by rw [hs58]; decide) (by rw [hs58]; rfl) rfl ?_
    refine aw_aload_n (pc := 194) C dX4_takes_194 rfl 0 rfl ?_
    refine aw_iload_n (pc := 195) C dX4_takes_195 rfl 1 rfl ?_
    obtain ⟨q60, μ61, hq59, h⟩ := bn_some h
    refine aw_Vi (pc := 196) (a := 45) (Bs := [.int v1]) C (ok_X4_takesName C.tr hq59) kv_X4_takesName q993 rfl rfl rfl rfl dX4_takes_196 ⟨(show 3 ≤ 5 by decide), (show 84 ≤ 155 by decide)⟩ ⟨Nat.zero_le _, Nat.zero_le _⟩ [] (Nat.le_of_ble_eq_true rfl) rfl ?_
    obtain ⟨g62, h⟩ := rz_some h
    cases h
    exact aw_zret (pc := 199) C (b01_nar g62) dX4_takes_199
  replace h := ite_F h hs58
  by_cases hs63 : (μ.1 45 12) = 11
  · replace h := ite_T h hs63
    refine aw_tableIn (pc := 23) C 192 dX4_takes_23 (by rw [hs63]; decide) (by rw [hs63]; decide) (by rw [hs63]; rfl) rfl ?_
    refine aw_iconst (pc := 192) C (v := 0) dX4_takes_192 rfl ?_
    cases h
    exact aw_zret (pc := 193) C (b01_nar b01_0) dX4_takes_193
  replace h := ite_F h hs63
  refine aw_tableOut (pc := 23) C 194 dX4_takes_23 (by have hs1z := sw_ne hs1 (show Int32.toInt 0 = 0 by decide); have hs11z := sw_ne hs11 (show Int32.toInt 1 = 1 by decide); have hs16z := sw_ne hs16 (show Int32.toInt 2 = 2 by decide); have hs21z := sw_ne hs21 (show Int32.toInt 3 = 3 by decide); have hs26z := sw_ne hs26 (show Int32.toInt 4 = 4 by decide); have hs31z := sw_ne hs31 (show Int32.toInt 5 = 5 by decide); have hs38z := sw_ne hs38 (show Int32.toInt 6 = 6 by decide); have hs43z := sw_ne hs43 (show Int32.toInt 7 = 7 by decide); have hs48z := sw_ne hs48 (show Int32.toInt 8 = 8 by decide); have hs53z := sw_ne hs53 (show Int32.toInt 9 = 9 by decide); have hs58z := sw_ne hs58 (show Int32.toInt 10 = 10 by decide); have hs63z := sw_ne hs63 (show Int32.toInt 11 = 11 by decide); omega) rfl ?_
  refine aw_aload_n (pc := 194) C dX4_takes_194 rfl 0 rfl ?_
  refine aw_iload_n (pc := 195) C dX4_takes_195 rfl 1 rfl ?_
  obtain ⟨q65, μ66, hq64, h⟩ := bn_some h
  refine aw_Vi (pc := 196) (a := 45) (Bs := [.int v1]) C (ok_X4_takesName C.tr hq64) kv_X4_takesName q993 rfl rfl rfl rfl dX4_takes_196 ⟨(show 3 ≤ 5 by decide), (show 84 ≤ 155 by decide)⟩ ⟨Nat.zero_le _, Nat.zero_le _⟩ [] (Nat.le_of_ble_eq_true rfl) rfl ?_
  obtain ⟨g67, h⟩ := rz_some h
  cases h
  exact aw_zret (pc := 199) C (b01_nar g67) dX4_takes_199
theorem ok_X4_takes {l : Launch} (htr : l.stackTraces = false) {v1 : Int32} {μ : Mm} {r : (Int32 × Mm)}  (h : X4_takes v1 μ = some r) : MetX l yX4_takes cX4_takes 2 (some .boolean) 5 (fun ad => [.ref (ad 45), .int v1]) μ (.inr (some (.int r.1))) r.2 := by
  refine MetX.of htr (by decide) rfl (fun ad => Nat.le_of_ble_eq_true rfl) (fun p e s m args below meth c D cI cL ad C hex hw => ?_)
  show AV l p e s m args below meth c D cI cL ad 5 2 (.inr (some (.int r.1))) r.2 0 [(0, .ref (ad 45)), (1, .int v1)] [] μ
  unfold X4_takes at h
  refine aw_iload_n (pc := 0) C dX4_takes_0 rfl 1 rfl ?_
  refine aw_bipush (pc := 1) C (v := 44) dX4_takes_1 rfl ?_
  refine aw_icmp_ne (pc := 3) C 19 dX4_takes_3 rfl (fun hc => ?_) (fun hc => ?_)
  · replace h := ite_F h hc
    refine aw_sub [0, 1] rfl ?_
    exact ok_X4_takes_j19 C hex h
  · replace h := ite_T h hc
    refine aw_aload_n (pc := 6) C dX4_takes_6 rfl 0 rfl ?_
    obtain ⟨q69, hq68, h⟩ := bi_some h
    refine aw_Vi (pc := 7) (a := 45) (Bs := []) C (ok_X4_canEnd C.tr hq68) kv_X4_canEnd q965 rfl rfl rfl rfl dX4_takes_7 ⟨(show 1 ≤ 5 by decide), (show 20 ≤ 155 by decide)⟩ ⟨Nat.zero_le _, Nat.zero_le _⟩ [] (Nat.le_of_ble_eq_true rfl) rfl ?_
    refine aw_if_eq (pc := 10) C 19 dX4_takes_10 rfl (fun hc => ?_) (fun hc => ?_)
    · replace h := ite_T h hc
      refine aw_sub [0, 1] rfl ?_
      exact ok_X4_takes_j19 C hex h
    · replace h := ite_F h hc
      refine aw_aload_n (pc := 13) C dX4_takes_13 rfl 0 rfl ?_
      obtain ⟨μ72, hq70, h⟩ := bi_some h
      refine aw_Vv (pc := 14) (a := 45) (Bs := []) C (ok_X4_endItem C.tr hq70) kv_X4_endItem q969 rfl rfl rfl rfl dX4_takes_14 ⟨(show 5 ≤ 5 by decide), (show 144 ≤ 155 by decide)⟩ ⟨Nat.zero_le _, Nat.zero_le _⟩ [] (Nat.le_of_ble_eq_true rfl) rfl ?_
      refine aw_iconst (pc := 17) C (v := 1) dX4_takes_17 rfl ?_
      cases h
      exact aw_zret (pc := 18) C (b01_nar b01_1) dX4_takes_18
/-! ### NameScopesModel.read(Z)I -/
theorem ok_X4_read_l22 {l : Launch} {p : Program} {e : Env} {s : State} {m : MethodId} {args : Array Value} {below : List Frame} {meth : Method} {c : Code} {D : va_G} {cI cL : ClassId} {ad : Nat → Nat} (C : CX p l s m args meth c RX4 cX4_read 3 (some .int) D cI cL (AA ad s.heap.size)) (hex : ∀ x ∈ c.exceptionTable.toList, False) {r : (Int32 × Mm)} {v1 : Int32} {k22 : Int32 → Mm → Option (Int32 × Mm)} (hk22 : ∀ (v2 : Int32) (μ : Mm), k22 v2 μ = some r → AV l p e s m args below meth c D cI cL ad 6 3 (.inr (some (.int r.1))) r.2 22 [(0, .ref (ad 45)), (2, .int v2)] [] μ) {v2 : Int32} {μ : Mm}  (h : X4_read_l22 v1 k22 v2 μ = some r) : AV l p e s m args below meth c D cI cL ad 6 3 (.inr (some (.int r.1))) r.2 22 [(0, .ref (ad 45)), (2, .int v2)] [] μ := by
  unfold X4_read_l22 at h
  refine aw_iload_n (pc := 22) C dX4_read_22 rfl 1 rfl ?_
  refine aw_aload_n (pc := 23) C dX4_read_23 rfl 0 rfl ?_
  refine aw_get (pc := 24) C (a := 45) (k := 5) (v := .int (μ.1 45 5)) inX4 rfl rfl (by decide) q745 dX4_read_24 rfl ?_
  refine aw_icmp_ge (pc := 27) C 49 dX4_read_27 rfl (fun hc => ?_) (fun hc => ?_)
  · replace h := ite_T h hc
    refine aw_iload_n (pc := 49) C dX4_read_49 rfl 1 rfl ?_
    cases h
    exact aw_iret (pc := 50) C dX4_read_50
  · replace h := ite_F h hc
    refine aw_aload_n (pc := 30) C dX4_read_30 rfl 0 rfl ?_
    refine aw_aload_n (pc := 31) C dX4_read_31 rfl 0 rfl ?_
    refine aw_get (pc := 32) C (a := 45) (k := 6) (v := .ref (ad 49)) inX4 rfl rfl (by decide) q746 dX4_read_32 rfl ?_
    refine aw_iload_n (pc := 35) C dX4_read_35 rfl 1 rfl ?_
    obtain ⟨g6, h⟩ := ck_some h
    refine aw_iaload (pc := 36) C (a := 49) rfl g6 dX4_read_36 ?_
    obtain ⟨q8, μ9, hq7, h⟩ := bn_some h
    refine aw_Vi (pc := 37) (a := 45) (Bs := [.int (μ.1 49 (v2 : Int32).toNatClampNeg)]) C (ok_X4_takes C.tr hq7) kv_X4_takes q961 rfl rfl rfl rfl dX4_read_37 ⟨(show 6 ≤ 6 by decide), (show 176 ≤ 186 by decide)⟩ ⟨Nat.zero_le _, Nat.zero_le _⟩ [] (Nat.le_of_ble_eq_true rfl) rfl ?_
    refine aw_if_eq (pc := 40) C 49 dX4_read_40 rfl (fun hc => ?_) (fun hc => ?_)
    · replace h := ite_T h hc
      refine aw_iload_n (pc := 49) C dX4_read_49 rfl 1 rfl ?_
      cases h
      exact aw_iret (pc := 50) C dX4_read_50
    · replace h := ite_F h hc
      refine aw_iinc (pc := 43) C (v := (v2 + 1)) (lv' := [(2, .int (v2 + 1)), (0, .ref (ad 45))]) dX4_read_43 1 rfl (by decide) rfl rfl ?_
      refine aw_goto (pc := 46) C 22 dX4_read_46 rfl ?_
      refine aw_sub [1, 0] rfl ?_
      exact hk22 (v2 + 1) μ9 h
theorem ok_X4_read_l22_w {l : Launch} {p : Program} {e : Env} {s : State} {m : MethodId} {args : Array Value} {below : List Frame} {meth : Method} {c : Code} {D : va_G} {cI cL : ClassId} {ad : Nat → Nat} (C : CX p l s m args meth c RX4 cX4_read 3 (some .int) D cI cL (AA ad s.heap.size)) (hex : ∀ x ∈ c.exceptionTable.toList, False) {r : (Int32 × Mm)} {v1 : Int32} : ∀ (n : Nat) (v2 : Int32) (μ : Mm) , itr (X4_read_l22 v1) (fun _ _ => none) n v2 μ = some r → AV l p e s m args below meth c D cI cL ad 6 3 (.inr (some (.int r.1))) r.2 22 [(0, .ref (ad 45)), (2, .int v2)] [] μ := by
  intro n
  induction n with
  | zero => intro v2 μ h; exact nomatch (show (none : Option (Int32 × Mm)) = some r from h)
  | succ n ih => intro v2 μ h; exact ok_X4_read_l22 C hex (v1 := v1) ih h
theorem ok_X4_read {l : Launch} (htr : l.stackTraces = false) {v1 : Int32} {μ : Mm} {r : (Int32 × Mm)}  (h : X4_read v1 μ = some r) : MetX l yX4_read cX4_read 3 (some .int) 6 (fun ad => [.ref (ad 45), .int v1]) μ (.inr (some (.int r.1))) r.2 := by
  refine MetX.of htr (by decide) rfl (fun ad => Nat.le_of_ble_eq_true rfl) (fun p e s m args below meth c D cI cL ad C hex hw => ?_)
  show AV l p e s m args below meth c D cI cL ad 6 3 (.inr (some (.int r.1))) r.2 0 [(0, .ref (ad 45)), (1, .int v1)] [] μ
  unfold X4_read at h
  refine aw_aload_n (pc := 0) C dX4_read_0 rfl 0 rfl ?_
  refine aw_iconst (pc := 1) C (v := 0) dX4_read_1 rfl ?_
  obtain ⟨μ1, eμ1, h⟩ := bd_some h
  refine aw_putI (pc := 2) C (a := 45) (k := 12) (ty := .int) inX4 tyX4 tyX4_ok nmX4 rfl rfl (by decide) q752 rfl (by decide +kernel) rfl rfl (by show 12 < 26; decide) dX4_read_2 fl_4_12 eμ1 ?_
  refine aw_aload_n (pc := 5) C dX4_read_5 rfl 0 rfl ?_
  refine aw_iconst (pc := 6) C (v := 0) dX4_read_6 rfl ?_
  obtain ⟨μ2, eμ2, h⟩ := bd_some h
  refine aw_putI (pc := 7) C (a := 45) (k := 22) (ty := .int) inX4 tyX4 tyX4_ok nmX4 rfl rfl (by decide) q762 rfl (by decide +kernel) rfl rfl (by show 22 < 26; decide) dX4_read_7 fl_4_22 eμ2 ?_
  refine aw_aload_n (pc := 10) C dX4_read_10 rfl 0 rfl ?_
  refine aw_iload_n (pc := 11) C dX4_read_11 rfl 1 rfl ?_
  obtain ⟨g4, h⟩ := rz_some h
  obtain ⟨μ3, eμ3, h⟩ := bd_some h
  refine aw_putI (pc := 12) C (a := 45) (k := 20) (ty := .boolean) inX4 tyX4 tyX4_ok nmX4 rfl rfl (by decide) q760 rfl (by decide +kernel) (b01_nar g4) (b01_fit g4) (by show 20 < 26; decide) dX4_read_12 fl_4_20 eμ3 ?_
  refine aw_aload_n (pc := 15) C dX4_read_15 rfl 0 rfl ?_
  refine aw_iconst (pc := 16) C (v := 0) dX4_read_16 rfl ?_
  obtain ⟨μ5, eμ5, h⟩ := bd_some h
  refine aw_putI (pc := 17) C (a := 45) (k := 21) (ty := .boolean) inX4 tyX4 tyX4_ok nmX4 rfl rfl (by decide) q761 rfl (by decide +kernel) (b01_nar b01_0) (b01_fit b01_0) (by show 21 < 26; decide) dX4_read_17 fl_4_21 eμ5 ?_
  refine aw_iconst (pc := 20) C (v := 0) dX4_read_20 rfl ?_
  refine aw_istore_n (pc := 21) C (x := 0) (lv' := [(2, .int 0), (0, .ref (ad 45)), (1, .int v1)]) dX4_read_21 rfl (by decide) rfl rfl ?_
  refine aw_sub [1, 0] rfl ?_
  exact ok_X4_read_l22_w C hex big 0 μ5 h
/-! ### NameScopesModel.firstError()I -/
theorem ok_X4_firstError {l : Launch} (htr : l.stackTraces = false) {μ : Mm} {r : (Int32 × Mm)}  (h : X4_firstError μ = some r) : MetX l yX4_firstError cX4_firstError 1 (some .int) 7 (fun ad => [.ref (ad 45)]) μ (.inr (some (.int r.1))) r.2 := by
  refine MetX.of htr (by decide) rfl (fun ad => Nat.le_of_ble_eq_true rfl) (fun p e s m args below meth c D cI cL ad C hex hw => ?_)
  show AV l p e s m args below meth c D cI cL ad 7 1 (.inr (some (.int r.1))) r.2 0 [(0, .ref (ad 45))] [] μ
  unfold X4_firstError at h
  refine aw_aload_n (pc := 0) C dX4_firstError_0 rfl 0 rfl ?_
  refine aw_iconst (pc := 1) C (v := 0) dX4_firstError_1 rfl ?_
  obtain ⟨μ1, eμ1, h⟩ := bd_some h
  refine aw_putI (pc := 2) C (a := 45) (k := 0) (ty := .int) inX4 tyX4 tyX4_ok nmX4 rfl rfl (by decide) q740 rfl (by decide +kernel) rfl rfl (by show 0 < 26; decide) dX4_firstError_2 fl_4_0 eμ1 ?_
  refine aw_aload_n (pc := 5) C dX4_firstError_5 rfl 0 rfl ?_
  refine aw_iconst (pc := 6) C (v := 0) dX4_firstError_6 rfl ?_
  obtain ⟨q3, μ4, hq2, h⟩ := bn_some h
  refine aw_Vi (pc := 7) (a := 45) (Bs := [.int 0]) C (ok_X4_read C.tr hq2) kv_X4_read q957 rfl rfl rfl rfl dX4_firstError_7 ⟨(show 7 ≤ 7 by decide), (show 208 ≤ 217 by decide)⟩ ⟨Nat.zero_le _, Nat.zero_le _⟩ [] (Nat.le_of_ble_eq_true rfl) rfl ?_
  cases h
  exact aw_iret (pc := 10) C dX4_firstError_10
/-! ### NameScopesModel.renames(IIZ)I -/
theorem ok_X4_renames_j274 {l : Launch} {p : Program} {e : Env} {s : State} {m : MethodId} {args : Array Value} {below : List Frame} {meth : Method} {c : Code} {D : va_G} {cI cL : ClassId} {ad : Nat → Nat} (C : CX p l s m args meth c RX4 cX4_renames 8 (some .int) D cI cL (AA ad s.heap.size)) (hex : ∀ x ∈ c.exceptionTable.toList, False) {r : (Int32 × Mm)} {v1 : Int32} {v2 : Int32} {v3 : Int32} {v6 : Int32} {μ : Mm}  (h : X4_renames_j274 v1 v2 v3 v6 μ = some r) : AV l p e s m args below meth c D cI cL ad 9 8 (.inr (some (.int r.1))) r.2 274 [(0, .ref (ad 45)), (6, .int v6)] [] μ := by
  unfold X4_renames_j274 at h
  refine aw_aload_n (pc := 274) C dX4_renames_274 rfl 0 rfl ?_
  refine aw_aload_n (pc := 275) C dX4_renames_275 rfl 0 rfl ?_
  refine aw_get (pc := 276) C (a := 45) (k := 2) (v := .ref (ad 47)) inX4 rfl rfl (by decide) q742 dX4_renames_276 rfl ?_
  refine aw_aload_n (pc := 279) C dX4_renames_279 rfl 0 rfl ?_
  refine aw_get (pc := 280) C (a := 45) (k := 1) (v := .ref (ad 46)) inX4 rfl rfl (by decide) q741 dX4_renames_280 rfl ?_
  obtain ⟨μ25, hq23, h⟩ := bi_some h
  refine aw_Vv (pc := 283) (a := 45) (Bs := [.ref (ad 47), .ref (ad 46)]) C (ok_X4_copy C.tr (isArr_of rfl) (isArr_of rfl) hq23) kv_X4_copy q1004 rfl rfl rfl rfl dX4_renames_283 ⟨(show 1 ≤ 9 by decide), (show 23 ≤ 279 by decide)⟩ ⟨Nat.zero_le _, Nat.zero_le _⟩ [] (Nat.le_of_ble_eq_true rfl) rfl ?_
  refine aw_iload (pc := 286) C dX4_renames_286 1 rfl ?_
  cases h
  exact aw_iret (pc := 288) C dX4_renames_288
theorem ok_X4_renames_j215 {l : Launch} {p : Program} {e : Env} {s : State} {m : MethodId} {args : Array Value} {below : List Frame} {meth : Method} {c : Code} {D : va_G} {cI cL : ClassId} {ad : Nat → Nat} (C : CX p l s m args meth c RX4 cX4_renames 8 (some .int) D cI cL (AA ad s.heap.size)) (hex : ∀ x ∈ c.exceptionTable.toList, False) {r : (Int32 × Mm)} {v1 : Int32} {v2 : Int32} {v3 : Int32} {k137 : Int32 → Int32 → Int32 → Mm → Option (Int32 × Mm)} (hk137 : ∀ (v4 : Int32) (v5 : Int32) (v6 : Int32) (μ : Mm), k137 v4 v5 v6 μ = some r → AV l p e s m args below meth c D cI cL ad 9 8 (.inr (some (.int r.1))) r.2 137 [(0, .ref (ad 45)), (1, .int v1), (3, .int v3), (4, .int v4), (5, .int v5), (6, .int v6)] [] μ) {v4 : Int32} {v5 : Int32} {v6 : Int32} {μ : Mm}  (h : X4_renames_j215 v1 v2 v3 k137 v4 v5 v6 μ = some r) : AV l p e s m args below meth c D cI cL ad 9 8 (.inr (some (.int r.1))) r.2 215 [(0, .ref (ad 45)), (1, .int v1), (3, .int v3), (4, .int v4), (5, .int v5), (6, .int v6)] [] μ := by
  unfold X4_renames_j215 at h
  refine aw_iload (pc := 215) C dX4_renames_215 4 rfl ?_
  refine aw_istore (pc := 217) C (x := v5) (lv' := [(5, .int v5), (0, .ref (ad 45)), (1, .int v1), (3, .int v3), (4, .int v4), (6, .int v6)]) dX4_renames_217 (by decide) rfl rfl ?_
  refine aw_iinc (pc := 219) C (v := (v6 + (-1))) (lv' := [(6, .int (v6 + (-1))), (5, .int v5), (0, .ref (ad 45)), (1, .int v1), (3, .int v3), (4, .int v4)]) dX4_renames_219 5 rfl (by decide) rfl rfl ?_
  refine aw_goto (pc := 222) C 137 dX4_renames_222 rfl ?_
  refine aw_sub [2, 3, 4, 5, 1, 0] rfl ?_
  exact hk137 v4 v5 (v6 + (-1)) μ h
theorem ok_X4_renames_j190 {l : Launch} {p : Program} {e : Env} {s : State} {m : MethodId} {args : Array Value} {below : List Frame} {meth : Method} {c : Code} {D : va_G} {cI cL : ClassId} {ad : Nat → Nat} (C : CX p l s m args meth c RX4 cX4_renames 8 (some .int) D cI cL (AA ad s.heap.size)) (hex : ∀ x ∈ c.exceptionTable.toList, False) {r : (Int32 × Mm)} {v1 : Int32} {v2 : Int32} {v3 : Int32} {k137 : Int32 → Int32 → Int32 → Mm → Option (Int32 × Mm)} (hk137 : ∀ (v4 : Int32) (v5 : Int32) (v6 : Int32) (μ : Mm), k137 v4 v5 v6 μ = some r → AV l p e s m args below meth c D cI cL ad 9 8 (.inr (some (.int r.1))) r.2 137 [(0, .ref (ad 45)), (1, .int v1), (3, .int v3), (4, .int v4), (5, .int v5), (6, .int v6)] [] μ) {v5 : Int32} {v6 : Int32} {v7 : Int32} {s0 : Int32} {μ : Mm}  (h : X4_renames_j190 v1 v2 v3 k137 v5 v6 v7 s0 μ = some r) : AV l p e s m args below meth c D cI cL ad 9 8 (.inr (some (.int r.1))) r.2 190 [(0, .ref (ad 45)), (1, .int v1), (3, .int v3), (5, .int v5), (6, .int v6), (7, .int v7)] [.int s0] μ := by
  unfold X4_renames_j190 at h
  refine aw_istore (pc := 190) C (x := s0) (lv' := [(4, .int s0), (0, .ref (ad 45)), (1, .int v1), (3, .int v3), (5, .int v5), (6, .int v6), (7, .int v7)]) dX4_renames_190 (by decide) rfl rfl ?_
  refine aw_iload (pc := 192) C dX4_renames_192 6 rfl ?_
  refine aw_if_eq (pc := 194) C 215 dX4_renames_194 rfl (fun hc => ?_) (fun hc => ?_)
  · replace h := ite_T h hc
    refine aw_sub [1, 2, 3, 0, 4, 5] rfl ?_
    exact ok_X4_renames_j215 C hex hk137 h
  · replace h := ite_F h hc
    refine aw_aload_n (pc := 197) C dX4_renames_197 rfl 1 rfl ?_
    refine aw_get (pc := 198) C (a := 45) (k := 11) (v := .ref (ad 53)) inX4 rfl rfl (by decide) q751 dX4_renames_198 rfl ?_
    refine aw_iload (pc := 201) C dX4_renames_201 5 rfl ?_
    obtain ⟨g31, h⟩ := ck_some h
    refine aw_iaload (pc := 203) C (a := 53) rfl g31 dX4_renames_203 ?_
    refine aw_iconst (pc := 204) C (v := 1) dX4_renames_204 rfl ?_
    refine aw_iload_n (pc := 205) C dX4_renames_205 rfl 2 rfl ?_
    refine aw_ishl (pc := 206) C dX4_renames_206 ?_
    have kJ : AV l p e s m args below meth c D cI cL ad 9 8 (.inr (some (.int r.1))) r.2 217 [(4, .int s0), (0, .ref (ad 45)), (1, .int v1), (3, .int v3), (5, .int v5), (6, .int v6), (7, .int v7)] [.int (if (μ.1 53 (v6 : Int32).toNatClampNeg) = (1 <<< (v1 &&& 31)) then (v5 : Int32) else v6)] μ := by
      obtain ⟨x32, ex32, h⟩ := bd_some h
      refine aw_istore (pc := 217) C (x := x32) (lv' := [(5, .int x32), (4, .int s0), (0, .ref (ad 45)), (1, .int v1), (3, .int v3), (6, .int v6), (7, .int v7)]) dX4_renames_217 (by decide) ex32 rfl ?_
      refine aw_iinc (pc := 219) C (v := (v6 + (-1))) (lv' := [(6, .int (v6 + (-1))), (5, .int x32), (4, .int s0), (0, .ref (ad 45)), (1, .int v1), (3, .int v3), (7, .int v7)]) dX4_renames_219 5 rfl (by decide) rfl rfl ?_
      refine aw_goto (pc := 222) C 137 dX4_renames_222 rfl ?_
      refine aw_sub [3, 4, 5, 2, 1, 0] rfl ?_
      exact hk137 s0 x32 (v6 + (-1)) μ h
    refine aw_icmp_eq (pc := 207) C 215 dX4_renames_207 rfl (fun hd1 => ?_) (fun hd1 => ?_)
    · refine aw_iload (pc := 215) C dX4_renames_215 4 rfl ?_
      rw [if_pos hd1] at kJ
      exact kJ
    · refine aw_iload (pc := 210) C dX4_renames_210 5 rfl ?_
      refine aw_goto (pc := 212) C 217 dX4_renames_212 rfl ?_
      rw [if_neg hd1] at kJ
      exact kJ
theorem ok_X4_renames_j188 {l : Launch} {p : Program} {e : Env} {s : State} {m : MethodId} {args : Array Value} {below : List Frame} {meth : Method} {c : Code} {D : va_G} {cI cL : ClassId} {ad : Nat → Nat} (C : CX p l s m args meth c RX4 cX4_renames 8 (some .int) D cI cL (AA ad s.heap.size)) (hex : ∀ x ∈ c.exceptionTable.toList, False) {r : (Int32 × Mm)} {v1 : Int32} {v2 : Int32} {v3 : Int32} {k137 : Int32 → Int32 → Int32 → Mm → Option (Int32 × Mm)} (hk137 : ∀ (v4 : Int32) (v5 : Int32) (v6 : Int32) (μ : Mm), k137 v4 v5 v6 μ = some r → AV l p e s m args below meth c D cI cL ad 9 8 (.inr (some (.int r.1))) r.2 137 [(0, .ref (ad 45)), (1, .int v1), (3, .int v3), (4, .int v4), (5, .int v5), (6, .int v6)] [] μ) {v4 : Int32} {v5 : Int32} {v6 : Int32} {v7 : Int32} {μ : Mm}  (h : X4_renames_j188 v1 v2 v3 k137 v4 v5 v6 v7 μ = some r) : AV l p e s m args below meth c D cI cL ad 9 8 (.inr (some (.int r.1))) r.2 188 [(0, .ref (ad 45)), (1, .int v1), (3, .int v3), (4, .int v4), (5, .int v5), (6, .int v6), (7, .int v7)] [] μ := by
  unfold X4_renames_j188 at h
  refine aw_iload (pc := 188) C dX4_renames_188 3 rfl ?_
  refine aw_sub [0, 1, 2, 4, 5, 6] rfl ?_
  exact ok_X4_renames_j190 C hex hk137 h
theorem ok_X4_renames_l137 {l : Launch} {p : Program} {e : Env} {s : State} {m : MethodId} {args : Array Value} {below : List Frame} {meth : Method} {c : Code} {D : va_G} {cI cL : ClassId} {ad : Nat → Nat} (C : CX p l s m args meth c RX4 cX4_renames 8 (some .int) D cI cL (AA ad s.heap.size)) (hex : ∀ x ∈ c.exceptionTable.toList, False) {r : (Int32 × Mm)} {v1 : Int32} {v2 : Int32} {v3 : Int32} {k137 : Int32 → Int32 → Int32 → Mm → Option (Int32 × Mm)} (hk137 : ∀ (v4 : Int32) (v5 : Int32) (v6 : Int32) (μ : Mm), k137 v4 v5 v6 μ = some r → AV l p e s m args below meth c D cI cL ad 9 8 (.inr (some (.int r.1))) r.2 137 [(0, .ref (ad 45)), (1, .int v1), (3, .int v3), (4, .int v4), (5, .int v5), (6, .int v6)] [] μ) {v4 : Int32} {v5 : Int32} {v6 : Int32} {μ : Mm}  (h : X4_renames_l137 v1 v2 v3 k137 v4 v5 v6 μ = some r) : AV l p e s m args below meth c D cI cL ad 9 8 (.inr (some (.int r.1))) r.2 137 [(0, .ref (ad 45)), (1, .int v1), (3, .int v3), (4, .int v4), (5, .int v5), (6, .int v6)] [] μ := by
  unfold X4_renames_l137 at h
  refine aw_iload (pc := 137) C dX4_renames_137 5 rfl ?_
  refine aw_if_lt (pc := 139) C 225 dX4_renames_139 rfl (fun hc => ?_) (fun hc => ?_)
  · replace h := ite_T h hc
    refine aw_iload (pc := 225) C dX4_renames_225 3 rfl ?_
    refine aw_iconst (pc := 227) C (v := (-1)) dX4_renames_227 rfl ?_
    have kJ : AV l p e s m args below meth c D cI cL ad 9 8 (.inr (some (.int r.1))) r.2 246 [(0, .ref (ad 45)), (1, .int v1), (3, .int v3), (4, .int v4), (5, .int v5), (6, .int v6)] [.int (if v4 = (-1) then ((if v5 = (-1) then (0 : Int32) else 3) : Int32) else 2)] μ := by
      obtain ⟨x21, ex21, h⟩ := bd_some h
      refine aw_istore (pc := 246) C (x := x21) (lv' := [(6, .int x21), (0, .ref (ad 45)), (1, .int v1), (3, .int v3), (4, .int v4), (5, .int v5)]) dX4_renames_246 (by decide) ex21 rfl ?_
      refine aw_aload_n (pc := 248) C dX4_renames_248 rfl 1 rfl ?_
      refine aw_iload (pc := 249) C dX4_renames_249 4 rfl ?_
      refine aw_iconst (pc := 251) C (v := (-1)) dX4_renames_251 rfl ?_
      have kJ : AV l p e s m args below meth c D cI cL ad 9 8 (.inr (some (.int r.1))) r.2 262 [(6, .int x21), (0, .ref (ad 45)), (1, .int v1), (3, .int v3), (4, .int v4), (5, .int v5)] [.int (if v4 = (-1) then (v5 : Int32) else v4), .ref (ad 45)] μ := by
        obtain ⟨μ22, eμ22, h⟩ := bd_some h
        refine aw_putI (pc := 262) C (a := 45) (k := 23) (ty := .int) inX4 tyX4 tyX4_ok nmX4 rfl rfl (by decide) q763 rfl (by decide +kernel) rfl rfl (by show 23 < 26; decide) dX4_renames_262 fl_4_23 eμ22 ?_
        refine aw_iload_n (pc := 265) C dX4_renames_265 rfl 3 rfl ?_
        refine aw_if_ne (pc := 266) C 274 dX4_renames_266 rfl (fun hc => ?_) (fun hc => ?_)
        · replace h := ite_F h hc
          refine aw_sub [1, 0] rfl ?_
          exact ok_X4_renames_j274 C hex h
        · replace h := ite_T h hc
          refine aw_iload (pc := 269) C dX4_renames_269 0 rfl ?_
          refine aw_if_le (pc := 271) C 286 dX4_renames_271 rfl (fun hc => ?_) (fun hc => ?_)
          · replace h := ite_T h hc
            refine aw_iload (pc := 286) C dX4_renames_286 0 rfl ?_
            cases h
            exact aw_iret (pc := 288) C dX4_renames_288
          · replace h := ite_F h hc
            refine aw_sub [1, 0] rfl ?_
            exact ok_X4_renames_j274 C hex h
      refine aw_icmp_eq (pc := 252) C 260 dX4_renames_252 rfl (fun hd1 => ?_) (fun hd1 => ?_)
      · refine aw_iload (pc := 260) C dX4_renames_260 5 rfl ?_
        rw [if_pos hd1] at kJ
        exact kJ
      · refine aw_iload (pc := 255) C dX4_renames_255 4 rfl ?_
        refine aw_goto (pc := 257) C 262 dX4_renames_257 rfl ?_
        rw [if_neg hd1] at kJ
        exact kJ
    refine aw_icmp_eq (pc := 228) C 235 dX4_renames_228 rfl (fun hd1 => ?_) (fun hd1 => ?_)
    · refine aw_iload (pc := 235) C dX4_renames_235 4 rfl ?_
      refine aw_iconst (pc := 237) C (v := (-1)) dX4_renames_237 rfl ?_
      refine aw_icmp_eq (pc := 238) C 245 dX4_renames_238 rfl (fun hd2 => ?_) (fun hd2 => ?_)
      · refine aw_iconst (pc := 245) C (v := 0) dX4_renames_245 rfl ?_
        rw [if_pos hd1, if_pos hd2] at kJ
        exact kJ
      · refine aw_iconst (pc := 241) C (v := 3) dX4_renames_241 rfl ?_
        refine aw_goto (pc := 242) C 246 dX4_renames_242 rfl ?_
        rw [if_pos hd1, if_neg hd2] at kJ
        exact kJ
    · refine aw_iconst (pc := 231) C (v := 2) dX4_renames_231 rfl ?_
      refine aw_goto (pc := 232) C 246 dX4_renames_232 rfl ?_
      rw [if_neg hd1] at kJ
      exact kJ
  · replace h := ite_F h hc
    refine aw_aload_n (pc := 142) C dX4_renames_142 rfl 0 rfl ?_
    refine aw_iload (pc := 143) C dX4_renames_143 5 rfl ?_
    obtain ⟨q27, μ28, hq26, h⟩ := bn_some h
    refine aw_Vi (pc := 145) (a := 45) (Bs := [.int v6]) C (ok_X4_outcomeOf C.tr hq26) kv_X4_outcomeOf q886 rfl rfl rfl rfl dX4_renames_145 ⟨(show 8 ≤ 9 by decide), (show 238 ≤ 279 by decide)⟩ ⟨Nat.zero_le _, Nat.zero_le _⟩ [] (Nat.le_of_ble_eq_true rfl) rfl ?_
    refine aw_aload_n (pc := 148) C dX4_renames_148 rfl 0 rfl ?_
    refine aw_get (pc := 149) C (a := 45) (k := 11) (v := .ref (ad 53)) inX4 rfl rfl (by decide) q751 dX4_renames_149 rfl ?_
    refine aw_iload (pc := 152) C dX4_renames_152 5 rfl ?_
    obtain ⟨g29, h⟩ := ck_some h
    refine aw_iaload (pc := 154) C (a := 53) rfl g29 dX4_renames_154 ?_
    have kJ : AV l p e s m args below meth c D cI cL ad 9 8 (.inr (some (.int r.1))) r.2 163 [(0, .ref (ad 45)), (1, .int v1), (3, .int v3), (4, .int v4), (5, .int v5), (6, .int v6)] [.int (if q27 = (μ28.1 53 (v6 : Int32).toNatClampNeg) then (0 : Int32) else 1)] μ28 := by
      obtain ⟨x30, ex30, h⟩ := bd_some h
      refine aw_istore (pc := 163) C (x := x30) (lv' := [(7, .int x30), (0, .ref (ad 45)), (1, .int v1), (3, .int v3), (4, .int v4), (5, .int v5), (6, .int v6)]) dX4_renames_163 (by decide) ex30 rfl ?_
      refine aw_iload (pc := 165) C dX4_renames_165 0 rfl ?_
      refine aw_if_eq (pc := 167) C 188 dX4_renames_167 rfl (fun hc => ?_) (fun hc => ?_)
      · replace h := ite_T h hc
        refine aw_sub [1, 2, 3, 4, 5, 6, 0] rfl ?_
        exact ok_X4_renames_j188 C hex hk137 h
      · replace h := ite_F h hc
        refine aw_aload_n (pc := 170) C dX4_renames_170 rfl 1 rfl ?_
        refine aw_get (pc := 171) C (a := 45) (k := 11) (v := .ref (ad 53)) inX4 rfl rfl (by decide) q751 dX4_renames_171 rfl ?_
        refine aw_iload (pc := 174) C dX4_renames_174 6 rfl ?_
        obtain ⟨g33, h⟩ := ck_some h
        refine aw_iaload (pc := 176) C (a := 53) rfl g33 dX4_renames_176 ?_
        refine aw_iconst (pc := 177) C (v := 1) dX4_renames_177 rfl ?_
        refine aw_iload_n (pc := 178) C dX4_renames_178 rfl 2 rfl ?_
        refine aw_ishl (pc := 179) C dX4_renames_179 ?_
        have kJ : AV l p e s m args below meth c D cI cL ad 9 8 (.inr (some (.int r.1))) r.2 190 [(7, .int x30), (0, .ref (ad 45)), (1, .int v1), (3, .int v3), (4, .int v4), (5, .int v5), (6, .int v6)] [.int (if (μ28.1 53 (v6 : Int32).toNatClampNeg) = (1 <<< (v1 &&& 31)) then (v6 : Int32) else v4)] μ28 := by
          obtain ⟨x34, ex34, h⟩ := bd_some h
          refine aw_istore (pc := 190) C (x := x34) (lv' := [(4, .int x34), (7, .int x30), (0, .ref (ad 45)), (1, .int v1), (3, .int v3), (5, .int v5), (6, .int v6)]) dX4_renames_190 (by decide) ex34 rfl ?_
          refine aw_iload (pc := 192) C dX4_renames_192 1 rfl ?_
          refine aw_if_eq (pc := 194) C 215 dX4_renames_194 rfl (fun hc => ?_) (fun hc => ?_)
          · replace h := ite_T h hc
            refine aw_sub [2, 3, 4, 0, 5, 6] rfl ?_
            exact ok_X4_renames_j215 C hex hk137 h
          · replace h := ite_F h hc
            refine aw_aload_n (pc := 197) C dX4_renames_197 rfl 2 rfl ?_
            refine aw_get (pc := 198) C (a := 45) (k := 11) (v := .ref (ad 53)) inX4 rfl rfl (by decide) q751 dX4_renames_198 rfl ?_
            refine aw_iload (pc := 201) C dX4_renames_201 6 rfl ?_
            obtain ⟨g35, h⟩ := ck_some h
            refine aw_iaload (pc := 203) C (a := 53) rfl g35 dX4_renames_203 ?_
            refine aw_iconst (pc := 204) C (v := 1) dX4_renames_204 rfl ?_
            refine aw_iload_n (pc := 205) C dX4_renames_205 rfl 3 rfl ?_
            refine aw_ishl (pc := 206) C dX4_renames_206 ?_
            have kJ : AV l p e s m args below meth c D cI cL ad 9 8 (.inr (some (.int r.1))) r.2 217 [(4, .int x34), (7, .int x30), (0, .ref (ad 45)), (1, .int v1), (3, .int v3), (5, .int v5), (6, .int v6)] [.int (if (μ28.1 53 (v6 : Int32).toNatClampNeg) = (1 <<< (v1 &&& 31)) then (v5 : Int32) else v6)] μ28 := by
              obtain ⟨x36, ex36, h⟩ := bd_some h
              refine aw_istore (pc := 217) C (x := x36) (lv' := [(5, .int x36), (4, .int x34), (7, .int x30), (0, .ref (ad 45)), (1, .int v1), (3, .int v3), (6, .int v6)]) dX4_renames_217 (by decide) ex36 rfl ?_
              refine aw_iinc (pc := 219) C (v := (v6 + (-1))) (lv' := [(6, .int (v6 + (-1))), (5, .int x36), (4, .int x34), (7, .int x30), (0, .ref (ad 45)), (1, .int v1), (3, .int v3)]) dX4_renames_219 6 rfl (by decide) rfl rfl ?_
              refine aw_goto (pc := 222) C 137 dX4_renames_222 rfl ?_
              refine aw_sub [4, 5, 6, 2, 1, 0] rfl ?_
              exact hk137 x34 x36 (v6 + (-1)) μ28 h
            refine aw_icmp_eq (pc := 207) C 215 dX4_renames_207 rfl (fun hd1 => ?_) (fun hd1 => ?_)
            · refine aw_iload (pc := 215) C dX4_renames_215 5 rfl ?_
              rw [if_pos hd1] at kJ
              exact kJ
            · refine aw_iload (pc := 210) C dX4_renames_210 6 rfl ?_
              refine aw_goto (pc := 212) C 217 dX4_renames_212 rfl ?_
              rw [if_neg hd1] at kJ
              exact kJ
        refine aw_icmp_ne (pc := 180) C 188 dX4_renames_180 rfl (fun hd1 => ?_) (fun hd1 => ?_)
        · refine aw_iload (pc := 188) C dX4_renames_188 4 rfl ?_
          rw [if_neg hd1] at kJ
          exact kJ
        · refine aw_iload (pc := 183) C dX4_renames_183 6 rfl ?_
          refine aw_goto (pc := 185) C 190 dX4_renames_185 rfl ?_
          rw [if_pos hd1] at kJ
          exact kJ
    refine aw_icmp_eq (pc := 155) C 162 dX4_renames_155 rfl (fun hd1 => ?_) (fun hd1 => ?_)
    · refine aw_iconst (pc := 162) C (v := 0) dX4_renames_162 rfl ?_
      rw [if_pos hd1] at kJ
      exact kJ
    · refine aw_iconst (pc := 158) C (v := 1) dX4_renames_158 rfl ?_
      refine aw_goto (pc := 159) C 163 dX4_renames_159 rfl ?_
      rw [if_neg hd1] at kJ
      exact kJ
theorem ok_X4_renames_l137_w {l : Launch} {p : Program} {e : Env} {s : State} {m : MethodId} {args : Array Value} {below : List Frame} {meth : Method} {c : Code} {D : va_G} {cI cL : ClassId} {ad : Nat → Nat} (C : CX p l s m args meth c RX4 cX4_renames 8 (some .int) D cI cL (AA ad s.heap.size)) (hex : ∀ x ∈ c.exceptionTable.toList, False) {r : (Int32 × Mm)} {v1 : Int32} {v2 : Int32} {v3 : Int32} : ∀ (n : Nat) (v4 : Int32) (v5 : Int32) (v6 : Int32) (μ : Mm) , itr (X4_renames_l137 v1 v2 v3) (fun _ _ _ _ => none) n v4 v5 v6 μ = some r → AV l p e s m args below meth c D cI cL ad 9 8 (.inr (some (.int r.1))) r.2 137 [(0, .ref (ad 45)), (1, .int v1), (3, .int v3), (4, .int v4), (5, .int v5), (6, .int v6)] [] μ := by
  intro n
  induction n with
  | zero => intro v4 v5 v6 μ h; exact nomatch (show (none : Option (Int32 × Mm)) = some r from h)
  | succ n ih => intro v4 v5 v6 μ h; exact ok_X4_renames_l137 C hex (v1 := v1) (v2 := v2) (v3 := v3) ih h
theorem ok_X4_renames_j66 {l : Launch} {p : Program} {e : Env} {s : State} {m : MethodId} {args : Array Value} {below : List Frame} {meth : Method} {c : Code} {D : va_G} {cI cL : ClassId} {ad : Nat → Nat} (C : CX p l s m args meth c RX4 cX4_renames 8 (some .int) D cI cL (AA ad s.heap.size)) (hex : ∀ x ∈ c.exceptionTable.toList, False) {r : (Int32 × Mm)} {v1 : Int32} {v2 : Int32} {v3 : Int32} {k17 : Int32 → Mm → Option (Int32 × Mm)} (hk17 : ∀ (v4 : Int32) (μ : Mm), k17 v4 μ = some r → AV l p e s m args below meth c D cI cL ad 9 8 (.inr (some (.int r.1))) r.2 17 [(0, .ref (ad 45)), (1, .int v1), (2, .int v2), (3, .int v3), (4, .int v4)] [] μ) {v4 : Int32} {s0 : Int32} {s1 : Int32} {μ : Mm}  (h : X4_renames_j66 v1 v2 v3 k17 v4 s0 s1 μ = some r) : AV l p e s m args below meth c D cI cL ad 9 8 (.inr (some (.int r.1))) r.2 66 [(0, .ref (ad 45)), (1, .int v1), (2, .int v2), (3, .int v3), (4, .int v4)] [.int s0, .int s1, .ref (ad 45)] μ := by
  unfold X4_renames_j66 at h
  refine aw_iadd (pc := 66) C dX4_renames_66 ?_
  obtain ⟨μ41, eμ41, h⟩ := bd_some h
  refine aw_putI (pc := 67) C (a := 45) (k := 24) (ty := .int) inX4 tyX4 tyX4_ok nmX4 rfl rfl (by decide) q764 rfl (by decide +kernel) rfl rfl (by show 24 < 26; decide) dX4_renames_67 fl_4_24 eμ41 ?_
  refine aw_iinc (pc := 70) C (v := (v4 + 1)) (lv' := [(4, .int (v4 + 1)), (0, .ref (ad 45)), (1, .int v1), (2, .int v2), (3, .int v3)]) dX4_renames_70 4 rfl (by decide) rfl rfl ?_
  refine aw_goto (pc := 73) C 17 dX4_renames_73 rfl ?_
  refine aw_sub [1, 2, 3, 4, 0] rfl ?_
  exact hk17 (v4 + 1) μ41 h
theorem ok_X4_renames_j65 {l : Launch} {p : Program} {e : Env} {s : State} {m : MethodId} {args : Array Value} {below : List Frame} {meth : Method} {c : Code} {D : va_G} {cI cL : ClassId} {ad : Nat → Nat} (C : CX p l s m args meth c RX4 cX4_renames 8 (some .int) D cI cL (AA ad s.heap.size)) (hex : ∀ x ∈ c.exceptionTable.toList, False) {r : (Int32 × Mm)} {v1 : Int32} {v2 : Int32} {v3 : Int32} {k17 : Int32 → Mm → Option (Int32 × Mm)} (hk17 : ∀ (v4 : Int32) (μ : Mm), k17 v4 μ = some r → AV l p e s m args below meth c D cI cL ad 9 8 (.inr (some (.int r.1))) r.2 17 [(0, .ref (ad 45)), (1, .int v1), (2, .int v2), (3, .int v3), (4, .int v4)] [] μ) {v4 : Int32} {s0 : Int32} {μ : Mm}  (h : X4_renames_j65 v1 v2 v3 k17 v4 s0 μ = some r) : AV l p e s m args below meth c D cI cL ad 9 8 (.inr (some (.int r.1))) r.2 65 [(0, .ref (ad 45)), (1, .int v1), (2, .int v2), (3, .int v3), (4, .int v4)] [.int s0, .ref (ad 45)] μ := by
  unfold X4_renames_j65 at h
  refine aw_iconst (pc := 65) C (v := 0) dX4_renames_65 rfl ?_
  refine aw_sub [0, 1, 2, 3, 4] rfl ?_
  exact ok_X4_renames_j66 C hex hk17 h
theorem ok_X4_renames_l17 {l : Launch} {p : Program} {e : Env} {s : State} {m : MethodId} {args : Array Value} {below : List Frame} {meth : Method} {c : Code} {D : va_G} {cI cL : ClassId} {ad : Nat → Nat} (C : CX p l s m args meth c RX4 cX4_renames 8 (some .int) D cI cL (AA ad s.heap.size)) (hex : ∀ x ∈ c.exceptionTable.toList, False) {r : (Int32 × Mm)} {v1 : Int32} {v2 : Int32} {v3 : Int32} {k17 : Int32 → Mm → Option (Int32 × Mm)} (hk17 : ∀ (v4 : Int32) (μ : Mm), k17 v4 μ = some r → AV l p e s m args below meth c D cI cL ad 9 8 (.inr (some (.int r.1))) r.2 17 [(0, .ref (ad 45)), (1, .int v1), (2, .int v2), (3, .int v3), (4, .int v4)] [] μ) {v4 : Int32} {μ : Mm}  (h : X4_renames_l17 v1 v2 v3 k17 v4 μ = some r) : AV l p e s m args below meth c D cI cL ad 9 8 (.inr (some (.int r.1))) r.2 17 [(0, .ref (ad 45)), (1, .int v1), (2, .int v2), (3, .int v3), (4, .int v4)] [] μ := by
  unfold X4_renames_l17 at h
  refine aw_iload (pc := 17) C dX4_renames_17 4 rfl ?_
  refine aw_aload_n (pc := 19) C dX4_renames_19 rfl 0 rfl ?_
  refine aw_get (pc := 20) C (a := 45) (k := 1) (v := .ref (ad 46)) inX4 rfl rfl (by decide) q741 dX4_renames_20 rfl ?_
  refine aw_iconst (pc := 23) C (v := 3) dX4_renames_23 rfl ?_
  obtain ⟨g6, h⟩ := ck_some h
  refine aw_iaload (pc := 24) C (a := 46) rfl g6 dX4_renames_24 ?_
  refine aw_icmp_ge (pc := 25) C 76 dX4_renames_25 rfl (fun hc => ?_) (fun hc => ?_)
  · replace h := ite_T h hc
    refine aw_iload_n (pc := 76) C dX4_renames_76 rfl 2 rfl ?_
    refine aw_aload_n (pc := 77) C dX4_renames_77 rfl 0 rfl ?_
    refine aw_iload_n (pc := 78) C dX4_renames_78 rfl 1 rfl ?_
    refine aw_iconst (pc := 79) C (v := 1) dX4_renames_79 rfl ?_
    obtain ⟨q8, hq7, h⟩ := bi_some h
    refine aw_Vi (pc := 80) (a := 45) (Bs := [.int v1, .int 1]) C (ok_X4_of C.tr hq7) kv_X4_of q849 rfl rfl rfl rfl dX4_renames_80 ⟨(show 1 ≤ 9 by decide), (show 22 ≤ 279 by decide)⟩ ⟨Nat.zero_le _, Nat.zero_le _⟩ [.int v2] (Nat.le_of_ble_eq_true rfl) rfl ?_
    refine aw_icmp_eq (pc := 83) C 101 dX4_renames_83 rfl (fun hc => ?_) (fun hc => ?_)
    · replace h := ite_T h hc
      refine aw_iconst (pc := 101) C (v := 1) dX4_renames_101 rfl ?_
      cases h
      exact aw_iret (pc := 102) C dX4_renames_102
    · replace h := ite_F h hc
      refine aw_aload_n (pc := 86) C dX4_renames_86 rfl 0 rfl ?_
      refine aw_aload_n (pc := 87) C dX4_renames_87 rfl 0 rfl ?_
      refine aw_iload_n (pc := 88) C dX4_renames_88 rfl 1 rfl ?_
      refine aw_iconst (pc := 89) C (v := 0) dX4_renames_89 rfl ?_
      obtain ⟨q10, hq9, h⟩ := bi_some h
      refine aw_Vi (pc := 90) (a := 45) (Bs := [.int v1, .int 0]) C (ok_X4_of C.tr hq9) kv_X4_of q849 rfl rfl rfl rfl dX4_renames_90 ⟨(show 1 ≤ 9 by decide), (show 22 ≤ 279 by decide)⟩ ⟨Nat.zero_le _, Nat.zero_le _⟩ [.ref (ad 45)] (Nat.le_of_ble_eq_true rfl) rfl ?_
      refine aw_iload_n (pc := 93) C dX4_renames_93 rfl 2 rfl ?_
      obtain ⟨q12, hq11, h⟩ := bi_some h
      refine aw_Vi (pc := 94) (a := 45) (Bs := [.int q10, .int v2]) C (ok_X4_declaredIn C.tr hq11) kv_X4_declaredIn q845 rfl rfl rfl rfl dX4_renames_94 ⟨(show 2 ≤ 9 by decide), (show 55 ≤ 279 by decide)⟩ ⟨Nat.zero_le _, Nat.zero_le _⟩ [] (Nat.le_of_ble_eq_true rfl) rfl ?_
      refine aw_iconst (pc := 97) C (v := (-1)) dX4_renames_97 rfl ?_
      refine aw_icmp_eq (pc := 98) C 103 dX4_renames_98 rfl (fun hc => ?_) (fun hc => ?_)
      · replace h := ite_T h hc
        refine aw_aload_n (pc := 103) C dX4_renames_103 rfl 0 rfl ?_
        refine aw_aload_n (pc := 104) C dX4_renames_104 rfl 0 rfl ?_
        refine aw_get (pc := 105) C (a := 45) (k := 1) (v := .ref (ad 46)) inX4 rfl rfl (by decide) q741 dX4_renames_105 rfl ?_
        refine aw_aload_n (pc := 108) C dX4_renames_108 rfl 0 rfl ?_
        refine aw_get (pc := 109) C (a := 45) (k := 2) (v := .ref (ad 47)) inX4 rfl rfl (by decide) q742 dX4_renames_109 rfl ?_
        obtain ⟨μ15, hq13, h⟩ := bi_some h
        refine aw_Vv (pc := 112) (a := 45) (Bs := [.ref (ad 46), .ref (ad 47)]) C (ok_X4_copy C.tr (isArr_of rfl) (isArr_of rfl) hq13) kv_X4_copy q1004 rfl rfl rfl rfl dX4_renames_112 ⟨(show 1 ≤ 9 by decide), (show 23 ≤ 279 by decide)⟩ ⟨Nat.zero_le _, Nat.zero_le _⟩ [] (Nat.le_of_ble_eq_true rfl) rfl ?_
        refine aw_aload_n (pc := 115) C dX4_renames_115 rfl 0 rfl ?_
        refine aw_iload_n (pc := 116) C dX4_renames_116 rfl 1 rfl ?_
        refine aw_iload_n (pc := 117) C dX4_renames_117 rfl 2 rfl ?_
        obtain ⟨μ18, hq16, h⟩ := bi_some h
        refine aw_Vv (pc := 118) (a := 45) (Bs := [.int v1, .int v2]) C (ok_X4_changeNames C.tr hq16) kv_X4_changeNames q1057 rfl rfl rfl rfl dX4_renames_118 ⟨(show 6 ≤ 9 by decide), (show 181 ≤ 279 by decide)⟩ ⟨Nat.zero_le _, Nat.zero_le _⟩ [] (Nat.le_of_ble_eq_true rfl) rfl ?_
        refine aw_iconst (pc := 121) C (v := (-1)) dX4_renames_121 rfl ?_
        refine aw_istore (pc := 122) C (x := (-1)) (lv' := [(4, .int (-1)), (0, .ref (ad 45)), (1, .int v1), (2, .int v2), (3, .int v3)]) dX4_renames_122 (by decide) rfl rfl ?_
        refine aw_iconst (pc := 124) C (v := (-1)) dX4_renames_124 rfl ?_
        refine aw_istore (pc := 125) C (x := (-1)) (lv' := [(5, .int (-1)), (4, .int (-1)), (0, .ref (ad 45)), (1, .int v1), (2, .int v2), (3, .int v3)]) dX4_renames_125 (by decide) rfl rfl ?_
        refine aw_aload_n (pc := 127) C dX4_renames_127 rfl 2 rfl ?_
        refine aw_get (pc := 128) C (a := 45) (k := 1) (v := .ref (ad 46)) inX4 rfl rfl (by decide) q741 dX4_renames_128 rfl ?_
        refine aw_iconst (pc := 131) C (v := 3) dX4_renames_131 rfl ?_
        obtain ⟨g19, h⟩ := ck_some h
        refine aw_iaload (pc := 132) C (a := 46) rfl g19 dX4_renames_132 ?_
        refine aw_iconst (pc := 133) C (v := 1) dX4_renames_133 rfl ?_
        refine aw_isub (pc := 134) C dX4_renames_134 ?_
        obtain ⟨x20, ex20, h⟩ := bd_some h
        refine aw_istore (pc := 135) C (x := x20) (lv' := [(6, .int x20), (5, .int (-1)), (4, .int (-1)), (0, .ref (ad 45)), (1, .int v1), (2, .int v2), (3, .int v3)]) dX4_renames_135 (by decide) ex20 rfl ?_
        refine aw_sub [3, 4, 6, 2, 1, 0] rfl ?_
        exact ok_X4_renames_l137_w C hex big (-1) (-1) x20 μ18 h
      · replace h := ite_F h hc
        refine aw_iconst (pc := 101) C (v := 1) dX4_renames_101 rfl ?_
        cases h
        exact aw_iret (pc := 102) C dX4_renames_102
  · replace h := ite_F h hc
    refine aw_aload_n (pc := 28) C dX4_renames_28 rfl 0 rfl ?_
    refine aw_dup (pc := 29) C dX4_renames_29 rfl ?_
    refine aw_get (pc := 30) C (a := 45) (k := 24) (v := .int (μ.1 45 24)) inX4 rfl rfl (by decide) q764 dX4_renames_30 rfl ?_
    refine aw_aload_n (pc := 33) C dX4_renames_33 rfl 0 rfl ?_
    refine aw_iload (pc := 34) C dX4_renames_34 4 rfl ?_
    obtain ⟨q38, hq37, h⟩ := bi_some h
    refine aw_Vi (pc := 36) (a := 45) (Bs := [.int v4]) C (ok_X4_useName C.tr hq37) kv_X4_useName q894 rfl rfl rfl rfl dX4_renames_36 ⟨(show 1 ≤ 9 by decide), (show 21 ≤ 279 by decide)⟩ ⟨Nat.zero_le _, Nat.zero_le _⟩ [.int (μ.1 45 24), .ref (ad 45)] (Nat.le_of_ble_eq_true rfl) rfl ?_
    refine aw_aload_n (pc := 39) C dX4_renames_39 rfl 0 rfl ?_
    refine aw_iload_n (pc := 40) C dX4_renames_40 rfl 1 rfl ?_
    refine aw_iconst (pc := 41) C (v := 1) dX4_renames_41 rfl ?_
    obtain ⟨q40, hq39, h⟩ := bi_some h
    refine aw_Vi (pc := 42) (a := 45) (Bs := [.int v1, .int 1]) C (ok_X4_of C.tr hq39) kv_X4_of q849 rfl rfl rfl rfl dX4_renames_42 ⟨(show 1 ≤ 9 by decide), (show 22 ≤ 279 by decide)⟩ ⟨Nat.zero_le _, Nat.zero_le _⟩ [.int q38, .int (μ.1 45 24), .ref (ad 45)] (Nat.le_of_ble_eq_true rfl) rfl ?_
    refine aw_icmp_ne (pc := 45) C 65 dX4_renames_45 rfl (fun hc => ?_) (fun hc => ?_)
    · replace h := ite_F h hc
      refine aw_sub [0, 1, 2, 3, 4] rfl ?_
      exact ok_X4_renames_j65 C hex hk17 h
    · replace h := ite_T h hc
      refine aw_aload_n (pc := 48) C dX4_renames_48 rfl 0 rfl ?_
      refine aw_get (pc := 49) C (a := 45) (k := 11) (v := .ref (ad 53)) inX4 rfl rfl (by decide) q751 dX4_renames_49 rfl ?_
      refine aw_iload (pc := 52) C dX4_renames_52 4 rfl ?_
      obtain ⟨g42, h⟩ := ck_some h
      refine aw_iaload (pc := 54) C (a := 53) rfl g42 dX4_renames_54 ?_
      refine aw_iconst (pc := 55) C (v := 1) dX4_renames_55 rfl ?_
      refine aw_iload_n (pc := 56) C dX4_renames_56 rfl 1 rfl ?_
      refine aw_ishl (pc := 57) C dX4_renames_57 ?_
      have kJ : AV l p e s m args below meth c D cI cL ad 9 8 (.inr (some (.int r.1))) r.2 66 [(0, .ref (ad 45)), (1, .int v1), (2, .int v2), (3, .int v3), (4, .int v4)] [.int (if (μ.1 53 (v4 : Int32).toNatClampNeg) = (1 <<< (v1 &&& 31)) then (1 : Int32) else 0), .int (μ.1 45 24), .ref (ad 45)] μ := by
        refine aw_iadd (pc := 66) C dX4_renames_66 ?_
        obtain ⟨μ43, eμ43, h⟩ := bd_some h
        refine aw_putI (pc := 67) C (a := 45) (k := 24) (ty := .int) inX4 tyX4 tyX4_ok nmX4 rfl rfl (by decide) q764 rfl (by decide +kernel) rfl rfl (by show 24 < 26; decide) dX4_renames_67 fl_4_24 eμ43 ?_
        refine aw_iinc (pc := 70) C (v := (v4 + 1)) (lv' := [(4, .int (v4 + 1)), (0, .ref (ad 45)), (1, .int v1), (2, .int v2), (3, .int v3)]) dX4_renames_70 4 rfl (by decide) rfl rfl ?_
        refine aw_goto (pc := 73) C 17 dX4_renames_73 rfl ?_
        refine aw_sub [1, 2, 3, 4, 0] rfl ?_
        exact hk17 (v4 + 1) μ43 h
      refine aw_icmp_ne (pc := 58) C 65 dX4_renames_58 rfl (fun hd1 => ?_) (fun hd1 => ?_)
      · refine aw_iconst (pc := 65) C (v := 0) dX4_renames_65 rfl ?_
        rw [if_neg hd1] at kJ
        exact kJ
      · refine aw_iconst (pc := 61) C (v := 1) dX4_renames_61 rfl ?_
        refine aw_goto (pc := 62) C 66 dX4_renames_62 rfl ?_
        rw [if_pos hd1] at kJ
        exact kJ
theorem ok_X4_renames_l17_w {l : Launch} {p : Program} {e : Env} {s : State} {m : MethodId} {args : Array Value} {below : List Frame} {meth : Method} {c : Code} {D : va_G} {cI cL : ClassId} {ad : Nat → Nat} (C : CX p l s m args meth c RX4 cX4_renames 8 (some .int) D cI cL (AA ad s.heap.size)) (hex : ∀ x ∈ c.exceptionTable.toList, False) {r : (Int32 × Mm)} {v1 : Int32} {v2 : Int32} {v3 : Int32} : ∀ (n : Nat) (v4 : Int32) (μ : Mm) , itr (X4_renames_l17 v1 v2 v3) (fun _ _ => none) n v4 μ = some r → AV l p e s m args below meth c D cI cL ad 9 8 (.inr (some (.int r.1))) r.2 17 [(0, .ref (ad 45)), (1, .int v1), (2, .int v2), (3, .int v3), (4, .int v4)] [] μ := by
  intro n
  induction n with
  | zero => intro v4 μ h; exact nomatch (show (none : Option (Int32 × Mm)) = some r from h)
  | succ n ih => intro v4 μ h; exact ok_X4_renames_l17 C hex (v1 := v1) (v2 := v2) (v3 := v3) ih h
theorem ok_X4_renames {l : Launch} (htr : l.stackTraces = false) {v1 : Int32} {v2 : Int32} {v3 : Int32} {μ : Mm} {r : (Int32 × Mm)}  (h : X4_renames v1 v2 v3 μ = some r) : MetX l yX4_renames cX4_renames 8 (some .int) 9 (fun ad => [.ref (ad 45), .int v1, .int v2, .int v3]) μ (.inr (some (.int r.1))) r.2 := by
  refine MetX.of htr (by decide) rfl (fun ad => Nat.le_of_ble_eq_true rfl) (fun p e s m args below meth c D cI cL ad C hex hw => ?_)
  show AV l p e s m args below meth c D cI cL ad 9 8 (.inr (some (.int r.1))) r.2 0 [(0, .ref (ad 45)), (1, .int v1), (2, .int v2), (3, .int v3)] [] μ
  unfold X4_renames at h
  refine aw_aload_n (pc := 0) C dX4_renames_0 rfl 0 rfl ?_
  obtain ⟨μ3, hq1, h⟩ := bi_some h
  refine aw_Vv (pc := 1) (a := 45) (Bs := []) C (ok_X4_layOutcomes C.tr hq1) kv_X4_layOutcomes q882 rfl rfl rfl rfl dX4_renames_1 ⟨(show 9 ≤ 9 by decide), (show 269 ≤ 279 by decide)⟩ ⟨Nat.zero_le _, Nat.zero_le _⟩ [] (Nat.le_of_ble_eq_true rfl) rfl ?_
  refine aw_aload_n (pc := 4) C dX4_renames_4 rfl 0 rfl ?_
  refine aw_iconst (pc := 5) C (v := (-1)) dX4_renames_5 rfl ?_
  obtain ⟨μ4, eμ4, h⟩ := bd_some h
  refine aw_putI (pc := 6) C (a := 45) (k := 23) (ty := .int) inX4 tyX4 tyX4_ok nmX4 rfl rfl (by decide) q763 rfl (by decide +kernel) rfl rfl (by show 23 < 26; decide) dX4_renames_6 fl_4_23 eμ4 ?_
  refine aw_aload_n (pc := 9) C dX4_renames_9 rfl 0 rfl ?_
  refine aw_iconst (pc := 10) C (v := 0) dX4_renames_10 rfl ?_
  obtain ⟨μ5, eμ5, h⟩ := bd_some h
  refine aw_putI (pc := 11) C (a := 45) (k := 24) (ty := .int) inX4 tyX4 tyX4_ok nmX4 rfl rfl (by decide) q764 rfl (by decide +kernel) rfl rfl (by show 24 < 26; decide) dX4_renames_11 fl_4_24 eμ5 ?_
  refine aw_iconst (pc := 14) C (v := 0) dX4_renames_14 rfl ?_
  refine aw_istore (pc := 15) C (x := 0) (lv' := [(4, .int 0), (0, .ref (ad 45)), (1, .int v1), (2, .int v2), (3, .int v3)]) dX4_renames_15 (by decide) rfl rfl ?_
  refine aw_sub [1, 2, 3, 4, 0] rfl ?_
  exact ok_X4_renames_l17_w C hex big 0 μ5 h
/-! ### NameScopesModel.freeName(I)I -/
theorem ok_X4_freeName_j50 {l : Launch} {p : Program} {e : Env} {s : State} {m : MethodId} {args : Array Value} {below : List Frame} {meth : Method} {c : Code} {D : va_G} {cI cL : ClassId} {ad : Nat → Nat} (C : CX p l s m args meth c RX4 cX4_freeName 3 (some .int) D cI cL (AA ad s.heap.size)) (hex : ∀ x ∈ c.exceptionTable.toList, False) {r : (Int32 × Mm)} {v1 : Int32} {v2 : Int32} {μ : Mm}  (h : X4_freeName_j50 v1 v2 μ = some r) : AV l p e s m args below meth c D cI cL ad 10 3 (.inr (some (.int r.1))) r.2 50 [(2, .int v2)] [] μ := by
  unfold X4_freeName_j50 at h
  refine aw_iload_n (pc := 50) C dX4_freeName_50 rfl 0 rfl ?_
  refine aw_bipush (pc := 51) C (v := 26) dX4_freeName_51 rfl ?_
  have kJ : AV l p e s m args below meth c D cI cL ad 10 3 (.inr (some (.int r.1))) r.2 61 [(2, .int v2)] [.int (if 26 ≤ v2 then ((-1) : Int32) else v2)] μ := by
    cases h
    exact aw_iret (pc := 61) C dX4_freeName_61
  refine aw_icmp_ge (pc := 53) C 60 dX4_freeName_53 rfl (fun hd1 => ?_) (fun hd1 => ?_)
  · refine aw_iconst (pc := 60) C (v := (-1)) dX4_freeName_60 rfl ?_
    rw [if_pos hd1] at kJ
    exact kJ
  · refine aw_iload_n (pc := 56) C dX4_freeName_56 rfl 0 rfl ?_
    refine aw_goto (pc := 57) C 61 dX4_freeName_57 rfl ?_
    rw [if_neg hd1] at kJ
    exact kJ
theorem ok_X4_freeName_l28 {l : Launch} {p : Program} {e : Env} {s : State} {m : MethodId} {args : Array Value} {below : List Frame} {meth : Method} {c : Code} {D : va_G} {cI cL : ClassId} {ad : Nat → Nat} (C : CX p l s m args meth c RX4 cX4_freeName 3 (some .int) D cI cL (AA ad s.heap.size)) (hex : ∀ x ∈ c.exceptionTable.toList, False) {r : (Int32 × Mm)} {v1 : Int32} {k28 : Int32 → Mm → Option (Int32 × Mm)} (hk28 : ∀ (v2 : Int32) (μ : Mm), k28 v2 μ = some r → AV l p e s m args below meth c D cI cL ad 10 3 (.inr (some (.int r.1))) r.2 28 [(0, .ref (ad 45)), (1, .int v1), (2, .int v2)] [] μ) {v2 : Int32} {μ : Mm}  (h : X4_freeName_l28 v1 k28 v2 μ = some r) : AV l p e s m args below meth c D cI cL ad 10 3 (.inr (some (.int r.1))) r.2 28 [(0, .ref (ad 45)), (1, .int v1), (2, .int v2)] [] μ := by
  unfold X4_freeName_l28 at h
  refine aw_iload_n (pc := 28) C dX4_freeName_28 rfl 2 rfl ?_
  refine aw_bipush (pc := 29) C (v := 26) dX4_freeName_29 rfl ?_
  refine aw_icmp_ge (pc := 31) C 50 dX4_freeName_31 rfl (fun hc => ?_) (fun hc => ?_)
  · replace h := ite_T h hc
    refine aw_sub [2] rfl ?_
    exact ok_X4_freeName_j50 C hex h
  · replace h := ite_F h hc
    refine aw_aload_n (pc := 34) C dX4_freeName_34 rfl 0 rfl ?_
    refine aw_iload_n (pc := 35) C dX4_freeName_35 rfl 1 rfl ?_
    refine aw_iload_n (pc := 36) C dX4_freeName_36 rfl 2 rfl ?_
    refine aw_iconst (pc := 37) C (v := 1) dX4_freeName_37 rfl ?_
    obtain ⟨q5, μ6, hq4, h⟩ := bn_some h
    refine aw_Vi (pc := 38) (a := 45) (Bs := [.int v1, .int v2, .int 1]) C (ok_X4_renames C.tr hq4) kv_X4_renames q1053 rfl rfl rfl rfl dX4_freeName_38 ⟨(show 10 ≤ 10 by decide), (show 306 ≤ 310 by decide)⟩ ⟨Nat.zero_le _, Nat.zero_le _⟩ [] (Nat.le_of_ble_eq_true rfl) rfl ?_
    refine aw_if_le (pc := 41) C 50 dX4_freeName_41 rfl (fun hc => ?_) (fun hc => ?_)
    · replace h := ite_T h hc
      refine aw_sub [2] rfl ?_
      exact ok_X4_freeName_j50 C hex h
    · replace h := ite_F h hc
      refine aw_iinc (pc := 44) C (v := (v2 + 1)) (lv' := [(2, .int (v2 + 1)), (0, .ref (ad 45)), (1, .int v1)]) dX4_freeName_44 2 rfl (by decide) rfl rfl ?_
      refine aw_goto (pc := 47) C 28 dX4_freeName_47 rfl ?_
      refine aw_sub [1, 2, 0] rfl ?_
      exact hk28 (v2 + 1) μ6 h
theorem ok_X4_freeName_l28_w {l : Launch} {p : Program} {e : Env} {s : State} {m : MethodId} {args : Array Value} {below : List Frame} {meth : Method} {c : Code} {D : va_G} {cI cL : ClassId} {ad : Nat → Nat} (C : CX p l s m args meth c RX4 cX4_freeName 3 (some .int) D cI cL (AA ad s.heap.size)) (hex : ∀ x ∈ c.exceptionTable.toList, False) {r : (Int32 × Mm)} {v1 : Int32} : ∀ (n : Nat) (v2 : Int32) (μ : Mm) , itr (X4_freeName_l28 v1) (fun _ _ => none) n v2 μ = some r → AV l p e s m args below meth c D cI cL ad 10 3 (.inr (some (.int r.1))) r.2 28 [(0, .ref (ad 45)), (1, .int v1), (2, .int v2)] [] μ := by
  intro n
  induction n with
  | zero => intro v2 μ h; exact nomatch (show (none : Option (Int32 × Mm)) = some r from h)
  | succ n ih => intro v2 μ h; exact ok_X4_freeName_l28 C hex (v1 := v1) ih h
theorem ok_X4_freeName {l : Launch} (htr : l.stackTraces = false) {v1 : Int32} {μ : Mm} {r : (Int32 × Mm)}  (h : X4_freeName v1 μ = some r) : MetX l yX4_freeName cX4_freeName 3 (some .int) 10 (fun ad => [.ref (ad 45), .int v1]) μ (.inr (some (.int r.1))) r.2 := by
  refine MetX.of htr (by decide) rfl (fun ad => Nat.le_of_ble_eq_true rfl) (fun p e s m args below meth c D cI cL ad C hex hw => ?_)
  show AV l p e s m args below meth c D cI cL ad 10 3 (.inr (some (.int r.1))) r.2 0 [(0, .ref (ad 45)), (1, .int v1)] [] μ
  unfold X4_freeName at h
  refine aw_aload_n (pc := 0) C dX4_freeName_0 rfl 0 rfl ?_
  refine aw_aload_n (pc := 1) C dX4_freeName_1 rfl 0 rfl ?_
  refine aw_iload_n (pc := 2) C dX4_freeName_2 rfl 1 rfl ?_
  obtain ⟨q2, hq1, h⟩ := bi_some h
  refine aw_Vi (pc := 3) (a := 45) (Bs := [.int v1]) C (ok_X4_isDeclaration C.tr hq1) kv_X4_isDeclaration q1049 rfl rfl rfl rfl dX4_freeName_3 ⟨(show 2 ≤ 10 by decide), (show 52 ≤ 310 by decide)⟩ ⟨Nat.zero_le _, Nat.zero_le _⟩ [.ref (ad 45)] (Nat.le_of_ble_eq_true rfl) rfl ?_
  have kJ : AV l p e s m args below meth c D cI cL ad 10 3 (.inr (some (.int r.1))) r.2 14 [(0, .ref (ad 45)), (1, .int v1)] [.int (if q2 = 0 then (1 : Int32) else 0), .ref (ad 45)] μ := by
    obtain ⟨μ3, eμ3, h⟩ := bd_some h
    refine aw_putI (pc := 14) C (a := 45) (k := 0) (ty := .int) inX4 tyX4 tyX4_ok nmX4 rfl rfl (by decide) q740 rfl (by decide +kernel) rfl rfl (by show 0 < 26; decide) dX4_freeName_14 fl_4_0 eμ3 ?_
    refine aw_aload_n (pc := 17) C dX4_freeName_17 rfl 0 rfl ?_
    refine aw_get (pc := 18) C (a := 45) (k := 0) (v := .int (μ3.1 45 0)) inX4 rfl rfl (by decide) q740 dX4_freeName_18 rfl ?_
    refine aw_if_le (pc := 21) C 26 dX4_freeName_21 rfl (fun hc => ?_) (fun hc => ?_)
    · replace h := ite_T h hc
      refine aw_iconst (pc := 26) C (v := 0) dX4_freeName_26 rfl ?_
      refine aw_istore_n (pc := 27) C (x := 0) (lv' := [(2, .int 0), (0, .ref (ad 45)), (1, .int v1)]) dX4_freeName_27 rfl (by decide) rfl rfl ?_
      refine aw_sub [1, 2, 0] rfl ?_
      exact ok_X4_freeName_l28_w C hex big 0 μ3 h
    · replace h := ite_F h hc
      refine aw_iconst (pc := 24) C (v := 0) dX4_freeName_24 rfl ?_
      cases h
      exact aw_iret (pc := 25) C dX4_freeName_25
  refine aw_if_eq (pc := 6) C 13 dX4_freeName_6 rfl (fun hd1 => ?_) (fun hd1 => ?_)
  · refine aw_iconst (pc := 13) C (v := 1) dX4_freeName_13 rfl ?_
    rw [if_pos hd1] at kJ
    exact kJ
  · refine aw_iconst (pc := 9) C (v := 0) dX4_freeName_9 rfl ?_
    refine aw_goto (pc := 10) C 14 dX4_freeName_10 rfl ?_
    rw [if_neg hd1] at kJ
    exact kJ
/-! ### NameScopesModel.ifRenamed(III)I -/
theorem ok_X4_ifRenamed_j34 {l : Launch} {p : Program} {e : Env} {s : State} {m : MethodId} {args : Array Value} {below : List Frame} {meth : Method} {c : Code} {D : va_G} {cI cL : ClassId} {ad : Nat → Nat} (C : CX p l s m args meth c RX4 cX4_ifRenamed 5 (some .int) D cI cL (AA ad s.heap.size)) (hex : ∀ x ∈ c.exceptionTable.toList, False) {r : (Int32 × Mm)} {v1 : Int32} {v2 : Int32} {v3 : Int32} {s0 : Int32} {μ : Mm}  (h : X4_ifRenamed_j34 v1 v2 v3 s0 μ = some r) : AV l p e s m args below meth c D cI cL ad 10 5 (.inr (some (.int r.1))) r.2 34 [(0, .ref (ad 45)), (1, .int v1), (2, .int v2), (3, .int v3)] [.int s0, .ref (ad 45)] μ := by
  unfold X4_ifRenamed_j34 at h
  obtain ⟨μ5, eμ5, h⟩ := bd_some h
  refine aw_putI (pc := 34) C (a := 45) (k := 0) (ty := .int) inX4 tyX4 tyX4_ok nmX4 rfl rfl (by decide) q740 rfl (by decide +kernel) rfl rfl (by show 0 < 26; decide) dX4_ifRenamed_34 fl_4_0 eμ5 ?_
  refine aw_aload_n (pc := 37) C dX4_ifRenamed_37 rfl 0 rfl ?_
  refine aw_get (pc := 38) C (a := 45) (k := 0) (v := .int (μ5.1 45 0)) inX4 rfl rfl (by decide) q740 dX4_ifRenamed_38 rfl ?_
  refine aw_if_le (pc := 41) C 46 dX4_ifRenamed_41 rfl (fun hc => ?_) (fun hc => ?_)
  · replace h := ite_T h hc
    refine aw_aload_n (pc := 46) C dX4_ifRenamed_46 rfl 0 rfl ?_
    refine aw_iload_n (pc := 47) C dX4_ifRenamed_47 rfl 1 rfl ?_
    refine aw_iload_n (pc := 48) C dX4_ifRenamed_48 rfl 2 rfl ?_
    refine aw_iconst (pc := 49) C (v := 1) dX4_ifRenamed_49 rfl ?_
    obtain ⟨q7, μ8, hq6, h⟩ := bn_some h
    refine aw_Vi (pc := 50) (a := 45) (Bs := [.int v1, .int v2, .int 1]) C (ok_X4_renames C.tr hq6) kv_X4_renames q1053 rfl rfl rfl rfl dX4_ifRenamed_50 ⟨(show 10 ≤ 10 by decide), (show 306 ≤ 310 by decide)⟩ ⟨Nat.zero_le _, Nat.zero_le _⟩ [] (Nat.le_of_ble_eq_true rfl) rfl ?_
    refine aw_istore (pc := 53) C (x := q7) (lv' := [(4, .int q7), (0, .ref (ad 45)), (1, .int v1), (2, .int v2), (3, .int v3)]) dX4_ifRenamed_53 (by decide) rfl rfl ?_
    refine aw_iload_n (pc := 55) C dX4_ifRenamed_55 rfl 4 rfl ?_
    refine aw_if_ne (pc := 56) C 64 dX4_ifRenamed_56 rfl (fun hc => ?_) (fun hc => ?_)
    · replace h := ite_F h hc
      refine aw_iload_n (pc := 64) C dX4_ifRenamed_64 rfl 4 rfl ?_
      refine aw_iconst (pc := 65) C (v := 1) dX4_ifRenamed_65 rfl ?_
      refine aw_icmp_ne (pc := 66) C 76 dX4_ifRenamed_66 rfl (fun hc => ?_) (fun hc => ?_)
      · replace h := ite_F h hc
        refine aw_aload_n (pc := 76) C dX4_ifRenamed_76 rfl 1 rfl ?_
        refine aw_get (pc := 77) C (a := 45) (k := 24) (v := .int (μ8.1 45 24)) inX4 rfl rfl (by decide) q764 dX4_ifRenamed_77 rfl ?_
        cases h
        exact aw_iret (pc := 80) C dX4_ifRenamed_80
      · replace h := ite_T h hc
        refine aw_aload_n (pc := 69) C dX4_ifRenamed_69 rfl 1 rfl ?_
        refine aw_get (pc := 70) C (a := 45) (k := 23) (v := .int (μ8.1 45 23)) inX4 rfl rfl (by decide) q763 dX4_ifRenamed_70 rfl ?_
        refine aw_goto (pc := 73) C 80 dX4_ifRenamed_73 rfl ?_
        cases h
        exact aw_iret (pc := 80) C dX4_ifRenamed_80
    · replace h := ite_T h hc
      refine aw_iload (pc := 59) C dX4_ifRenamed_59 0 rfl ?_
      refine aw_goto (pc := 61) C 80 dX4_ifRenamed_61 rfl ?_
      cases h
      exact aw_iret (pc := 80) C dX4_ifRenamed_80
  · replace h := ite_F h hc
    refine aw_iconst (pc := 44) C (v := 0) dX4_ifRenamed_44 rfl ?_
    cases h
    exact aw_iret (pc := 45) C dX4_ifRenamed_45
theorem ok_X4_ifRenamed_j33 {l : Launch} {p : Program} {e : Env} {s : State} {m : MethodId} {args : Array Value} {below : List Frame} {meth : Method} {c : Code} {D : va_G} {cI cL : ClassId} {ad : Nat → Nat} (C : CX p l s m args meth c RX4 cX4_ifRenamed 5 (some .int) D cI cL (AA ad s.heap.size)) (hex : ∀ x ∈ c.exceptionTable.toList, False) {r : (Int32 × Mm)} {v1 : Int32} {v2 : Int32} {v3 : Int32} {μ : Mm}  (h : X4_ifRenamed_j33 v1 v2 v3 μ = some r) : AV l p e s m args below meth c D cI cL ad 10 5 (.inr (some (.int r.1))) r.2 33 [(0, .ref (ad 45)), (1, .int v1), (2, .int v2), (3, .int v3)] [.ref (ad 45)] μ := by
  unfold X4_ifRenamed_j33 at h
  refine aw_iconst (pc := 33) C (v := 2) dX4_ifRenamed_33 rfl ?_
  refine aw_sub [0, 1, 2, 3] rfl ?_
  exact ok_X4_ifRenamed_j34 C hex h
theorem ok_X4_ifRenamed {l : Launch} (htr : l.stackTraces = false) {v1 : Int32} {v2 : Int32} {v3 : Int32} {μ : Mm} {r : (Int32 × Mm)}  (h : X4_ifRenamed v1 v2 v3 μ = some r) : MetX l yX4_ifRenamed cX4_ifRenamed 5 (some .int) 10 (fun ad => [.ref (ad 45), .int v1, .int v2, .int v3]) μ (.inr (some (.int r.1))) r.2 := by
  refine MetX.of htr (by decide) rfl (fun ad => Nat.le_of_ble_eq_true rfl) (fun p e s m args below meth c D cI cL ad C hex hw => ?_)
  show AV l p e s m args below meth c D cI cL ad 10 5 (.inr (some (.int r.1))) r.2 0 [(0, .ref (ad 45)), (1, .int v1), (2, .int v2), (3, .int v3)] [] μ
  unfold X4_ifRenamed at h
  refine aw_aload_n (pc := 0) C dX4_ifRenamed_0 rfl 0 rfl ?_
  refine aw_aload_n (pc := 1) C dX4_ifRenamed_1 rfl 0 rfl ?_
  refine aw_iload_n (pc := 2) C dX4_ifRenamed_2 rfl 1 rfl ?_
  obtain ⟨q2, hq1, h⟩ := bi_some h
  refine aw_Vi (pc := 3) (a := 45) (Bs := [.int v1]) C (ok_X4_isDeclaration C.tr hq1) kv_X4_isDeclaration q1049 rfl rfl rfl rfl dX4_ifRenamed_3 ⟨(show 2 ≤ 10 by decide), (show 52 ≤ 310 by decide)⟩ ⟨Nat.zero_le _, Nat.zero_le _⟩ [.ref (ad 45)] (Nat.le_of_ble_eq_true rfl) rfl ?_
  refine aw_if_ne (pc := 6) C 13 dX4_ifRenamed_6 rfl (fun hc => ?_) (fun hc => ?_)
  · replace h := ite_F h hc
    refine aw_iload_n (pc := 13) C dX4_ifRenamed_13 rfl 2 rfl ?_
    obtain ⟨q4, hq3, h⟩ := bi_some h
    refine aw_Si (pc := 14) (Bs := [.int v2]) C (ok_X4_isName C.tr hq3) kv_X4_isName q842 rfl rfl dX4_ifRenamed_14 ⟨(show 2 ≤ 10 by decide), (show 51 ≤ 310 by decide)⟩ ⟨Nat.zero_le _, Nat.zero_le _⟩ [.ref (ad 45)] (Nat.le_of_ble_eq_true rfl) rfl ?_
    refine aw_if_eq (pc := 17) C 33 dX4_ifRenamed_17 rfl (fun hc => ?_) (fun hc => ?_)
    · replace h := ite_T h hc
      refine aw_sub [0, 1, 2, 3] rfl ?_
      exact ok_X4_ifRenamed_j33 C hex h
    · replace h := ite_F h hc
      refine aw_iload_n (pc := 20) C dX4_ifRenamed_20 rfl 3 rfl ?_
      refine aw_iconst (pc := 21) C (v := 0) dX4_ifRenamed_21 rfl ?_
      refine aw_iconst (pc := 22) C (v := 2) dX4_ifRenamed_22 rfl ?_
      obtain ⟨q10, hq9, h⟩ := bi_some h
      refine aw_Si (pc := 23) (Bs := [.int v3, .int 0, .int 2]) C (ok_X4_within C.tr hq9) kv_X4_within q835 rfl rfl dX4_ifRenamed_23 ⟨(show 1 ≤ 10 by decide), (show 22 ≤ 310 by decide)⟩ ⟨Nat.zero_le _, Nat.zero_le _⟩ [.ref (ad 45)] (Nat.le_of_ble_eq_true rfl) rfl ?_
      have kJ : AV l p e s m args below meth c D cI cL ad 10 5 (.inr (some (.int r.1))) r.2 34 [(0, .ref (ad 45)), (1, .int v1), (2, .int v2), (3, .int v3)] [.int (if q10 = 0 then (2 : Int32) else 0), .ref (ad 45)] μ := by
        obtain ⟨μ11, eμ11, h⟩ := bd_some h
        refine aw_putI (pc := 34) C (a := 45) (k := 0) (ty := .int) inX4 tyX4 tyX4_ok nmX4 rfl rfl (by decide) q740 rfl (by decide +kernel) rfl rfl (by show 0 < 26; decide) dX4_ifRenamed_34 fl_4_0 eμ11 ?_
        refine aw_aload_n (pc := 37) C dX4_ifRenamed_37 rfl 0 rfl ?_
        refine aw_get (pc := 38) C (a := 45) (k := 0) (v := .int (μ11.1 45 0)) inX4 rfl rfl (by decide) q740 dX4_ifRenamed_38 rfl ?_
        refine aw_if_le (pc := 41) C 46 dX4_ifRenamed_41 rfl (fun hc => ?_) (fun hc => ?_)
        · replace h := ite_T h hc
          refine aw_aload_n (pc := 46) C dX4_ifRenamed_46 rfl 0 rfl ?_
          refine aw_iload_n (pc := 47) C dX4_ifRenamed_47 rfl 1 rfl ?_
          refine aw_iload_n (pc := 48) C dX4_ifRenamed_48 rfl 2 rfl ?_
          refine aw_iconst (pc := 49) C (v := 1) dX4_ifRenamed_49 rfl ?_
          obtain ⟨q13, μ14, hq12, h⟩ := bn_some h
          refine aw_Vi (pc := 50) (a := 45) (Bs := [.int v1, .int v2, .int 1]) C (ok_X4_renames C.tr hq12) kv_X4_renames q1053 rfl rfl rfl rfl dX4_ifRenamed_50 ⟨(show 10 ≤ 10 by decide), (show 306 ≤ 310 by decide)⟩ ⟨Nat.zero_le _, Nat.zero_le _⟩ [] (Nat.le_of_ble_eq_true rfl) rfl ?_
          refine aw_istore (pc := 53) C (x := q13) (lv' := [(4, .int q13), (0, .ref (ad 45)), (1, .int v1), (2, .int v2), (3, .int v3)]) dX4_ifRenamed_53 (by decide) rfl rfl ?_
          refine aw_iload_n (pc := 55) C dX4_ifRenamed_55 rfl 4 rfl ?_
          refine aw_if_ne (pc := 56) C 64 dX4_ifRenamed_56 rfl (fun hc => ?_) (fun hc => ?_)
          · replace h := ite_F h hc
            refine aw_iload_n (pc := 64) C dX4_ifRenamed_64 rfl 4 rfl ?_
            refine aw_iconst (pc := 65) C (v := 1) dX4_ifRenamed_65 rfl ?_
            refine aw_icmp_ne (pc := 66) C 76 dX4_ifRenamed_66 rfl (fun hc => ?_) (fun hc => ?_)
            · replace h := ite_F h hc
              refine aw_aload_n (pc := 76) C dX4_ifRenamed_76 rfl 1 rfl ?_
              refine aw_get (pc := 77) C (a := 45) (k := 24) (v := .int (μ14.1 45 24)) inX4 rfl rfl (by decide) q764 dX4_ifRenamed_77 rfl ?_
              cases h
              exact aw_iret (pc := 80) C dX4_ifRenamed_80
            · replace h := ite_T h hc
              refine aw_aload_n (pc := 69) C dX4_ifRenamed_69 rfl 1 rfl ?_
              refine aw_get (pc := 70) C (a := 45) (k := 23) (v := .int (μ14.1 45 23)) inX4 rfl rfl (by decide) q763 dX4_ifRenamed_70 rfl ?_
              refine aw_goto (pc := 73) C 80 dX4_ifRenamed_73 rfl ?_
              cases h
              exact aw_iret (pc := 80) C dX4_ifRenamed_80
          · replace h := ite_T h hc
            refine aw_iload (pc := 59) C dX4_ifRenamed_59 0 rfl ?_
            refine aw_goto (pc := 61) C 80 dX4_ifRenamed_61 rfl ?_
            cases h
            exact aw_iret (pc := 80) C dX4_ifRenamed_80
        · replace h := ite_F h hc
          refine aw_iconst (pc := 44) C (v := 0) dX4_ifRenamed_44 rfl ?_
          cases h
          exact aw_iret (pc := 45) C dX4_ifRenamed_45
      refine aw_if_eq (pc := 26) C 33 dX4_ifRenamed_26 rfl (fun hd1 => ?_) (fun hd1 => ?_)
      · refine aw_iconst (pc := 33) C (v := 2) dX4_ifRenamed_33 rfl ?_
        rw [if_pos hd1] at kJ
        exact kJ
      · refine aw_iconst (pc := 29) C (v := 0) dX4_ifRenamed_29 rfl ?_
        refine aw_goto (pc := 30) C 34 dX4_ifRenamed_30 rfl ?_
        rw [if_neg hd1] at kJ
        exact kJ
  · replace h := ite_T h hc
    refine aw_iconst (pc := 9) C (v := 1) dX4_ifRenamed_9 rfl ?_
    refine aw_goto (pc := 10) C 34 dX4_ifRenamed_10 rfl ?_
    refine aw_sub [0, 1, 2, 3] rfl ?_
    exact ok_X4_ifRenamed_j34 C hex h
/-! ### NameScopesModel.imported(II)I -/
theorem ok_X4_imported_j36 {l : Launch} {p : Program} {e : Env} {s : State} {m : MethodId} {args : Array Value} {below : List Frame} {meth : Method} {c : Code} {D : va_G} {cI cL : ClassId} {ad : Nat → Nat} (C : CX p l s m args meth c RX4 cX4_imported 3 (some .int) D cI cL (AA ad s.heap.size)) (hex : ∀ x ∈ c.exceptionTable.toList, False) {r : (Int32 × Mm)} {v1 : Int32} {v2 : Int32} {s0 : Int32} {μ : Mm}  (h : X4_imported_j36 v1 v2 s0 μ = some r) : AV l p e s m args below meth c D cI cL ad 11 3 (.inr (some (.int r.1))) r.2 36 [(0, .ref (ad 45)), (1, .int v1), (2, .int v2)] [.int s0, .ref (ad 45)] μ := by
  unfold X4_imported_j36 at h
  obtain ⟨μ10, eμ10, h⟩ := bd_some h
  refine aw_putI (pc := 36) C (a := 45) (k := 0) (ty := .int) inX4 tyX4 tyX4_ok nmX4 rfl rfl (by decide) q740 rfl (by decide +kernel) rfl rfl (by show 0 < 26; decide) dX4_imported_36 fl_4_0 eμ10 ?_
  refine aw_aload_n (pc := 39) C dX4_imported_39 rfl 0 rfl ?_
  refine aw_get (pc := 40) C (a := 45) (k := 0) (v := .int (μ10.1 45 0)) inX4 rfl rfl (by decide) q740 dX4_imported_40 rfl ?_
  refine aw_if_le (pc := 43) C 50 dX4_imported_43 rfl (fun hc => ?_) (fun hc => ?_)
  · replace h := ite_T h hc
    refine aw_aload_n (pc := 50) C dX4_imported_50 rfl 0 rfl ?_
    refine aw_iload_n (pc := 51) C dX4_imported_51 rfl 1 rfl ?_
    refine aw_iload_n (pc := 52) C dX4_imported_52 rfl 2 rfl ?_
    obtain ⟨q12, μ13, hq11, h⟩ := bn_some h
    refine aw_Vi (pc := 53) (a := 45) (Bs := [.int v1, .int v2]) C (ok_X4_importNow C.tr hq11) kv_X4_importNow q1133 rfl rfl rfl rfl dX4_imported_53 ⟨(show 11 ≤ 11 by decide), (show 332 ≤ 341 by decide)⟩ ⟨Nat.zero_le _, Nat.zero_le _⟩ [] (Nat.le_of_ble_eq_true rfl) rfl ?_
    cases h
    exact aw_iret (pc := 56) C dX4_imported_56
  · replace h := ite_F h hc
    refine aw_iconst (pc := 46) C (v := 0) dX4_imported_46 rfl ?_
    refine aw_goto (pc := 47) C 56 dX4_imported_47 rfl ?_
    cases h
    exact aw_iret (pc := 56) C dX4_imported_56
theorem ok_X4_imported {l : Launch} (htr : l.stackTraces = false) {v1 : Int32} {v2 : Int32} {μ : Mm} {r : (Int32 × Mm)}  (h : X4_imported v1 v2 μ = some r) : MetX l yX4_imported cX4_imported 3 (some .int) 11 (fun ad => [.ref (ad 45), .int v1, .int v2]) μ (.inr (some (.int r.1))) r.2 := by
  refine MetX.of htr (by decide) rfl (fun ad => Nat.le_of_ble_eq_true rfl) (fun p e s m args below meth c D cI cL ad C hex hw => ?_)
  show AV l p e s m args below meth c D cI cL ad 11 3 (.inr (some (.int r.1))) r.2 0 [(0, .ref (ad 45)), (1, .int v1), (2, .int v2)] [] μ
  unfold X4_imported at h
  refine aw_aload_n (pc := 0) C dX4_imported_0 rfl 0 rfl ?_
  refine aw_iload_n (pc := 1) C dX4_imported_1 rfl 1 rfl ?_
  refine aw_iconst (pc := 2) C (v := 0) dX4_imported_2 rfl ?_
  refine aw_aload_n (pc := 3) C dX4_imported_3 rfl 0 rfl ?_
  refine aw_get (pc := 4) C (a := 45) (k := 1) (v := .ref (ad 46)) inX4 rfl rfl (by decide) q741 dX4_imported_4 rfl ?_
  refine aw_iconst (pc := 7) C (v := 2) dX4_imported_7 rfl ?_
  obtain ⟨g1, h⟩ := ck_some h
  refine aw_iaload (pc := 8) C (a := 46) rfl g1 dX4_imported_8 ?_
  refine aw_iconst (pc := 9) C (v := 1) dX4_imported_9 rfl ?_
  refine aw_isub (pc := 10) C dX4_imported_10 ?_
  obtain ⟨q3, hq2, h⟩ := bi_some h
  refine aw_Si (pc := 11) (Bs := [.int v1, .int 0, .int ((μ.1 46 (2 : Int32).toNatClampNeg) - 1)]) C (ok_X4_within C.tr hq2) kv_X4_within q835 rfl rfl dX4_imported_11 ⟨(show 1 ≤ 11 by decide), (show 22 ≤ 341 by decide)⟩ ⟨Nat.zero_le _, Nat.zero_le _⟩ [.ref (ad 45)] (Nat.le_of_ble_eq_true rfl) rfl ?_
  refine aw_if_ne (pc := 14) C 21 dX4_imported_14 rfl (fun hc => ?_) (fun hc => ?_)
  · replace h := ite_F h hc
    refine aw_iload_n (pc := 21) C dX4_imported_21 rfl 2 rfl ?_
    refine aw_iconst (pc := 22) C (v := 0) dX4_imported_22 rfl ?_
    refine aw_bipush (pc := 23) C (v := 7) dX4_imported_23 rfl ?_
    obtain ⟨q5, hq4, h⟩ := bi_some h
    refine aw_Si (pc := 25) (Bs := [.int v2, .int 0, .int 7]) C (ok_X4_within C.tr hq4) kv_X4_within q835 rfl rfl dX4_imported_25 ⟨(show 1 ≤ 11 by decide), (show 22 ≤ 341 by decide)⟩ ⟨Nat.zero_le _, Nat.zero_le _⟩ [.ref (ad 45)] (Nat.le_of_ble_eq_true rfl) rfl ?_
    have kJ : AV l p e s m args below meth c D cI cL ad 11 3 (.inr (some (.int r.1))) r.2 36 [(0, .ref (ad 45)), (1, .int v1), (2, .int v2)] [.int (if q5 = 0 then (2 : Int32) else 0), .ref (ad 45)] μ := by
      obtain ⟨μ6, eμ6, h⟩ := bd_some h
      refine aw_putI (pc := 36) C (a := 45) (k := 0) (ty := .int) inX4 tyX4 tyX4_ok nmX4 rfl rfl (by decide) q740 rfl (by decide +kernel) rfl rfl (by show 0 < 26; decide) dX4_imported_36 fl_4_0 eμ6 ?_
      refine aw_aload_n (pc := 39) C dX4_imported_39 rfl 0 rfl ?_
      refine aw_get (pc := 40) C (a := 45) (k := 0) (v := .int (μ6.1 45 0)) inX4 rfl rfl (by decide) q740 dX4_imported_40 rfl ?_
      refine aw_if_le (pc := 43) C 50 dX4_imported_43 rfl (fun hc => ?_) (fun hc => ?_)
      · replace h := ite_T h hc
        refine aw_aload_n (pc := 50) C dX4_imported_50 rfl 0 rfl ?_
        refine aw_iload_n (pc := 51) C dX4_imported_51 rfl 1 rfl ?_
        refine aw_iload_n (pc := 52) C dX4_imported_52 rfl 2 rfl ?_
        obtain ⟨q8, μ9, hq7, h⟩ := bn_some h
        refine aw_Vi (pc := 53) (a := 45) (Bs := [.int v1, .int v2]) C (ok_X4_importNow C.tr hq7) kv_X4_importNow q1133 rfl rfl rfl rfl dX4_imported_53 ⟨(show 11 ≤ 11 by decide), (show 332 ≤ 341 by decide)⟩ ⟨Nat.zero_le _, Nat.zero_le _⟩ [] (Nat.le_of_ble_eq_true rfl) rfl ?_
        cases h
        exact aw_iret (pc := 56) C dX4_imported_56
      · replace h := ite_F h hc
        refine aw_iconst (pc := 46) C (v := 0) dX4_imported_46 rfl ?_
        refine aw_goto (pc := 47) C 56 dX4_imported_47 rfl ?_
        cases h
        exact aw_iret (pc := 56) C dX4_imported_56
    refine aw_if_eq (pc := 28) C 35 dX4_imported_28 rfl (fun hd1 => ?_) (fun hd1 => ?_)
    · refine aw_iconst (pc := 35) C (v := 2) dX4_imported_35 rfl ?_
      rw [if_pos hd1] at kJ
      exact kJ
    · refine aw_iconst (pc := 31) C (v := 0) dX4_imported_31 rfl ?_
      refine aw_goto (pc := 32) C 36 dX4_imported_32 rfl ?_
      rw [if_neg hd1] at kJ
      exact kJ
  · replace h := ite_T h hc
    refine aw_iconst (pc := 17) C (v := 1) dX4_imported_17 rfl ?_
    refine aw_goto (pc := 18) C 36 dX4_imported_18 rfl ?_
    refine aw_sub [0, 1, 2] rfl ?_
    exact ok_X4_imported_j36 C hex h
/-! ### NameScopesModel.load()I -/
theorem ok_X4_load_j24 {l : Launch} {p : Program} {e : Env} {s : State} {m : MethodId} {args : Array Value} {below : List Frame} {meth : Method} {c : Code} {D : va_G} {cI cL : ClassId} {ad : Nat → Nat} (C : CX p l s m args meth c RX4 cX4_load 2 (some .int) D cI cL (AA ad s.heap.size)) (hex : ∀ x ∈ c.exceptionTable.toList, False) {r : (Int32 × Mm)} {s0 : Int32} {μ : Mm}  (h : X4_load_j24 s0 μ = some r) : AV l p e s m args below meth c D cI cL ad 7 2 (.inr (some (.int r.1))) r.2 24 [(0, .ref (ad 45))] [.int s0] μ := by
  unfold X4_load_j24 at h
  refine aw_istore_n (pc := 24) C (x := s0) (lv' := [(1, .int s0), (0, .ref (ad 45))]) dX4_load_24 rfl (by decide) rfl rfl ?_
  refine aw_aload_n (pc := 25) C dX4_load_25 rfl 1 rfl ?_
  refine aw_iload_n (pc := 26) C dX4_load_26 rfl 0 rfl ?_
  have kJ : AV l p e s m args below meth c D cI cL ad 7 2 (.inr (some (.int r.1))) r.2 35 [(1, .int s0), (0, .ref (ad 45))] [.int (if s0 = 0 then (1 : Int32) else 0), .ref (ad 45)] μ := by
    obtain ⟨μ4, eμ4, h⟩ := bd_some h
    refine aw_putI (pc := 35) C (a := 45) (k := 0) (ty := .int) inX4 tyX4 tyX4_ok nmX4 rfl rfl (by decide) q740 rfl (by decide +kernel) rfl rfl (by show 0 < 26; decide) dX4_load_35 fl_4_0 eμ4 ?_
    refine aw_aload_n (pc := 38) C dX4_load_38 rfl 1 rfl ?_
    refine aw_get (pc := 39) C (a := 45) (k := 0) (v := .int (μ4.1 45 0)) inX4 rfl rfl (by decide) q740 dX4_load_39 rfl ?_
    refine aw_if_le (pc := 42) C 47 dX4_load_42 rfl (fun hc => ?_) (fun hc => ?_)
    · replace h := ite_T h hc
      refine aw_aload_n (pc := 47) C dX4_load_47 rfl 1 rfl ?_
      refine aw_aload_n (pc := 48) C dX4_load_48 rfl 1 rfl ?_
      refine aw_get (pc := 49) C (a := 45) (k := 1) (v := .ref (ad 46)) inX4 rfl rfl (by decide) q741 dX4_load_49 rfl ?_
      refine aw_aload_n (pc := 52) C dX4_load_52 rfl 1 rfl ?_
      refine aw_get (pc := 53) C (a := 45) (k := 2) (v := .ref (ad 47)) inX4 rfl rfl (by decide) q742 dX4_load_53 rfl ?_
      obtain ⟨μ7, hq5, h⟩ := bi_some h
      refine aw_Vv (pc := 56) (a := 45) (Bs := [.ref (ad 46), .ref (ad 47)]) C (ok_X4_copy C.tr (isArr_of rfl) (isArr_of rfl) hq5) kv_X4_copy q1004 rfl rfl rfl rfl dX4_load_56 ⟨(show 1 ≤ 7 by decide), (show 23 ≤ 217 by decide)⟩ ⟨Nat.zero_le _, Nat.zero_le _⟩ [] (Nat.le_of_ble_eq_true rfl) rfl ?_
      refine aw_aload_n (pc := 59) C dX4_load_59 rfl 1 rfl ?_
      refine aw_iconst (pc := 60) C (v := 1) dX4_load_60 rfl ?_
      obtain ⟨q9, μ10, hq8, h⟩ := bn_some h
      refine aw_Vi (pc := 61) (a := 45) (Bs := [.int 1]) C (ok_X4_read C.tr hq8) kv_X4_read q957 rfl rfl rfl rfl dX4_load_61 ⟨(show 7 ≤ 7 by decide), (show 208 ≤ 217 by decide)⟩ ⟨Nat.zero_le _, Nat.zero_le _⟩ [] (Nat.le_of_ble_eq_true rfl) rfl ?_
      refine aw_pop (pc := 64) C dX4_load_64 rfl ?_
      refine aw_aload_n (pc := 65) C dX4_load_65 rfl 1 rfl ?_
      obtain ⟨μ13, hq11, h⟩ := bi_some h
      refine aw_Vv (pc := 66) (a := 45) (Bs := []) C (ok_X4_endItem C.tr hq11) kv_X4_endItem q969 rfl rfl rfl rfl dX4_load_66 ⟨(show 5 ≤ 7 by decide), (show 144 ≤ 217 by decide)⟩ ⟨Nat.zero_le _, Nat.zero_le _⟩ [] (Nat.le_of_ble_eq_true rfl) rfl ?_
      refine aw_aload_n (pc := 69) C dX4_load_69 rfl 1 rfl ?_
      refine aw_get (pc := 70) C (a := 45) (k := 21) (v := .int (μ13.1 45 21)) inX4 rfl rfl (by decide) q761 dX4_load_70 rfl ?_
      refine aw_if_eq (pc := 73) C 95 dX4_load_73 rfl (fun hc => ?_) (fun hc => ?_)
      · replace h := ite_T h hc
        refine aw_aload_n (pc := 95) C dX4_load_95 rfl 1 rfl ?_
        refine aw_iconst (pc := 96) C (v := 0) dX4_load_96 rfl ?_
        obtain ⟨μ14, eμ14, h⟩ := bd_some h
        refine aw_putI (pc := 97) C (a := 45) (k := 0) (ty := .int) inX4 tyX4 tyX4_ok nmX4 rfl rfl (by decide) q740 rfl (by decide +kernel) rfl rfl (by show 0 < 26; decide) dX4_load_97 fl_4_0 eμ14 ?_
        refine aw_aload_n (pc := 100) C dX4_load_100 rfl 1 rfl ?_
        refine aw_iconst (pc := 101) C (v := 0) dX4_load_101 rfl ?_
        obtain ⟨μ15, eμ15, h⟩ := bd_some h
        refine aw_putI (pc := 102) C (a := 45) (k := 5) (ty := .int) inX4 tyX4 tyX4_ok nmX4 rfl rfl (by decide) q745 rfl (by decide +kernel) rfl rfl (by show 5 < 26; decide) dX4_load_102 fl_4_5 eμ15 ?_
        refine aw_aload_n (pc := 105) C dX4_load_105 rfl 1 rfl ?_
        refine aw_get (pc := 106) C (a := 45) (k := 22) (v := .int (μ15.1 45 22)) inX4 rfl rfl (by decide) q762 dX4_load_106 rfl ?_
        cases h
        exact aw_iret (pc := 109) C dX4_load_109
      · replace h := ite_F h hc
        refine aw_aload_n (pc := 76) C dX4_load_76 rfl 1 rfl ?_
        refine aw_aload_n (pc := 77) C dX4_load_77 rfl 1 rfl ?_
        refine aw_get (pc := 78) C (a := 45) (k := 2) (v := .ref (ad 47)) inX4 rfl rfl (by decide) q742 dX4_load_78 rfl ?_
        refine aw_aload_n (pc := 81) C dX4_load_81 rfl 1 rfl ?_
        refine aw_get (pc := 82) C (a := 45) (k := 1) (v := .ref (ad 46)) inX4 rfl rfl (by decide) q741 dX4_load_82 rfl ?_
        obtain ⟨μ18, hq16, h⟩ := bi_some h
        refine aw_Vv (pc := 85) (a := 45) (Bs := [.ref (ad 47), .ref (ad 46)]) C (ok_X4_copy C.tr (isArr_of rfl) (isArr_of rfl) hq16) kv_X4_copy q1004 rfl rfl rfl rfl dX4_load_85 ⟨(show 1 ≤ 7 by decide), (show 23 ≤ 217 by decide)⟩ ⟨Nat.zero_le _, Nat.zero_le _⟩ [] (Nat.le_of_ble_eq_true rfl) rfl ?_
        refine aw_aload_n (pc := 88) C dX4_load_88 rfl 1 rfl ?_
        refine aw_iconst (pc := 89) C (v := 2) dX4_load_89 rfl ?_
        obtain ⟨μ19, eμ19, h⟩ := bd_some h
        refine aw_putI (pc := 90) C (a := 45) (k := 0) (ty := .int) inX4 tyX4 tyX4_ok nmX4 rfl rfl (by decide) q740 rfl (by decide +kernel) rfl rfl (by show 0 < 26; decide) dX4_load_90 fl_4_0 eμ19 ?_
        refine aw_iconst (pc := 93) C (v := 0) dX4_load_93 rfl ?_
        cases h
        exact aw_iret (pc := 94) C dX4_load_94
    · replace h := ite_F h hc
      refine aw_iconst (pc := 45) C (v := 0) dX4_load_45 rfl ?_
      cases h
      exact aw_iret (pc := 46) C dX4_load_46
  refine aw_if_eq (pc := 27) C 34 dX4_load_27 rfl (fun hd1 => ?_) (fun hd1 => ?_)
  · refine aw_iconst (pc := 34) C (v := 1) dX4_load_34 rfl ?_
    rw [if_pos hd1] at kJ
    exact kJ
  · refine aw_iconst (pc := 30) C (v := 0) dX4_load_30 rfl ?_
    refine aw_goto (pc := 31) C 35 dX4_load_31 rfl ?_
    rw [if_neg hd1] at kJ
    exact kJ
theorem ok_X4_load_j23 {l : Launch} {p : Program} {e : Env} {s : State} {m : MethodId} {args : Array Value} {below : List Frame} {meth : Method} {c : Code} {D : va_G} {cI cL : ClassId} {ad : Nat → Nat} (C : CX p l s m args meth c RX4 cX4_load 2 (some .int) D cI cL (AA ad s.heap.size)) (hex : ∀ x ∈ c.exceptionTable.toList, False) {r : (Int32 × Mm)} {μ : Mm}  (h : X4_load_j23 μ = some r) : AV l p e s m args below meth c D cI cL ad 7 2 (.inr (some (.int r.1))) r.2 23 [(0, .ref (ad 45))] [] μ := by
  unfold X4_load_j23 at h
  refine aw_iconst (pc := 23) C (v := 0) dX4_load_23 rfl ?_
  refine aw_sub [0] rfl ?_
  exact ok_X4_load_j24 C hex h
theorem ok_X4_load {l : Launch} (htr : l.stackTraces = false) {μ : Mm} {r : (Int32 × Mm)}  (h : X4_load μ = some r) : MetX l yX4_load cX4_load 2 (some .int) 7 (fun ad => [.ref (ad 45)]) μ (.inr (some (.int r.1))) r.2 := by
  refine MetX.of htr (by decide) rfl (fun ad => Nat.le_of_ble_eq_true rfl) (fun p e s m args below meth c D cI cL ad C hex hw => ?_)
  show AV l p e s m args below meth c D cI cL ad 7 2 (.inr (some (.int r.1))) r.2 0 [(0, .ref (ad 45))] [] μ
  unfold X4_load at h
  refine aw_aload_n (pc := 0) C dX4_load_0 rfl 0 rfl ?_
  refine aw_iconst (pc := 1) C (v := 0) dX4_load_1 rfl ?_
  obtain ⟨q2, μ3, hq1, h⟩ := bn_some h
  refine aw_Vi (pc := 2) (a := 45) (Bs := [.int 0]) C (ok_X4_read C.tr hq1) kv_X4_read q957 rfl rfl rfl rfl dX4_load_2 ⟨(show 7 ≤ 7 by decide), (show 208 ≤ 217 by decide)⟩ ⟨Nat.zero_le _, Nat.zero_le _⟩ [] (Nat.le_of_ble_eq_true rfl) rfl ?_
  refine aw_aload_n (pc := 5) C dX4_load_5 rfl 0 rfl ?_
  refine aw_get (pc := 6) C (a := 45) (k := 5) (v := .int (μ3.1 45 5)) inX4 rfl rfl (by decide) q745 dX4_load_6 rfl ?_
  refine aw_icmp_ne (pc := 9) C 23 dX4_load_9 rfl (fun hc => ?_) (fun hc => ?_)
  · replace h := ite_F h hc
    refine aw_sub [0] rfl ?_
    exact ok_X4_load_j23 C hex h
  · replace h := ite_T h hc
    refine aw_aload_n (pc := 12) C dX4_load_12 rfl 0 rfl ?_
    obtain ⟨q21, hq20, h⟩ := bi_some h
    refine aw_Vi (pc := 13) (a := 45) (Bs := []) C (ok_X4_canEnd C.tr hq20) kv_X4_canEnd q965 rfl rfl rfl rfl dX4_load_13 ⟨(show 1 ≤ 7 by decide), (show 20 ≤ 217 by decide)⟩ ⟨Nat.zero_le _, Nat.zero_le _⟩ [] (Nat.le_of_ble_eq_true rfl) rfl ?_
    have kJ : AV l p e s m args below meth c D cI cL ad 7 2 (.inr (some (.int r.1))) r.2 24 [(0, .ref (ad 45))] [.int (if q21 = 0 then (0 : Int32) else 1)] μ3 := by
      obtain ⟨x22, ex22, h⟩ := bd_some h
      refine aw_istore_n (pc := 24) C (x := x22) (lv' := [(1, .int x22), (0, .ref (ad 45))]) dX4_load_24 rfl (by decide) ex22 rfl ?_
      refine aw_aload_n (pc := 25) C dX4_load_25 rfl 1 rfl ?_
      refine aw_iload_n (pc := 26) C dX4_load_26 rfl 0 rfl ?_
      have kJ : AV l p e s m args below meth c D cI cL ad 7 2 (.inr (some (.int r.1))) r.2 35 [(1, .int x22), (0, .ref (ad 45))] [.int (if x22 = 0 then (1 : Int32) else 0), .ref (ad 45)] μ3 := by
        obtain ⟨μ23, eμ23, h⟩ := bd_some h
        refine aw_putI (pc := 35) C (a := 45) (k := 0) (ty := .int) inX4 tyX4 tyX4_ok nmX4 rfl rfl (by decide) q740 rfl (by decide +kernel) rfl rfl (by show 0 < 26; decide) dX4_load_35 fl_4_0 eμ23 ?_
        refine aw_aload_n (pc := 38) C dX4_load_38 rfl 1 rfl ?_
        refine aw_get (pc := 39) C (a := 45) (k := 0) (v := .int (μ23.1 45 0)) inX4 rfl rfl (by decide) q740 dX4_load_39 rfl ?_
        refine aw_if_le (pc := 42) C 47 dX4_load_42 rfl (fun hc => ?_) (fun hc => ?_)
        · replace h := ite_T h hc
          refine aw_aload_n (pc := 47) C dX4_load_47 rfl 1 rfl ?_
          refine aw_aload_n (pc := 48) C dX4_load_48 rfl 1 rfl ?_
          refine aw_get (pc := 49) C (a := 45) (k := 1) (v := .ref (ad 46)) inX4 rfl rfl (by decide) q741 dX4_load_49 rfl ?_
          refine aw_aload_n (pc := 52) C dX4_load_52 rfl 1 rfl ?_
          refine aw_get (pc := 53) C (a := 45) (k := 2) (v := .ref (ad 47)) inX4 rfl rfl (by decide) q742 dX4_load_53 rfl ?_
          obtain ⟨μ26, hq24, h⟩ := bi_some h
          refine aw_Vv (pc := 56) (a := 45) (Bs := [.ref (ad 46), .ref (ad 47)]) C (ok_X4_copy C.tr (isArr_of rfl) (isArr_of rfl) hq24) kv_X4_copy q1004 rfl rfl rfl rfl dX4_load_56 ⟨(show 1 ≤ 7 by decide), (show 23 ≤ 217 by decide)⟩ ⟨Nat.zero_le _, Nat.zero_le _⟩ [] (Nat.le_of_ble_eq_true rfl) rfl ?_
          refine aw_aload_n (pc := 59) C dX4_load_59 rfl 1 rfl ?_
          refine aw_iconst (pc := 60) C (v := 1) dX4_load_60 rfl ?_
          obtain ⟨q28, μ29, hq27, h⟩ := bn_some h
          refine aw_Vi (pc := 61) (a := 45) (Bs := [.int 1]) C (ok_X4_read C.tr hq27) kv_X4_read q957 rfl rfl rfl rfl dX4_load_61 ⟨(show 7 ≤ 7 by decide), (show 208 ≤ 217 by decide)⟩ ⟨Nat.zero_le _, Nat.zero_le _⟩ [] (Nat.le_of_ble_eq_true rfl) rfl ?_
          refine aw_pop (pc := 64) C dX4_load_64 rfl ?_
          refine aw_aload_n (pc := 65) C dX4_load_65 rfl 1 rfl ?_
          obtain ⟨μ32, hq30, h⟩ := bi_some h
          refine aw_Vv (pc := 66) (a := 45) (Bs := []) C (ok_X4_endItem C.tr hq30) kv_X4_endItem q969 rfl rfl rfl rfl dX4_load_66 ⟨(show 5 ≤ 7 by decide), (show 144 ≤ 217 by decide)⟩ ⟨Nat.zero_le _, Nat.zero_le _⟩ [] (Nat.le_of_ble_eq_true rfl) rfl ?_
          refine aw_aload_n (pc := 69) C dX4_load_69 rfl 1 rfl ?_
          refine aw_get (pc := 70) C (a := 45) (k := 21) (v := .int (μ32.1 45 21)) inX4 rfl rfl (by decide) q761 dX4_load_70 rfl ?_
          refine aw_if_eq (pc := 73) C 95 dX4_load_73 rfl (fun hc => ?_) (fun hc => ?_)
          · replace h := ite_T h hc
            refine aw_aload_n (pc := 95) C dX4_load_95 rfl 1 rfl ?_
            refine aw_iconst (pc := 96) C (v := 0) dX4_load_96 rfl ?_
            obtain ⟨μ33, eμ33, h⟩ := bd_some h
            refine aw_putI (pc := 97) C (a := 45) (k := 0) (ty := .int) inX4 tyX4 tyX4_ok nmX4 rfl rfl (by decide) q740 rfl (by decide +kernel) rfl rfl (by show 0 < 26; decide) dX4_load_97 fl_4_0 eμ33 ?_
            refine aw_aload_n (pc := 100) C dX4_load_100 rfl 1 rfl ?_
            refine aw_iconst (pc := 101) C (v := 0) dX4_load_101 rfl ?_
            obtain ⟨μ34, eμ34, h⟩ := bd_some h
            refine aw_putI (pc := 102) C (a := 45) (k := 5) (ty := .int) inX4 tyX4 tyX4_ok nmX4 rfl rfl (by decide) q745 rfl (by decide +kernel) rfl rfl (by show 5 < 26; decide) dX4_load_102 fl_4_5 eμ34 ?_
            refine aw_aload_n (pc := 105) C dX4_load_105 rfl 1 rfl ?_
            refine aw_get (pc := 106) C (a := 45) (k := 22) (v := .int (μ34.1 45 22)) inX4 rfl rfl (by decide) q762 dX4_load_106 rfl ?_
            cases h
            exact aw_iret (pc := 109) C dX4_load_109
          · replace h := ite_F h hc
            refine aw_aload_n (pc := 76) C dX4_load_76 rfl 1 rfl ?_
            refine aw_aload_n (pc := 77) C dX4_load_77 rfl 1 rfl ?_
            refine aw_get (pc := 78) C (a := 45) (k := 2) (v := .ref (ad 47)) inX4 rfl rfl (by decide) q742 dX4_load_78 rfl ?_
            refine aw_aload_n (pc := 81) C dX4_load_81 rfl 1 rfl ?_
            refine aw_get (pc := 82) C (a := 45) (k := 1) (v := .ref (ad 46)) inX4 rfl rfl (by decide) q741 dX4_load_82 rfl ?_
            obtain ⟨μ37, hq35, h⟩ := bi_some h
            refine aw_Vv (pc := 85) (a := 45) (Bs := [.ref (ad 47), .ref (ad 46)]) C (ok_X4_copy C.tr (isArr_of rfl) (isArr_of rfl) hq35) kv_X4_copy q1004 rfl rfl rfl rfl dX4_load_85 ⟨(show 1 ≤ 7 by decide), (show 23 ≤ 217 by decide)⟩ ⟨Nat.zero_le _, Nat.zero_le _⟩ [] (Nat.le_of_ble_eq_true rfl) rfl ?_
            refine aw_aload_n (pc := 88) C dX4_load_88 rfl 1 rfl ?_
            refine aw_iconst (pc := 89) C (v := 2) dX4_load_89 rfl ?_
            obtain ⟨μ38, eμ38, h⟩ := bd_some h
            refine aw_putI (pc := 90) C (a := 45) (k := 0) (ty := .int) inX4 tyX4 tyX4_ok nmX4 rfl rfl (by decide) q740 rfl (by decide +kernel) rfl rfl (by show 0 < 26; decide) dX4_load_90 fl_4_0 eμ38 ?_
            refine aw_iconst (pc := 93) C (v := 0) dX4_load_93 rfl ?_
            cases h
            exact aw_iret (pc := 94) C dX4_load_94
        · replace h := ite_F h hc
          refine aw_iconst (pc := 45) C (v := 0) dX4_load_45 rfl ?_
          cases h
          exact aw_iret (pc := 46) C dX4_load_46
      refine aw_if_eq (pc := 27) C 34 dX4_load_27 rfl (fun hd1 => ?_) (fun hd1 => ?_)
      · refine aw_iconst (pc := 34) C (v := 1) dX4_load_34 rfl ?_
        rw [if_pos hd1] at kJ
        exact kJ
      · refine aw_iconst (pc := 30) C (v := 0) dX4_load_30 rfl ?_
        refine aw_goto (pc := 31) C 35 dX4_load_31 rfl ?_
        rw [if_neg hd1] at kJ
        exact kJ
    refine aw_if_eq (pc := 16) C 23 dX4_load_16 rfl (fun hd1 => ?_) (fun hd1 => ?_)
    · refine aw_iconst (pc := 23) C (v := 0) dX4_load_23 rfl ?_
      rw [if_pos hd1] at kJ
      exact kJ
    · refine aw_iconst (pc := 19) C (v := 1) dX4_load_19 rfl ?_
      refine aw_goto (pc := 20) C 24 dX4_load_20 rfl ?_
      rw [if_neg hd1] at kJ
      exact kJ
/-! ### NameScopesModel.lowered(II)I -/
theorem ok_X4_lowered {l : Launch} (htr : l.stackTraces = false) {v0 : Int32} {v1 : Int32} {μ : Mm} {r : Int32}  (h : X4_lowered v0 v1 = some r) : MetX l yX4_lowered cX4_lowered 3 (some .int) 0 (fun ad => [.int v0, .int v1]) μ (.inr (some (.int r))) μ := by
  refine MetX.of htr (by decide) rfl (fun ad => Nat.le_of_ble_eq_true rfl) (fun p e s m args below meth c D cI cL ad C hex hw => ?_)
  show AV l p e s m args below meth c D cI cL ad 0 3 (.inr (some (.int r))) μ 0 [(0, .int v0), (1, .int v1)] [] μ
  unfold X4_lowered at h
  refine aw_iload_n (pc := 0) C dX4_lowered_0 rfl 0 rfl ?_
  refine aw_iload_n (pc := 1) C dX4_lowered_1 rfl 1 rfl ?_
  refine aw_ishr (pc := 2) C dX4_lowered_2 ?_
  refine aw_iconst (pc := 3) C (v := 1) dX4_lowered_3 rfl ?_
  refine aw_iand (pc := 4) C dX4_lowered_4 ?_
  refine aw_iconst (pc := 5) C (v := 1) dX4_lowered_5 rfl ?_
  refine aw_icmp_ne (pc := 6) C 11 dX4_lowered_6 rfl (fun hc => ?_) (fun hc => ?_)
  · replace h := ite_F h hc
    refine aw_iload_n (pc := 11) C dX4_lowered_11 rfl 0 rfl ?_
    refine aw_iconst (pc := 12) C (v := 1) dX4_lowered_12 rfl ?_
    refine aw_iload_n (pc := 13) C dX4_lowered_13 rfl 1 rfl ?_
    refine aw_ishl (pc := 14) C dX4_lowered_14 ?_
    refine aw_iconst (pc := 15) C (v := 1) dX4_lowered_15 rfl ?_
    refine aw_isub (pc := 16) C dX4_lowered_16 ?_
    refine aw_iand (pc := 17) C dX4_lowered_17 ?_
    obtain ⟨x1, ex1, h⟩ := bd_some h
    refine aw_istore_n (pc := 18) C (x := x1) (lv' := [(2, .int x1), (0, .int v0), (1, .int v1)]) dX4_lowered_18 rfl (by decide) ex1 rfl ?_
    refine aw_iload_n (pc := 19) C dX4_lowered_19 rfl 0 rfl ?_
    refine aw_iload_n (pc := 20) C dX4_lowered_20 rfl 1 rfl ?_
    refine aw_iload_n (pc := 21) C dX4_lowered_21 rfl 2 rfl ?_
    refine aw_iconst (pc := 22) C (v := 1) dX4_lowered_22 rfl ?_
    refine aw_iadd (pc := 23) C dX4_lowered_23 ?_
    refine aw_ishr (pc := 24) C dX4_lowered_24 ?_
    refine aw_iload_n (pc := 25) C dX4_lowered_25 rfl 2 rfl ?_
    refine aw_ishl (pc := 26) C dX4_lowered_26 ?_
    refine aw_ior (pc := 27) C dX4_lowered_27 ?_
    cases h
    exact aw_iret (pc := 28) C dX4_lowered_28
  · replace h := ite_T h hc
    refine aw_iconst (pc := 9) C (v := (-1)) dX4_lowered_9 rfl ?_
    cases h
    exact aw_iret (pc := 10) C dX4_lowered_10
/-! ### NameScopesModel.offers(II)I -/
theorem ok_X4_offers_j25 {l : Launch} {p : Program} {e : Env} {s : State} {m : MethodId} {args : Array Value} {below : List Frame} {meth : Method} {c : Code} {D : va_G} {cI cL : ClassId} {ad : Nat → Nat} (C : CX p l s m args meth c RX4 cX4_offers 3 (some .int) D cI cL (AA ad s.heap.size)) (hex : ∀ x ∈ c.exceptionTable.toList, False) {r : (Int32 × Mm)} {v1 : Int32} {v2 : Int32} {s0 : Int32} {μ : Mm}  (h : X4_offers_j25 v1 v2 s0 μ = some r) : AV l p e s m args below meth c D cI cL ad 5 3 (.inr (some (.int r.1))) r.2 25 [(0, .ref (ad 45)), (1, .int v1), (2, .int v2)] [.int s0, .ref (ad 45)] μ := by
  unfold X4_offers_j25 at h
  obtain ⟨μ13, eμ13, h⟩ := bd_some h
  refine aw_putI (pc := 25) C (a := 45) (k := 0) (ty := .int) inX4 tyX4 tyX4_ok nmX4 rfl rfl (by decide) q740 rfl (by decide +kernel) rfl rfl (by show 0 < 26; decide) dX4_offers_25 fl_4_0 eμ13 ?_
  refine aw_aload_n (pc := 28) C dX4_offers_28 rfl 0 rfl ?_
  refine aw_get (pc := 29) C (a := 45) (k := 0) (v := .int (μ13.1 45 0)) inX4 rfl rfl (by decide) q740 dX4_offers_29 rfl ?_
  refine aw_if_le (pc := 32) C 37 dX4_offers_32 rfl (fun hc => ?_) (fun hc => ?_)
  · replace h := ite_T h hc
    refine aw_aload_n (pc := 37) C dX4_offers_37 rfl 0 rfl ?_
    obtain ⟨μ16, hq14, h⟩ := bi_some h
    refine aw_Vv (pc := 38) (a := 45) (Bs := []) C (ok_X4_lay C.tr hq14) kv_X4_lay q906 rfl rfl rfl rfl dX4_offers_38 ⟨(show 5 ≤ 5 by decide), (show 145 ≤ 155 by decide)⟩ ⟨Nat.zero_le _, Nat.zero_le _⟩ [] (Nat.le_of_ble_eq_true rfl) rfl ?_
    refine aw_aload_n (pc := 41) C dX4_offers_41 rfl 0 rfl ?_
    refine aw_iload_n (pc := 42) C dX4_offers_42 rfl 1 rfl ?_
    refine aw_iload_n (pc := 43) C dX4_offers_43 rfl 2 rfl ?_
    obtain ⟨q18, hq17, h⟩ := bi_some h
    refine aw_Vi (pc := 44) (a := 45) (Bs := [.int v1, .int v2]) C (ok_X4_offer C.tr hq17) kv_X4_offer q926 rfl rfl rfl rfl dX4_offers_44 ⟨(show 1 ≤ 5 by decide), (show 22 ≤ 155 by decide)⟩ ⟨Nat.zero_le _, Nat.zero_le _⟩ [] (Nat.le_of_ble_eq_true rfl) rfl ?_
    obtain ⟨q20, hq19, h⟩ := bi_some h
    refine aw_Si (pc := 47) (Bs := [.int q18]) C (ok_X4_bits C.tr hq19) kv_X4_bits q1019 rfl rfl dX4_offers_47 ⟨(show 1 ≤ 5 by decide), (show 22 ≤ 155 by decide)⟩ ⟨Nat.zero_le _, Nat.zero_le _⟩ [] (Nat.le_of_ble_eq_true rfl) rfl ?_
    cases h
    exact aw_iret (pc := 50) C dX4_offers_50
  · replace h := ite_F h hc
    refine aw_iconst (pc := 35) C (v := 0) dX4_offers_35 rfl ?_
    cases h
    exact aw_iret (pc := 36) C dX4_offers_36
theorem ok_X4_offers {l : Launch} (htr : l.stackTraces = false) {v1 : Int32} {v2 : Int32} {μ : Mm} {r : (Int32 × Mm)}  (h : X4_offers v1 v2 μ = some r) : MetX l yX4_offers cX4_offers 3 (some .int) 5 (fun ad => [.ref (ad 45), .int v1, .int v2]) μ (.inr (some (.int r.1))) r.2 := by
  refine MetX.of htr (by decide) rfl (fun ad => Nat.le_of_ble_eq_true rfl) (fun p e s m args below meth c D cI cL ad C hex hw => ?_)
  show AV l p e s m args below meth c D cI cL ad 5 3 (.inr (some (.int r.1))) r.2 0 [(0, .ref (ad 45)), (1, .int v1), (2, .int v2)] [] μ
  unfold X4_offers at h
  refine aw_aload_n (pc := 0) C dX4_offers_0 rfl 0 rfl ?_
  refine aw_aload_n (pc := 1) C dX4_offers_1 rfl 0 rfl ?_
  refine aw_iload_n (pc := 2) C dX4_offers_2 rfl 1 rfl ?_
  obtain ⟨q2, hq1, h⟩ := bi_some h
  refine aw_Vi (pc := 3) (a := 45) (Bs := [.int v1]) C (ok_X4_isScope C.tr hq1) kv_X4_isScope q831 rfl rfl rfl rfl dX4_offers_3 ⟨(show 2 ≤ 5 by decide), (show 52 ≤ 155 by decide)⟩ ⟨Nat.zero_le _, Nat.zero_le _⟩ [.ref (ad 45)] (Nat.le_of_ble_eq_true rfl) rfl ?_
  refine aw_if_ne (pc := 6) C 13 dX4_offers_6 rfl (fun hc => ?_) (fun hc => ?_)
  · replace h := ite_F h hc
    refine aw_iload_n (pc := 13) C dX4_offers_13 rfl 2 rfl ?_
    obtain ⟨q4, hq3, h⟩ := bi_some h
    refine aw_Si (pc := 14) (Bs := [.int v2]) C (ok_X4_isName C.tr hq3) kv_X4_isName q842 rfl rfl dX4_offers_14 ⟨(show 2 ≤ 5 by decide), (show 51 ≤ 155 by decide)⟩ ⟨Nat.zero_le _, Nat.zero_le _⟩ [.ref (ad 45)] (Nat.le_of_ble_eq_true rfl) rfl ?_
    have kJ : AV l p e s m args below meth c D cI cL ad 5 3 (.inr (some (.int r.1))) r.2 25 [(0, .ref (ad 45)), (1, .int v1), (2, .int v2)] [.int (if q4 = 0 then (2 : Int32) else 0), .ref (ad 45)] μ := by
      obtain ⟨μ5, eμ5, h⟩ := bd_some h
      refine aw_putI (pc := 25) C (a := 45) (k := 0) (ty := .int) inX4 tyX4 tyX4_ok nmX4 rfl rfl (by decide) q740 rfl (by decide +kernel) rfl rfl (by show 0 < 26; decide) dX4_offers_25 fl_4_0 eμ5 ?_
      refine aw_aload_n (pc := 28) C dX4_offers_28 rfl 0 rfl ?_
      refine aw_get (pc := 29) C (a := 45) (k := 0) (v := .int (μ5.1 45 0)) inX4 rfl rfl (by decide) q740 dX4_offers_29 rfl ?_
      refine aw_if_le (pc := 32) C 37 dX4_offers_32 rfl (fun hc => ?_) (fun hc => ?_)
      · replace h := ite_T h hc
        refine aw_aload_n (pc := 37) C dX4_offers_37 rfl 0 rfl ?_
        obtain ⟨μ8, hq6, h⟩ := bi_some h
        refine aw_Vv (pc := 38) (a := 45) (Bs := []) C (ok_X4_lay C.tr hq6) kv_X4_lay q906 rfl rfl rfl rfl dX4_offers_38 ⟨(show 5 ≤ 5 by decide), (show 145 ≤ 155 by decide)⟩ ⟨Nat.zero_le _, Nat.zero_le _⟩ [] (Nat.le_of_ble_eq_true rfl) rfl ?_
        refine aw_aload_n (pc := 41) C dX4_offers_41 rfl 0 rfl ?_
        refine aw_iload_n (pc := 42) C dX4_offers_42 rfl 1 rfl ?_
        refine aw_iload_n (pc := 43) C dX4_offers_43 rfl 2 rfl ?_
        obtain ⟨q10, hq9, h⟩ := bi_some h
        refine aw_Vi (pc := 44) (a := 45) (Bs := [.int v1, .int v2]) C (ok_X4_offer C.tr hq9) kv_X4_offer q926 rfl rfl rfl rfl dX4_offers_44 ⟨(show 1 ≤ 5 by decide), (show 22 ≤ 155 by decide)⟩ ⟨Nat.zero_le _, Nat.zero_le _⟩ [] (Nat.le_of_ble_eq_true rfl) rfl ?_
        obtain ⟨q12, hq11, h⟩ := bi_some h
        refine aw_Si (pc := 47) (Bs := [.int q10]) C (ok_X4_bits C.tr hq11) kv_X4_bits q1019 rfl rfl dX4_offers_47 ⟨(show 1 ≤ 5 by decide), (show 22 ≤ 155 by decide)⟩ ⟨Nat.zero_le _, Nat.zero_le _⟩ [] (Nat.le_of_ble_eq_true rfl) rfl ?_
        cases h
        exact aw_iret (pc := 50) C dX4_offers_50
      · replace h := ite_F h hc
        refine aw_iconst (pc := 35) C (v := 0) dX4_offers_35 rfl ?_
        cases h
        exact aw_iret (pc := 36) C dX4_offers_36
    refine aw_if_eq (pc := 17) C 24 dX4_offers_17 rfl (fun hd1 => ?_) (fun hd1 => ?_)
    · refine aw_iconst (pc := 24) C (v := 2) dX4_offers_24 rfl ?_
      rw [if_pos hd1] at kJ
      exact kJ
    · refine aw_iconst (pc := 20) C (v := 0) dX4_offers_20 rfl ?_
      refine aw_goto (pc := 21) C 25 dX4_offers_21 rfl ?_
      rw [if_neg hd1] at kJ
      exact kJ
  · replace h := ite_T h hc
    refine aw_iconst (pc := 9) C (v := 1) dX4_offers_9 rfl ?_
    refine aw_goto (pc := 10) C 25 dX4_offers_10 rfl ?_
    refine aw_sub [0, 1, 2] rfl ?_
    exact ok_X4_offers_j25 C hex h
/-! ### NameScopesModel.parent(I)I -/
theorem ok_X4_parent {l : Launch} (htr : l.stackTraces = false) {v1 : Int32} {μ : Mm} {r : (Int32 × Mm)}  (h : X4_parent v1 μ = some r) : MetX l yX4_parent cX4_parent 2 (some .int) 2 (fun ad => [.ref (ad 45), .int v1]) μ (.inr (some (.int r.1))) r.2 := by
  refine MetX.of htr (by decide) rfl (fun ad => Nat.le_of_ble_eq_true rfl) (fun p e s m args below meth c D cI cL ad C hex hw => ?_)
  show AV l p e s m args below meth c D cI cL ad 2 2 (.inr (some (.int r.1))) r.2 0 [(0, .ref (ad 45)), (1, .int v1)] [] μ
  unfold X4_parent at h
  refine aw_aload_n (pc := 0) C dX4_parent_0 rfl 0 rfl ?_
  refine aw_aload_n (pc := 1) C dX4_parent_1 rfl 0 rfl ?_
  refine aw_iload_n (pc := 2) C dX4_parent_2 rfl 1 rfl ?_
  obtain ⟨q2, hq1, h⟩ := bi_some h
  refine aw_Vi (pc := 3) (a := 45) (Bs := [.int v1]) C (ok_X4_isScope C.tr hq1) kv_X4_isScope q831 rfl rfl rfl rfl dX4_parent_3 ⟨(show 2 ≤ 2 by decide), (show 52 ≤ 62 by decide)⟩ ⟨Nat.zero_le _, Nat.zero_le _⟩ [.ref (ad 45)] (Nat.le_of_ble_eq_true rfl) rfl ?_
  have kJ : AV l p e s m args below meth c D cI cL ad 2 2 (.inr (some (.int r.1))) r.2 14 [(0, .ref (ad 45)), (1, .int v1)] [.int (if q2 = 0 then (1 : Int32) else 0), .ref (ad 45)] μ := by
    obtain ⟨μ3, eμ3, h⟩ := bd_some h
    refine aw_putI (pc := 14) C (a := 45) (k := 0) (ty := .int) inX4 tyX4 tyX4_ok nmX4 rfl rfl (by decide) q740 rfl (by decide +kernel) rfl rfl (by show 0 < 26; decide) dX4_parent_14 fl_4_0 eμ3 ?_
    refine aw_aload_n (pc := 17) C dX4_parent_17 rfl 0 rfl ?_
    refine aw_get (pc := 18) C (a := 45) (k := 0) (v := .int (μ3.1 45 0)) inX4 rfl rfl (by decide) q740 dX4_parent_18 rfl ?_
    refine aw_if_le (pc := 21) C 28 dX4_parent_21 rfl (fun hc => ?_) (fun hc => ?_)
    · replace h := ite_T h hc
      refine aw_aload_n (pc := 28) C dX4_parent_28 rfl 0 rfl ?_
      refine aw_get (pc := 29) C (a := 45) (k := 1) (v := .ref (ad 46)) inX4 rfl rfl (by decide) q741 dX4_parent_29 rfl ?_
      refine aw_iconst (pc := 32) C (v := 4) dX4_parent_32 rfl ?_
      refine aw_iload_n (pc := 33) C dX4_parent_33 rfl 1 rfl ?_
      refine aw_iadd (pc := 34) C dX4_parent_34 ?_
      obtain ⟨g4, h⟩ := ck_some h
      refine aw_iaload (pc := 35) C (a := 46) rfl g4 dX4_parent_35 ?_
      cases h
      exact aw_iret (pc := 36) C dX4_parent_36
    · replace h := ite_F h hc
      refine aw_iconst (pc := 24) C (v := 0) dX4_parent_24 rfl ?_
      refine aw_goto (pc := 25) C 36 dX4_parent_25 rfl ?_
      cases h
      exact aw_iret (pc := 36) C dX4_parent_36
  refine aw_if_eq (pc := 6) C 13 dX4_parent_6 rfl (fun hd1 => ?_) (fun hd1 => ?_)
  · refine aw_iconst (pc := 13) C (v := 1) dX4_parent_13 rfl ?_
    rw [if_pos hd1] at kJ
    exact kJ
  · refine aw_iconst (pc := 9) C (v := 0) dX4_parent_9 rfl ?_
    refine aw_goto (pc := 10) C 14 dX4_parent_10 rfl ?_
    rw [if_neg hd1] at kJ
    exact kJ
/-! ### NameScopesModel.removes(II)I -/
theorem ok_X4_removes_j116 {l : Launch} {p : Program} {e : Env} {s : State} {m : MethodId} {args : Array Value} {below : List Frame} {meth : Method} {c : Code} {D : va_G} {cI cL : ClassId} {ad : Nat → Nat} (C : CX p l s m args meth c RX4 cX4_removes 4 (some .int) D cI cL (AA ad s.heap.size)) (hex : ∀ x ∈ c.exceptionTable.toList, False) {r : (Int32 × Mm)} {v1 : Int32} {v2 : Int32} {μ : Mm}  (h : X4_removes_j116 v1 v2 μ = some r) : AV l p e s m args below meth c D cI cL ad 9 4 (.inr (some (.int r.1))) r.2 116 [(0, .ref (ad 45))] [] μ := by
  unfold X4_removes_j116 at h
  refine aw_aload_n (pc := 116) C dX4_removes_116 rfl 0 rfl ?_
  obtain ⟨q9, μ10, hq8, h⟩ := bn_some h
  refine aw_Vi (pc := 117) (a := 45) (Bs := []) C (ok_X4_otherOutcomes C.tr hq8) kv_X4_otherOutcomes q941 rfl rfl rfl rfl dX4_removes_117 ⟨(show 9 ≤ 9 by decide), (show 270 ≤ 279 by decide)⟩ ⟨Nat.zero_le _, Nat.zero_le _⟩ [] (Nat.le_of_ble_eq_true rfl) rfl ?_
  cases h
  exact aw_iret (pc := 120) C dX4_removes_120
theorem ok_X4_removes_l74 {l : Launch} {p : Program} {e : Env} {s : State} {m : MethodId} {args : Array Value} {below : List Frame} {meth : Method} {c : Code} {D : va_G} {cI cL : ClassId} {ad : Nat → Nat} (C : CX p l s m args meth c RX4 cX4_removes 4 (some .int) D cI cL (AA ad s.heap.size)) (hex : ∀ x ∈ c.exceptionTable.toList, False) {r : (Int32 × Mm)} {v1 : Int32} {v2 : Int32} {k74 : Int32 → Mm → Option (Int32 × Mm)} (hk74 : ∀ (v3 : Int32) (μ : Mm), k74 v3 μ = some r → AV l p e s m args below meth c D cI cL ad 9 4 (.inr (some (.int r.1))) r.2 74 [(0, .ref (ad 45)), (2, .int v2), (3, .int v3)] [] μ) {v3 : Int32} {μ : Mm}  (h : X4_removes_l74 v1 v2 k74 v3 μ = some r) : AV l p e s m args below meth c D cI cL ad 9 4 (.inr (some (.int r.1))) r.2 74 [(0, .ref (ad 45)), (2, .int v2), (3, .int v3)] [] μ := by
  unfold X4_removes_l74 at h
  refine aw_iload_n (pc := 74) C dX4_removes_74 rfl 2 rfl ?_
  refine aw_aload_n (pc := 75) C dX4_removes_75 rfl 0 rfl ?_
  refine aw_get (pc := 76) C (a := 45) (k := 1) (v := .ref (ad 46)) inX4 rfl rfl (by decide) q741 dX4_removes_76 rfl ?_
  refine aw_iconst (pc := 79) C (v := 3) dX4_removes_79 rfl ?_
  obtain ⟨g4, h⟩ := ck_some h
  refine aw_iaload (pc := 80) C (a := 46) rfl g4 dX4_removes_80 ?_
  refine aw_iconst (pc := 81) C (v := 1) dX4_removes_81 rfl ?_
  refine aw_isub (pc := 82) C dX4_removes_82 ?_
  refine aw_icmp_ge (pc := 83) C 106 dX4_removes_83 rfl (fun hc => ?_) (fun hc => ?_)
  · replace h := ite_T h hc
    refine aw_aload_n (pc := 106) C dX4_removes_106 rfl 0 rfl ?_
    refine aw_sipush (pc := 107) C (v := 230) dX4_removes_107 rfl ?_
    refine aw_iconst (pc := 110) C (v := 2) dX4_removes_110 rfl ?_
    refine aw_iload_n (pc := 111) C dX4_removes_111 rfl 1 rfl ?_
    refine aw_iconst (pc := 112) C (v := 3) dX4_removes_112 rfl ?_
    obtain ⟨μ7, hq5, h⟩ := bi_some h
    refine aw_Vv (pc := 113) (a := 45) (Bs := [.int 230, .int 2, .int v2, .int 3]) C (ok_X4_cut C.tr hq5) kv_X4_cut q937 rfl rfl rfl rfl dX4_removes_113 ⟨(show 1 ≤ 9 by decide), (show 25 ≤ 279 by decide)⟩ ⟨Nat.zero_le _, Nat.zero_le _⟩ [] (Nat.le_of_ble_eq_true rfl) rfl ?_
    refine aw_sub [0] rfl ?_
    exact ok_X4_removes_j116 C hex h
  · replace h := ite_F h hc
    refine aw_aload_n (pc := 86) C dX4_removes_86 rfl 0 rfl ?_
    refine aw_get (pc := 87) C (a := 45) (k := 11) (v := .ref (ad 53)) inX4 rfl rfl (by decide) q751 dX4_removes_87 rfl ?_
    refine aw_iload_n (pc := 90) C dX4_removes_90 rfl 2 rfl ?_
    refine aw_aload_n (pc := 91) C dX4_removes_91 rfl 0 rfl ?_
    refine aw_get (pc := 92) C (a := 45) (k := 11) (v := .ref (ad 53)) inX4 rfl rfl (by decide) q751 dX4_removes_92 rfl ?_
    refine aw_iload_n (pc := 95) C dX4_removes_95 rfl 2 rfl ?_
    refine aw_iconst (pc := 96) C (v := 1) dX4_removes_96 rfl ?_
    refine aw_iadd (pc := 97) C dX4_removes_97 ?_
    obtain ⟨g11, h⟩ := ck_some h
    refine aw_iaload (pc := 98) C (a := 53) rfl g11 dX4_removes_98 ?_
    obtain ⟨g12, h⟩ := ck_some h
    obtain ⟨μ13, eμ13, h⟩ := bd_some h
    refine aw_iastore (pc := 99) C (a := 53) rfl g12 dX4_removes_99 eμ13 ?_
    refine aw_iinc (pc := 100) C (v := (v3 + 1)) (lv' := [(3, .int (v3 + 1)), (0, .ref (ad 45)), (2, .int v2)]) dX4_removes_100 2 rfl (by decide) rfl rfl ?_
    refine aw_goto (pc := 103) C 74 dX4_removes_103 rfl ?_
    refine aw_sub [1, 2, 0] rfl ?_
    exact hk74 (v3 + 1) μ13 h
theorem ok_X4_removes_l74_w {l : Launch} {p : Program} {e : Env} {s : State} {m : MethodId} {args : Array Value} {below : List Frame} {meth : Method} {c : Code} {D : va_G} {cI cL : ClassId} {ad : Nat → Nat} (C : CX p l s m args meth c RX4 cX4_removes 4 (some .int) D cI cL (AA ad s.heap.size)) (hex : ∀ x ∈ c.exceptionTable.toList, False) {r : (Int32 × Mm)} {v1 : Int32} {v2 : Int32} : ∀ (n : Nat) (v3 : Int32) (μ : Mm) , itr (X4_removes_l74 v1 v2) (fun _ _ => none) n v3 μ = some r → AV l p e s m args below meth c D cI cL ad 9 4 (.inr (some (.int r.1))) r.2 74 [(0, .ref (ad 45)), (2, .int v2), (3, .int v3)] [] μ := by
  intro n
  induction n with
  | zero => intro v3 μ h; exact nomatch (show (none : Option (Int32 × Mm)) = some r from h)
  | succ n ih => intro v3 μ h; exact ok_X4_removes_l74 C hex (v1 := v1) (v2 := v2) ih h
theorem ok_X4_removes_l10 {l : Launch} {p : Program} {e : Env} {s : State} {m : MethodId} {args : Array Value} {below : List Frame} {meth : Method} {c : Code} {D : va_G} {cI cL : ClassId} {ad : Nat → Nat} (C : CX p l s m args meth c RX4 cX4_removes 4 (some .int) D cI cL (AA ad s.heap.size)) (hex : ∀ x ∈ c.exceptionTable.toList, False) {r : (Int32 × Mm)} {v1 : Int32} {v2 : Int32} {k10 : Int32 → Mm → Option (Int32 × Mm)} (hk10 : ∀ (v3 : Int32) (μ : Mm), k10 v3 μ = some r → AV l p e s m args below meth c D cI cL ad 9 4 (.inr (some (.int r.1))) r.2 10 [(0, .ref (ad 45)), (2, .int v2), (3, .int v3)] [] μ) {v3 : Int32} {μ : Mm}  (h : X4_removes_l10 v1 v2 k10 v3 μ = some r) : AV l p e s m args below meth c D cI cL ad 9 4 (.inr (some (.int r.1))) r.2 10 [(0, .ref (ad 45)), (2, .int v2), (3, .int v3)] [] μ := by
  unfold X4_removes_l10 at h
  refine aw_iload_n (pc := 10) C dX4_removes_10 rfl 2 rfl ?_
  refine aw_aload_n (pc := 11) C dX4_removes_11 rfl 0 rfl ?_
  refine aw_get (pc := 12) C (a := 45) (k := 1) (v := .ref (ad 46)) inX4 rfl rfl (by decide) q741 dX4_removes_12 rfl ?_
  refine aw_iconst (pc := 15) C (v := 3) dX4_removes_15 rfl ?_
  obtain ⟨g17, h⟩ := ck_some h
  refine aw_iaload (pc := 16) C (a := 46) rfl g17 dX4_removes_16 ?_
  refine aw_icmp_ge (pc := 17) C 42 dX4_removes_17 rfl (fun hc => ?_) (fun hc => ?_)
  · replace h := ite_T h hc
    refine aw_aload_n (pc := 42) C dX4_removes_42 rfl 0 rfl ?_
    refine aw_bipush (pc := 43) C (v := 20) dX4_removes_43 rfl ?_
    refine aw_iconst (pc := 45) C (v := 3) dX4_removes_45 rfl ?_
    refine aw_iload_n (pc := 46) C dX4_removes_46 rfl 1 rfl ?_
    refine aw_iconst (pc := 47) C (v := 1) dX4_removes_47 rfl ?_
    obtain ⟨μ20, hq18, h⟩ := bi_some h
    refine aw_Vv (pc := 48) (a := 45) (Bs := [.int 20, .int 3, .int v2, .int 1]) C (ok_X4_cut C.tr hq18) kv_X4_cut q937 rfl rfl rfl rfl dX4_removes_48 ⟨(show 1 ≤ 9 by decide), (show 25 ≤ 279 by decide)⟩ ⟨Nat.zero_le _, Nat.zero_le _⟩ [] (Nat.le_of_ble_eq_true rfl) rfl ?_
    refine aw_goto (pc := 51) C 116 dX4_removes_51 rfl ?_
    refine aw_sub [0] rfl ?_
    exact ok_X4_removes_j116 C hex h
  · replace h := ite_F h hc
    refine aw_aload_n (pc := 20) C dX4_removes_20 rfl 0 rfl ?_
    refine aw_get (pc := 21) C (a := 45) (k := 11) (v := .ref (ad 53)) inX4 rfl rfl (by decide) q751 dX4_removes_21 rfl ?_
    refine aw_iload_n (pc := 24) C dX4_removes_24 rfl 2 rfl ?_
    refine aw_aload_n (pc := 25) C dX4_removes_25 rfl 0 rfl ?_
    refine aw_get (pc := 26) C (a := 45) (k := 11) (v := .ref (ad 53)) inX4 rfl rfl (by decide) q751 dX4_removes_26 rfl ?_
    refine aw_iload_n (pc := 29) C dX4_removes_29 rfl 2 rfl ?_
    obtain ⟨g21, h⟩ := ck_some h
    refine aw_iaload (pc := 30) C (a := 53) rfl g21 dX4_removes_30 ?_
    refine aw_iload_n (pc := 31) C dX4_removes_31 rfl 1 rfl ?_
    obtain ⟨q23, hq22, h⟩ := bi_some h
    refine aw_Si (pc := 32) (Bs := [.int (μ.1 53 (v3 : Int32).toNatClampNeg), .int v2]) C (ok_X4_lowered C.tr hq22) kv_X4_lowered q934 rfl rfl dX4_removes_32 ⟨(show 1 ≤ 9 by decide), (show 22 ≤ 279 by decide)⟩ ⟨Nat.zero_le _, Nat.zero_le _⟩ [.int v3, .ref (ad 53)] (Nat.le_of_ble_eq_true rfl) rfl ?_
    obtain ⟨g24, h⟩ := ck_some h
    obtain ⟨μ25, eμ25, h⟩ := bd_some h
    refine aw_iastore (pc := 35) C (a := 53) rfl g24 dX4_removes_35 eμ25 ?_
    refine aw_iinc (pc := 36) C (v := (v3 + 1)) (lv' := [(3, .int (v3 + 1)), (0, .ref (ad 45)), (2, .int v2)]) dX4_removes_36 2 rfl (by decide) rfl rfl ?_
    refine aw_goto (pc := 39) C 10 dX4_removes_39 rfl ?_
    refine aw_sub [1, 2, 0] rfl ?_
    exact hk10 (v3 + 1) μ25 h
theorem ok_X4_removes_l10_w {l : Launch} {p : Program} {e : Env} {s : State} {m : MethodId} {args : Array Value} {below : List Frame} {meth : Method} {c : Code} {D : va_G} {cI cL : ClassId} {ad : Nat → Nat} (C : CX p l s m args meth c RX4 cX4_removes 4 (some .int) D cI cL (AA ad s.heap.size)) (hex : ∀ x ∈ c.exceptionTable.toList, False) {r : (Int32 × Mm)} {v1 : Int32} {v2 : Int32} : ∀ (n : Nat) (v3 : Int32) (μ : Mm) , itr (X4_removes_l10 v1 v2) (fun _ _ => none) n v3 μ = some r → AV l p e s m args below meth c D cI cL ad 9 4 (.inr (some (.int r.1))) r.2 10 [(0, .ref (ad 45)), (2, .int v2), (3, .int v3)] [] μ := by
  intro n
  induction n with
  | zero => intro v3 μ h; exact nomatch (show (none : Option (Int32 × Mm)) = some r from h)
  | succ n ih => intro v3 μ h; exact ok_X4_removes_l10 C hex (v1 := v1) (v2 := v2) ih h
theorem ok_X4_removes {l : Launch} (htr : l.stackTraces = false) {v1 : Int32} {v2 : Int32} {μ : Mm} {r : (Int32 × Mm)}  (h : X4_removes v1 v2 μ = some r) : MetX l yX4_removes cX4_removes 4 (some .int) 9 (fun ad => [.ref (ad 45), .int v1, .int v2]) μ (.inr (some (.int r.1))) r.2 := by
  refine MetX.of htr (by decide) rfl (fun ad => Nat.le_of_ble_eq_true rfl) (fun p e s m args below meth c D cI cL ad C hex hw => ?_)
  show AV l p e s m args below meth c D cI cL ad 9 4 (.inr (some (.int r.1))) r.2 0 [(0, .ref (ad 45)), (1, .int v1), (2, .int v2)] [] μ
  unfold X4_removes at h
  refine aw_aload_n (pc := 0) C dX4_removes_0 rfl 0 rfl ?_
  obtain ⟨μ3, hq1, h⟩ := bi_some h
  refine aw_Vv (pc := 1) (a := 45) (Bs := []) C (ok_X4_layOutcomes C.tr hq1) kv_X4_layOutcomes q882 rfl rfl rfl rfl dX4_removes_1 ⟨(show 9 ≤ 9 by decide), (show 269 ≤ 279 by decide)⟩ ⟨Nat.zero_le _, Nat.zero_le _⟩ [] (Nat.le_of_ble_eq_true rfl) rfl ?_
  refine aw_iload_n (pc := 4) C dX4_removes_4 rfl 1 rfl ?_
  refine aw_if_ne (pc := 5) C 54 dX4_removes_5 rfl (fun hc => ?_) (fun hc => ?_)
  · replace h := ite_F h hc
    refine aw_iload_n (pc := 54) C dX4_removes_54 rfl 1 rfl ?_
    refine aw_iconst (pc := 55) C (v := 1) dX4_removes_55 rfl ?_
    refine aw_icmp_ne (pc := 56) C 72 dX4_removes_56 rfl (fun hc => ?_) (fun hc => ?_)
    · replace h := ite_F h hc
      refine aw_iload_n (pc := 72) C dX4_removes_72 rfl 2 rfl ?_
      refine aw_istore_n (pc := 73) C (x := v2) (lv' := [(3, .int v2), (0, .ref (ad 45)), (1, .int v1), (2, .int v2)]) dX4_removes_73 rfl (by decide) rfl rfl ?_
      refine aw_sub [1, 3, 0] rfl ?_
      exact ok_X4_removes_l74_w C hex big v2 μ3 h
    · replace h := ite_T h hc
      refine aw_aload_n (pc := 59) C dX4_removes_59 rfl 0 rfl ?_
      refine aw_bipush (pc := 60) C (v := 110) dX4_removes_60 rfl ?_
      refine aw_bipush (pc := 62) C (v := 6) dX4_removes_62 rfl ?_
      refine aw_iload_n (pc := 64) C dX4_removes_64 rfl 2 rfl ?_
      refine aw_iconst (pc := 65) C (v := 2) dX4_removes_65 rfl ?_
      obtain ⟨μ16, hq14, h⟩ := bi_some h
      refine aw_Vv (pc := 66) (a := 45) (Bs := [.int 110, .int 6, .int v2, .int 2]) C (ok_X4_cut C.tr hq14) kv_X4_cut q937 rfl rfl rfl rfl dX4_removes_66 ⟨(show 1 ≤ 9 by decide), (show 25 ≤ 279 by decide)⟩ ⟨Nat.zero_le _, Nat.zero_le _⟩ [] (Nat.le_of_ble_eq_true rfl) rfl ?_
      refine aw_goto (pc := 69) C 116 dX4_removes_69 rfl ?_
      refine aw_sub [0] rfl ?_
      exact ok_X4_removes_j116 C hex h
  · replace h := ite_T h hc
    refine aw_iconst (pc := 8) C (v := 0) dX4_removes_8 rfl ?_
    refine aw_istore_n (pc := 9) C (x := 0) (lv' := [(3, .int 0), (0, .ref (ad 45)), (1, .int v1), (2, .int v2)]) dX4_removes_9 rfl (by decide) rfl rfl ?_
    refine aw_sub [1, 3, 0] rfl ?_
    exact ok_X4_removes_l10_w C hex big 0 μ3 h
/-! ### NameScopesModel.remove(II)I -/
theorem ok_X4_remove_j37 {l : Launch} {p : Program} {e : Env} {s : State} {m : MethodId} {args : Array Value} {below : List Frame} {meth : Method} {c : Code} {D : va_G} {cI cL : ClassId} {ad : Nat → Nat} (C : CX p l s m args meth c RX4 cX4_remove 3 (some .int) D cI cL (AA ad s.heap.size)) (hex : ∀ x ∈ c.exceptionTable.toList, False) {r : (Int32 × Mm)} {v1 : Int32} {v2 : Int32} {s0 : Int32} {μ : Mm}  (h : X4_remove_j37 v1 v2 s0 μ = some r) : AV l p e s m args below meth c D cI cL ad 10 3 (.inr (some (.int r.1))) r.2 37 [(0, .ref (ad 45)), (1, .int v1), (2, .int v2)] [.int s0, .ref (ad 45)] μ := by
  unfold X4_remove_j37 at h
  obtain ⟨μ10, eμ10, h⟩ := bd_some h
  refine aw_putI (pc := 37) C (a := 45) (k := 0) (ty := .int) inX4 tyX4 tyX4_ok nmX4 rfl rfl (by decide) q740 rfl (by decide +kernel) rfl rfl (by show 0 < 26; decide) dX4_remove_37 fl_4_0 eμ10 ?_
  refine aw_aload_n (pc := 40) C dX4_remove_40 rfl 0 rfl ?_
  refine aw_get (pc := 41) C (a := 45) (k := 0) (v := .int (μ10.1 45 0)) inX4 rfl rfl (by decide) q740 dX4_remove_41 rfl ?_
  refine aw_if_le (pc := 44) C 51 dX4_remove_44 rfl (fun hc => ?_) (fun hc => ?_)
  · replace h := ite_T h hc
    refine aw_aload_n (pc := 51) C dX4_remove_51 rfl 0 rfl ?_
    refine aw_iload_n (pc := 52) C dX4_remove_52 rfl 1 rfl ?_
    refine aw_iload_n (pc := 53) C dX4_remove_53 rfl 2 rfl ?_
    obtain ⟨q12, μ13, hq11, h⟩ := bn_some h
    refine aw_Vi (pc := 54) (a := 45) (Bs := [.int v1, .int v2]) C (ok_X4_removes C.tr hq11) kv_X4_removes q878 rfl rfl rfl rfl dX4_remove_54 ⟨(show 10 ≤ 10 by decide), (show 302 ≤ 310 by decide)⟩ ⟨Nat.zero_le _, Nat.zero_le _⟩ [] (Nat.le_of_ble_eq_true rfl) rfl ?_
    cases h
    exact aw_iret (pc := 57) C dX4_remove_57
  · replace h := ite_F h hc
    refine aw_iconst (pc := 47) C (v := 0) dX4_remove_47 rfl ?_
    refine aw_goto (pc := 48) C 57 dX4_remove_48 rfl ?_
    cases h
    exact aw_iret (pc := 57) C dX4_remove_57
theorem ok_X4_remove {l : Launch} (htr : l.stackTraces = false) {v1 : Int32} {v2 : Int32} {μ : Mm} {r : (Int32 × Mm)}  (h : X4_remove v1 v2 μ = some r) : MetX l yX4_remove cX4_remove 3 (some .int) 10 (fun ad => [.ref (ad 45), .int v1, .int v2]) μ (.inr (some (.int r.1))) r.2 := by
  refine MetX.of htr (by decide) rfl (fun ad => Nat.le_of_ble_eq_true rfl) (fun p e s m args below meth c D cI cL ad C hex hw => ?_)
  show AV l p e s m args below meth c D cI cL ad 10 3 (.inr (some (.int r.1))) r.2 0 [(0, .ref (ad 45)), (1, .int v1), (2, .int v2)] [] μ
  unfold X4_remove at h
  refine aw_aload_n (pc := 0) C dX4_remove_0 rfl 0 rfl ?_
  refine aw_iload_n (pc := 1) C dX4_remove_1 rfl 1 rfl ?_
  refine aw_iconst (pc := 2) C (v := 0) dX4_remove_2 rfl ?_
  refine aw_iconst (pc := 3) C (v := 2) dX4_remove_3 rfl ?_
  obtain ⟨q2, hq1, h⟩ := bi_some h
  refine aw_Si (pc := 4) (Bs := [.int v1, .int 0, .int 2]) C (ok_X4_within C.tr hq1) kv_X4_within q835 rfl rfl dX4_remove_4 ⟨(show 1 ≤ 10 by decide), (show 22 ≤ 310 by decide)⟩ ⟨Nat.zero_le _, Nat.zero_le _⟩ [.ref (ad 45)] (Nat.le_of_ble_eq_true rfl) rfl ?_
  refine aw_if_ne (pc := 7) C 14 dX4_remove_7 rfl (fun hc => ?_) (fun hc => ?_)
  · replace h := ite_F h hc
    refine aw_iload_n (pc := 14) C dX4_remove_14 rfl 2 rfl ?_
    refine aw_iconst (pc := 15) C (v := 0) dX4_remove_15 rfl ?_
    refine aw_aload_n (pc := 16) C dX4_remove_16 rfl 0 rfl ?_
    refine aw_get (pc := 17) C (a := 45) (k := 1) (v := .ref (ad 46)) inX4 rfl rfl (by decide) q741 dX4_remove_17 rfl ?_
    refine aw_iconst (pc := 20) C (v := 1) dX4_remove_20 rfl ?_
    refine aw_iload_n (pc := 21) C dX4_remove_21 rfl 1 rfl ?_
    refine aw_iadd (pc := 22) C dX4_remove_22 ?_
    obtain ⟨g3, h⟩ := ck_some h
    refine aw_iaload (pc := 23) C (a := 46) rfl g3 dX4_remove_23 ?_
    refine aw_iconst (pc := 24) C (v := 1) dX4_remove_24 rfl ?_
    refine aw_isub (pc := 25) C dX4_remove_25 ?_
    obtain ⟨q5, hq4, h⟩ := bi_some h
    refine aw_Si (pc := 26) (Bs := [.int v2, .int 0, .int ((μ.1 46 ((1 + v1) : Int32).toNatClampNeg) - 1)]) C (ok_X4_within C.tr hq4) kv_X4_within q835 rfl rfl dX4_remove_26 ⟨(show 1 ≤ 10 by decide), (show 22 ≤ 310 by decide)⟩ ⟨Nat.zero_le _, Nat.zero_le _⟩ [.ref (ad 45)] (Nat.le_of_ble_eq_true rfl) rfl ?_
    have kJ : AV l p e s m args below meth c D cI cL ad 10 3 (.inr (some (.int r.1))) r.2 37 [(0, .ref (ad 45)), (1, .int v1), (2, .int v2)] [.int (if q5 = 0 then (2 : Int32) else 0), .ref (ad 45)] μ := by
      obtain ⟨μ6, eμ6, h⟩ := bd_some h
      refine aw_putI (pc := 37) C (a := 45) (k := 0) (ty := .int) inX4 tyX4 tyX4_ok nmX4 rfl rfl (by decide) q740 rfl (by decide +kernel) rfl rfl (by show 0 < 26; decide) dX4_remove_37 fl_4_0 eμ6 ?_
      refine aw_aload_n (pc := 40) C dX4_remove_40 rfl 0 rfl ?_
      refine aw_get (pc := 41) C (a := 45) (k := 0) (v := .int (μ6.1 45 0)) inX4 rfl rfl (by decide) q740 dX4_remove_41 rfl ?_
      refine aw_if_le (pc := 44) C 51 dX4_remove_44 rfl (fun hc => ?_) (fun hc => ?_)
      · replace h := ite_T h hc
        refine aw_aload_n (pc := 51) C dX4_remove_51 rfl 0 rfl ?_
        refine aw_iload_n (pc := 52) C dX4_remove_52 rfl 1 rfl ?_
        refine aw_iload_n (pc := 53) C dX4_remove_53 rfl 2 rfl ?_
        obtain ⟨q8, μ9, hq7, h⟩ := bn_some h
        refine aw_Vi (pc := 54) (a := 45) (Bs := [.int v1, .int v2]) C (ok_X4_removes C.tr hq7) kv_X4_removes q878 rfl rfl rfl rfl dX4_remove_54 ⟨(show 10 ≤ 10 by decide), (show 302 ≤ 310 by decide)⟩ ⟨Nat.zero_le _, Nat.zero_le _⟩ [] (Nat.le_of_ble_eq_true rfl) rfl ?_
        cases h
        exact aw_iret (pc := 57) C dX4_remove_57
      · replace h := ite_F h hc
        refine aw_iconst (pc := 47) C (v := 0) dX4_remove_47 rfl ?_
        refine aw_goto (pc := 48) C 57 dX4_remove_48 rfl ?_
        cases h
        exact aw_iret (pc := 57) C dX4_remove_57
    refine aw_if_eq (pc := 29) C 36 dX4_remove_29 rfl (fun hd1 => ?_) (fun hd1 => ?_)
    · refine aw_iconst (pc := 36) C (v := 2) dX4_remove_36 rfl ?_
      rw [if_pos hd1] at kJ
      exact kJ
    · refine aw_iconst (pc := 32) C (v := 0) dX4_remove_32 rfl ?_
      refine aw_goto (pc := 33) C 37 dX4_remove_33 rfl ?_
      rw [if_neg hd1] at kJ
      exact kJ
  · replace h := ite_T h hc
    refine aw_iconst (pc := 10) C (v := 1) dX4_remove_10 rfl ?_
    refine aw_goto (pc := 11) C 37 dX4_remove_11 rfl ?_
    refine aw_sub [0, 1, 2] rfl ?_
    exact ok_X4_remove_j37 C hex h
