/-! ### NameScopes$Layers.bringAll(LNameScopes$Facts;)V -/
theorem ok_X1_bringAll_l99 {l : Launch} {p : Program} {e : Env} {s : State} {m : MethodId} {args : Array Value} {below : List Frame} {meth : Method} {c : Code} {D : va_G} {cI cL : ClassId} {ad : Nat → Nat} (C : CX p l s m args meth c RX1 cX1_bringAll 7 none D cI cL (AA ad s.heap.size)) (hex : ∀ x ∈ c.exceptionTable.toList, False) {r : Mm} {a0 : Nat} {a1 : Nat} (ha0 : isL a0) (ha1 : isF a1) {k2 : Int32 → Mm → Option Mm} {k99 : Int32 → Int32 → Int32 → Int32 → Int32 → Mm → Option Mm} (hk2 : ∀ (v2 : Int32) (μ : Mm), k2 v2 μ = some r → AV l p e s m args below meth c D cI cL ad 0 7 (.inr none) r 2 [(0, .ref (ad a0)), (1, .ref (ad a1)), (2, .int v2)] [] μ) (hk99 : ∀ (v2 : Int32) (v3 : Int32) (v4 : Int32) (v5 : Int32) (v6 : Int32) (μ : Mm), k99 v2 v3 v4 v5 v6 μ = some r → AV l p e s m args below meth c D cI cL ad 0 7 (.inr none) r 99 [(0, .ref (ad a0)), (1, .ref (ad a1)), (2, .int v2), (3, .int v3), (4, .int v4), (5, .int v5), (6, .int v6)] [] μ) {v2 : Int32} {v3 : Int32} {v4 : Int32} {v5 : Int32} {v6 : Int32} {μ : Mm}  (h : X1_bringAll_l99 a0 a1 k2 k99 v2 v3 v4 v5 v6 μ = some r) : AV l p e s m args below meth c D cI cL ad 0 7 (.inr none) r 99 [(0, .ref (ad a0)), (1, .ref (ad a1)), (2, .int v2), (3, .int v3), (4, .int v4), (5, .int v5), (6, .int v6)] [] μ := by
  unfold X1_bringAll_l99 at h
  refine aw_iload (pc := 99) C dX1_bringAll_99 6 rfl ?_
  refine aw_bipush (pc := 101) C (v := 26) dX1_bringAll_101 rfl ?_
  refine aw_icmp_ge (pc := 103) C 152 dX1_bringAll_103 rfl (fun hc => ?_) (fun hc => ?_)
  · replace h := ite_T h hc
    refine aw_iinc (pc := 152) C (v := (v2 + 1)) (lv' := [(2, .int (v2 + 1)), (0, .ref (ad a0)), (1, .ref (ad a1)), (3, .int v3), (4, .int v4), (5, .int v5), (6, .int v6)]) dX1_bringAll_152 2 rfl (by decide) rfl rfl ?_
    refine aw_goto (pc := 155) C 2 dX1_bringAll_155 rfl ?_
    refine aw_sub [1, 2, 0] rfl ?_
    exact hk2 (v2 + 1) μ h
  · replace h := ite_F h hc
    refine aw_iload (pc := 106) C dX1_bringAll_106 5 rfl ?_
    refine aw_iload (pc := 108) C dX1_bringAll_108 6 rfl ?_
    refine aw_ishr (pc := 110) C dX1_bringAll_110 ?_
    refine aw_if_eq (pc := 111) C 152 dX1_bringAll_111 rfl (fun hc => ?_) (fun hc => ?_)
    · replace h := ite_T h hc
      refine aw_iinc (pc := 152) C (v := (v2 + 1)) (lv' := [(2, .int (v2 + 1)), (0, .ref (ad a0)), (1, .ref (ad a1)), (3, .int v3), (4, .int v4), (5, .int v5), (6, .int v6)]) dX1_bringAll_152 2 rfl (by decide) rfl rfl ?_
      refine aw_goto (pc := 155) C 2 dX1_bringAll_155 rfl ?_
      refine aw_sub [1, 2, 0] rfl ?_
      exact hk2 (v2 + 1) μ h
    · replace h := ite_F h hc
      refine aw_iload (pc := 114) C dX1_bringAll_114 5 rfl ?_
      refine aw_iload (pc := 116) C dX1_bringAll_116 6 rfl ?_
      refine aw_ishr (pc := 118) C dX1_bringAll_118 ?_
      refine aw_iconst (pc := 119) C (v := 1) dX1_bringAll_119 rfl ?_
      refine aw_iand (pc := 120) C dX1_bringAll_120 ?_
      refine aw_if_eq (pc := 121) C 146 dX1_bringAll_121 rfl (fun hc => ?_) (fun hc => ?_)
      · replace h := ite_T h hc
        refine aw_iinc (pc := 146) C (v := (v6 + 1)) (lv' := [(6, .int (v6 + 1)), (0, .ref (ad a0)), (1, .ref (ad a1)), (2, .int v2), (3, .int v3), (4, .int v4), (5, .int v5)]) dX1_bringAll_146 6 rfl (by decide) rfl rfl ?_
        refine aw_goto (pc := 149) C 99 dX1_bringAll_149 rfl ?_
        refine aw_sub [1, 2, 3, 4, 5, 6, 0] rfl ?_
        exact hk99 v2 v3 v4 v5 (v6 + 1) μ h
      · replace h := ite_F h hc
        refine aw_aload_n (pc := 124) C dX1_bringAll_124 rfl 0 rfl ?_
        refine aw_get (pc := 125) C (a := a0) (k := 3) (v := .ref (ad (a0 + 4))) inX1 (kdL_ ha0) rfl (by decide) q59 dX1_bringAll_125 rfl ?_
        refine aw_iload_n (pc := 128) C dX1_bringAll_128 rfl 3 rfl ?_
        refine aw_iload (pc := 129) C dX1_bringAll_129 6 rfl ?_
        refine aw_iadd (pc := 131) C dX1_bringAll_131 ?_
        refine aw_dup2 (pc := 132) C dX1_bringAll_132 rfl rfl ?_
        obtain ⟨g10, h⟩ := ck_some h
        refine aw_iaload (pc := 133) C (a := (a0 + 4)) ((kdLk (k := 4) ha0 rfl rfl)) g10 dX1_bringAll_133 ?_
        refine aw_aload_n (pc := 134) C dX1_bringAll_134 rfl 0 rfl ?_
        refine aw_get (pc := 135) C (a := a0) (k := 0) (v := .ref (ad (a0 + 1))) inX1 (kdL_ ha0) rfl (by decide) q51 dX1_bringAll_135 rfl ?_
        refine aw_iload (pc := 138) C dX1_bringAll_138 4 rfl ?_
        refine aw_iload (pc := 140) C dX1_bringAll_140 6 rfl ?_
        refine aw_iadd (pc := 142) C dX1_bringAll_142 ?_
        obtain ⟨g11, h⟩ := ck_some h
        refine aw_iaload (pc := 143) C (a := (a0 + 1)) ((kdLk (k := 1) ha0 rfl rfl)) g11 dX1_bringAll_143 ?_
        refine aw_ior (pc := 144) C dX1_bringAll_144 ?_
        obtain ⟨g12, h⟩ := ck_some h
        obtain ⟨μ13, eμ13, h⟩ := bd_some h
        refine aw_iastore (pc := 145) C (a := (a0 + 4)) ((kdLk (k := 4) ha0 rfl rfl)) g12 dX1_bringAll_145 eμ13 ?_
        refine aw_iinc (pc := 146) C (v := (v6 + 1)) (lv' := [(6, .int (v6 + 1)), (0, .ref (ad a0)), (1, .ref (ad a1)), (2, .int v2), (3, .int v3), (4, .int v4), (5, .int v5)]) dX1_bringAll_146 6 rfl (by decide) rfl rfl ?_
        refine aw_goto (pc := 149) C 99 dX1_bringAll_149 rfl ?_
        refine aw_sub [1, 2, 3, 4, 5, 6, 0] rfl ?_
        exact hk99 v2 v3 v4 v5 (v6 + 1) μ13 h
theorem ok_X1_bringAll_l99_w {l : Launch} {p : Program} {e : Env} {s : State} {m : MethodId} {args : Array Value} {below : List Frame} {meth : Method} {c : Code} {D : va_G} {cI cL : ClassId} {ad : Nat → Nat} (C : CX p l s m args meth c RX1 cX1_bringAll 7 none D cI cL (AA ad s.heap.size)) (hex : ∀ x ∈ c.exceptionTable.toList, False) {r : Mm} {a0 : Nat} {a1 : Nat} (ha0 : isL a0) (ha1 : isF a1) {k2 : Int32 → Mm → Option Mm} (hk2 : ∀ (v2 : Int32) (μ : Mm), k2 v2 μ = some r → AV l p e s m args below meth c D cI cL ad 0 7 (.inr none) r 2 [(0, .ref (ad a0)), (1, .ref (ad a1)), (2, .int v2)] [] μ) : ∀ (n : Nat) (v2 : Int32) (v3 : Int32) (v4 : Int32) (v5 : Int32) (v6 : Int32) (μ : Mm) , itr (X1_bringAll_l99 a0 a1 k2) (fun _ _ _ _ _ _ => none) n v2 v3 v4 v5 v6 μ = some r → AV l p e s m args below meth c D cI cL ad 0 7 (.inr none) r 99 [(0, .ref (ad a0)), (1, .ref (ad a1)), (2, .int v2), (3, .int v3), (4, .int v4), (5, .int v5), (6, .int v6)] [] μ := by
  intro n
  induction n with
  | zero => intro v2 v3 v4 v5 v6 μ h; exact nomatch (show (none : Option Mm) = some r from h)
  | succ n ih => intro v2 v3 v4 v5 v6 μ h; exact ok_X1_bringAll_l99 C hex (a0 := a0) (a1 := a1) ha0 ha1 hk2 ih h
theorem ok_X1_bringAll_l2 {l : Launch} {p : Program} {e : Env} {s : State} {m : MethodId} {args : Array Value} {below : List Frame} {meth : Method} {c : Code} {D : va_G} {cI cL : ClassId} {ad : Nat → Nat} (C : CX p l s m args meth c RX1 cX1_bringAll 7 none D cI cL (AA ad s.heap.size)) (hex : ∀ x ∈ c.exceptionTable.toList, False) {r : Mm} {a0 : Nat} {a1 : Nat} (ha0 : isL a0) (ha1 : isF a1) {k2 : Int32 → Mm → Option Mm} (hk2 : ∀ (v2 : Int32) (μ : Mm), k2 v2 μ = some r → AV l p e s m args below meth c D cI cL ad 0 7 (.inr none) r 2 [(0, .ref (ad a0)), (1, .ref (ad a1)), (2, .int v2)] [] μ) {v2 : Int32} {μ : Mm}  (h : X1_bringAll_l2 a0 a1 k2 v2 μ = some r) : AV l p e s m args below meth c D cI cL ad 0 7 (.inr none) r 2 [(0, .ref (ad a0)), (1, .ref (ad a1)), (2, .int v2)] [] μ := by
  unfold X1_bringAll_l2 at h
  refine aw_iload_n (pc := 2) C dX1_bringAll_2 rfl 2 rfl ?_
  refine aw_aload_n (pc := 3) C dX1_bringAll_3 rfl 1 rfl ?_
  refine aw_getN (pc := 4) C (a := a1) (k := 6) (v := .int (μ.1 a1 6)) inX0 (kdF ha1) rfl (by decide) q93 dX1_bringAll_4 rfl ?_
  refine aw_icmp_ge (pc := 7) C 158 dX1_bringAll_7 rfl (fun hc => ?_) (fun hc => ?_)
  · replace h := ite_T h hc
    cases h
    exact aw_vret (pc := 158) C dX1_bringAll_158
  · replace h := ite_F h hc
    refine aw_aload_n (pc := 10) C dX1_bringAll_10 rfl 1 rfl ?_
    refine aw_getN (pc := 11) C (a := a1) (k := 7) (v := .ref (ad (a1 + 5))) inX0 (kdF ha1) rfl (by decide) q96 dX1_bringAll_11 rfl ?_
    refine aw_iload_n (pc := 14) C dX1_bringAll_14 rfl 2 rfl ?_
    obtain ⟨g1, h⟩ := ck_some h
    refine aw_iaload (pc := 15) C (a := (a1 + 5)) ((kdFk (k := 5) ha1 rfl rfl)) g1 dX1_bringAll_15 ?_
    refine aw_bipush (pc := 16) C (v := 26) dX1_bringAll_16 rfl ?_
    refine aw_imul (pc := 18) C dX1_bringAll_18 ?_
    obtain ⟨x2, ex2, h⟩ := bd_some h
    refine aw_istore_n (pc := 19) C (x := x2) (lv' := [(3, .int x2), (0, .ref (ad a0)), (1, .ref (ad a1)), (2, .int v2)]) dX1_bringAll_19 rfl (by decide) ex2 rfl ?_
    refine aw_aload_n (pc := 20) C dX1_bringAll_20 rfl 2 rfl ?_
    refine aw_getN (pc := 21) C (a := a1) (k := 8) (v := .ref (ad (a1 + 6))) inX0 (kdF ha1) rfl (by decide) q99 dX1_bringAll_21 rfl ?_
    refine aw_iload_n (pc := 24) C dX1_bringAll_24 rfl 3 rfl ?_
    obtain ⟨g3, h⟩ := ck_some h
    refine aw_iaload (pc := 25) C (a := (a1 + 6)) ((kdFk (k := 6) ha1 rfl rfl)) g3 dX1_bringAll_25 ?_
    refine aw_bipush (pc := 26) C (v := 26) dX1_bringAll_26 rfl ?_
    refine aw_imul (pc := 28) C dX1_bringAll_28 ?_
    obtain ⟨x4, ex4, h⟩ := bd_some h
    refine aw_istore (pc := 29) C (x := x4) (lv' := [(4, .int x4), (3, .int x2), (0, .ref (ad a0)), (1, .ref (ad a1)), (2, .int v2)]) dX1_bringAll_29 (by decide) ex4 rfl ?_
    refine aw_aload_n (pc := 31) C dX1_bringAll_31 rfl 3 rfl ?_
    refine aw_getN (pc := 32) C (a := a1) (k := 9) (v := .ref (ad (a1 + 7))) inX0 (kdF ha1) rfl (by decide) q102 dX1_bringAll_32 rfl ?_
    refine aw_iload_n (pc := 35) C dX1_bringAll_35 rfl 4 rfl ?_
    obtain ⟨g5, h⟩ := ck_some h
    refine aw_iaload (pc := 36) C (a := (a1 + 7)) ((kdFk (k := 7) ha1 rfl rfl)) g5 dX1_bringAll_36 ?_
    refine aw_iconst (pc := 37) C (v := (-1)) dX1_bringAll_37 rfl ?_
    refine aw_icmp_eq (pc := 38) C 74 dX1_bringAll_38 rfl (fun hc => ?_) (fun hc => ?_)
    · replace h := ite_T h hc
      refine aw_aload_n (pc := 74) C dX1_bringAll_74 rfl 2 rfl ?_
      refine aw_get (pc := 75) C (a := a0) (k := 4) (v := .ref (ad (a0 + 5))) inX1 (kdL_ ha0) rfl (by decide) q61 dX1_bringAll_75 rfl ?_
      refine aw_aload_n (pc := 78) C dX1_bringAll_78 rfl 3 rfl ?_
      refine aw_getN (pc := 79) C (a := a1) (k := 8) (v := .ref (ad (a1 + 6))) inX0 (kdF ha1) rfl (by decide) q99 dX1_bringAll_79 rfl ?_
      refine aw_iload_n (pc := 82) C dX1_bringAll_82 rfl 4 rfl ?_
      obtain ⟨g6, h⟩ := ck_some h
      refine aw_iaload (pc := 83) C (a := (a1 + 6)) ((kdFk (k := 6) ha1 rfl rfl)) g6 dX1_bringAll_83 ?_
      obtain ⟨g7, h⟩ := ck_some h
      refine aw_iaload (pc := 84) C (a := (a0 + 5)) ((kdLk (k := 5) ha0 rfl rfl)) g7 dX1_bringAll_84 ?_
      refine aw_aload_n (pc := 85) C dX1_bringAll_85 rfl 3 rfl ?_
      refine aw_getN (pc := 86) C (a := a1) (k := 11) (v := .ref (ad (a1 + 9))) inX0 (kdF ha1) rfl (by decide) q108 dX1_bringAll_86 rfl ?_
      refine aw_iload_n (pc := 89) C dX1_bringAll_89 rfl 4 rfl ?_
      obtain ⟨g8, h⟩ := ck_some h
      refine aw_iaload (pc := 90) C (a := (a1 + 9)) ((kdFk (k := 9) ha1 rfl rfl)) g8 dX1_bringAll_90 ?_
      refine aw_iconst (pc := 91) C (v := (-1)) dX1_bringAll_91 rfl ?_
      refine aw_ixor (pc := 92) C dX1_bringAll_92 ?_
      refine aw_iand (pc := 93) C dX1_bringAll_93 ?_
      obtain ⟨x9, ex9, h⟩ := bd_some h
      refine aw_istore (pc := 94) C (x := x9) (lv' := [(5, .int x9), (4, .int x4), (3, .int x2), (0, .ref (ad a0)), (1, .ref (ad a1)), (2, .int v2)]) dX1_bringAll_94 (by decide) ex9 rfl ?_
      refine aw_iconst (pc := 96) C (v := 0) dX1_bringAll_96 rfl ?_
      refine aw_istore (pc := 97) C (x := 0) (lv' := [(6, .int 0), (5, .int x9), (4, .int x4), (3, .int x2), (0, .ref (ad a0)), (1, .ref (ad a1)), (2, .int v2)]) dX1_bringAll_97 (by decide) rfl rfl ?_
      refine aw_sub [4, 5, 6, 3, 2, 1, 0] rfl ?_
      exact ok_X1_bringAll_l99_w C hex ha0 ha1 hk2 big v2 x2 x4 x9 0 μ h
    · replace h := ite_F h hc
      refine aw_aload_n (pc := 41) C dX1_bringAll_41 rfl 2 rfl ?_
      refine aw_get (pc := 42) C (a := a0) (k := 2) (v := .ref (ad (a0 + 3))) inX1 (kdL_ ha0) rfl (by decide) q57 dX1_bringAll_42 rfl ?_
      refine aw_iload_n (pc := 45) C dX1_bringAll_45 rfl 1 rfl ?_
      refine aw_aload_n (pc := 46) C dX1_bringAll_46 rfl 3 rfl ?_
      refine aw_getN (pc := 47) C (a := a1) (k := 10) (v := .ref (ad (a1 + 8))) inX0 (kdF ha1) rfl (by decide) q105 dX1_bringAll_47 rfl ?_
      refine aw_iload_n (pc := 50) C dX1_bringAll_50 rfl 4 rfl ?_
      obtain ⟨g14, h⟩ := ck_some h
      refine aw_iaload (pc := 51) C (a := (a1 + 8)) ((kdFk (k := 8) ha1 rfl rfl)) g14 dX1_bringAll_51 ?_
      refine aw_iadd (pc := 52) C dX1_bringAll_52 ?_
      refine aw_dup2 (pc := 53) C dX1_bringAll_53 rfl rfl ?_
      obtain ⟨g15, h⟩ := ck_some h
      refine aw_iaload (pc := 54) C (a := (a0 + 3)) ((kdLk (k := 3) ha0 rfl rfl)) g15 dX1_bringAll_54 ?_
      refine aw_aload_n (pc := 55) C dX1_bringAll_55 rfl 2 rfl ?_
      refine aw_get (pc := 56) C (a := a0) (k := 0) (v := .ref (ad (a0 + 1))) inX1 (kdL_ ha0) rfl (by decide) q51 dX1_bringAll_56 rfl ?_
      refine aw_iload (pc := 59) C dX1_bringAll_59 0 rfl ?_
      refine aw_aload_n (pc := 61) C dX1_bringAll_61 rfl 3 rfl ?_
      refine aw_getN (pc := 62) C (a := a1) (k := 9) (v := .ref (ad (a1 + 7))) inX0 (kdF ha1) rfl (by decide) q102 dX1_bringAll_62 rfl ?_
      refine aw_iload_n (pc := 65) C dX1_bringAll_65 rfl 4 rfl ?_
      obtain ⟨g16, h⟩ := ck_some h
      refine aw_iaload (pc := 66) C (a := (a1 + 7)) ((kdFk (k := 7) ha1 rfl rfl)) g16 dX1_bringAll_66 ?_
      refine aw_iadd (pc := 67) C dX1_bringAll_67 ?_
      obtain ⟨g17, h⟩ := ck_some h
      refine aw_iaload (pc := 68) C (a := (a0 + 1)) ((kdLk (k := 1) ha0 rfl rfl)) g17 dX1_bringAll_68 ?_
      refine aw_ior (pc := 69) C dX1_bringAll_69 ?_
      obtain ⟨g18, h⟩ := ck_some h
      obtain ⟨μ19, eμ19, h⟩ := bd_some h
      refine aw_iastore (pc := 70) C (a := (a0 + 3)) ((kdLk (k := 3) ha0 rfl rfl)) g18 dX1_bringAll_70 eμ19 ?_
      refine aw_goto (pc := 71) C 152 dX1_bringAll_71 rfl ?_
      refine aw_iinc (pc := 152) C (v := (v2 + 1)) (lv' := [(2, .int (v2 + 1)), (4, .int x4), (3, .int x2), (0, .ref (ad a0)), (1, .ref (ad a1))]) dX1_bringAll_152 4 rfl (by decide) rfl rfl ?_
      refine aw_goto (pc := 155) C 2 dX1_bringAll_155 rfl ?_
      refine aw_sub [3, 4, 0] rfl ?_
      exact hk2 (v2 + 1) μ19 h
theorem ok_X1_bringAll_l2_w {l : Launch} {p : Program} {e : Env} {s : State} {m : MethodId} {args : Array Value} {below : List Frame} {meth : Method} {c : Code} {D : va_G} {cI cL : ClassId} {ad : Nat → Nat} (C : CX p l s m args meth c RX1 cX1_bringAll 7 none D cI cL (AA ad s.heap.size)) (hex : ∀ x ∈ c.exceptionTable.toList, False) {r : Mm} {a0 : Nat} {a1 : Nat} (ha0 : isL a0) (ha1 : isF a1) : ∀ (n : Nat) (v2 : Int32) (μ : Mm) , itr (X1_bringAll_l2 a0 a1) (fun _ _ => none) n v2 μ = some r → AV l p e s m args below meth c D cI cL ad 0 7 (.inr none) r 2 [(0, .ref (ad a0)), (1, .ref (ad a1)), (2, .int v2)] [] μ := by
  intro n
  induction n with
  | zero => intro v2 μ h; exact nomatch (show (none : Option Mm) = some r from h)
  | succ n ih => intro v2 μ h; exact ok_X1_bringAll_l2 C hex (a0 := a0) (a1 := a1) ha0 ha1 ih h
theorem ok_X1_bringAll {l : Launch} (htr : l.stackTraces = false) {a0 : Nat} {a1 : Nat} {μ : Mm} {r : Mm} (ha0 : isL a0) (ha1 : isF a1) (h : X1_bringAll a0 a1 μ = some r) : MetX l yX1_bringAll cX1_bringAll 7 none 0 (fun ad => [.ref (ad a0), .ref (ad a1)]) μ (.inr none) r := by
  refine MetX.of htr (by decide) rfl (fun ad => Nat.le_of_ble_eq_true rfl) (fun p e s m args below meth c D cI cL ad C hex hw => ?_)
  show AV l p e s m args below meth c D cI cL ad 0 7 (.inr none) r 0 [(0, .ref (ad a0)), (1, .ref (ad a1))] [] μ
  unfold X1_bringAll at h
  refine aw_iconst (pc := 0) C (v := 0) dX1_bringAll_0 rfl ?_
  refine aw_istore_n (pc := 1) C (x := 0) (lv' := [(2, .int 0), (0, .ref (ad a0)), (1, .ref (ad a1))]) dX1_bringAll_1 rfl (by decide) rfl rfl ?_
  refine aw_sub [1, 2, 0] rfl ?_
  exact ok_X1_bringAll_l2_w C hex ha0 ha1 big 0 μ h
/-! ### NameScopes$Facts.settle()V -/
theorem ok_X0_settle {l : Launch} (htr : l.stackTraces = false) {a0 : Nat} {μ : Mm} {r : Mm} (ha0 : isF a0) (h : X0_settle a0 μ = some r) : MetX l yX0_settle cX0_settle 1 none 2 (fun ad => [.ref (ad a0)]) μ (.inr none) r := by
  refine MetX.of htr (by decide) rfl (fun ad => Nat.le_of_ble_eq_true rfl) (fun p e s m args below meth c D cI cL ad C hex hw => ?_)
  show AV l p e s m args below meth c D cI cL ad 2 1 (.inr none) r 0 [(0, .ref (ad a0))] [] μ
  unfold X0_settle at h
  refine aw_aload_n (pc := 0) C dX0_settle_0 rfl 0 rfl ?_
  refine aw_get (pc := 1) C (a := a0) (k := 16) (v := .ref (ad (a0 + 13))) inX0 (kdF ha0) rfl (by decide) q119 dX0_settle_1 rfl ?_
  refine aw_iconst (pc := 4) C (v := (-1)) dX0_settle_4 rfl ?_
  obtain ⟨μ3, hq1, h⟩ := bi_some h
  refine aw_Sv (pc := 5) (Bs := [.ref (ad (a0 + 13)), .int (-1)]) C (ok_J7_fill_53178 C.tr (isArr_of ((kdFk (k := 13) ha0 rfl rfl))) hq1) kv_J7_fill_53178 q182 rfl rfl dX0_settle_5 ⟨(show 1 ≤ 2 by decide), (show 23 ≤ 62 by decide)⟩ ⟨Nat.zero_le _, Nat.zero_le _⟩ [] (Nat.le_of_ble_eq_true rfl) rfl ?_
  refine aw_aload_n (pc := 8) C dX0_settle_8 rfl 0 rfl ?_
  refine aw_get (pc := 9) C (a := a0) (k := 17) (v := .ref (ad (a0 + 14))) inX0 (kdF ha0) rfl (by decide) q121 dX0_settle_9 rfl ?_
  obtain ⟨μ6, hq4, h⟩ := bi_some h
  refine aw_Vv (pc := 12) (a := (a0 + 14)) (Bs := []) C (ok_X1_clear C.tr (isFL ha0) hq4) kv_X1_clear q185 (kdL_ (isFL ha0)) rfl rfl rfl dX0_settle_12 ⟨(show 2 ≤ 2 by decide), (show 51 ≤ 62 by decide)⟩ ⟨Nat.zero_le _, Nat.zero_le _⟩ [] (Nat.le_of_ble_eq_true rfl) rfl ?_
  refine aw_aload_n (pc := 15) C dX0_settle_15 rfl 0 rfl ?_
  refine aw_get (pc := 16) C (a := a0) (k := 17) (v := .ref (ad (a0 + 14))) inX0 (kdF ha0) rfl (by decide) q121 dX0_settle_16 rfl ?_
  refine aw_aload_n (pc := 19) C dX0_settle_19 rfl 0 rfl ?_
  obtain ⟨μ9, hq7, h⟩ := bi_some h
  refine aw_Vv (pc := 20) (a := (a0 + 14)) (Bs := [.ref (ad a0)]) C (ok_X1_placeDeclarations C.tr (isFL ha0) ha0 hq7) kv_X1_placeDeclarations q190 (kdL_ (isFL ha0)) rfl rfl rfl dX0_settle_20 ⟨(show 1 ≤ 2 by decide), (show 24 ≤ 62 by decide)⟩ ⟨Nat.zero_le _, Nat.zero_le _⟩ [] (Nat.le_of_ble_eq_true rfl) rfl ?_
  refine aw_aload_n (pc := 23) C dX0_settle_23 rfl 0 rfl ?_
  refine aw_get (pc := 24) C (a := a0) (k := 17) (v := .ref (ad (a0 + 14))) inX0 (kdF ha0) rfl (by decide) q121 dX0_settle_24 rfl ?_
  refine aw_aload_n (pc := 27) C dX0_settle_27 rfl 0 rfl ?_
  obtain ⟨μ12, hq10, h⟩ := bi_some h
  refine aw_Vv (pc := 28) (a := (a0 + 14)) (Bs := [.ref (ad a0)]) C (ok_X1_passOnAll C.tr (isFL ha0) ha0 hq10) kv_X1_passOnAll q194 (kdL_ (isFL ha0)) rfl rfl rfl dX0_settle_28 ⟨(show 2 ≤ 2 by decide), (show 57 ≤ 62 by decide)⟩ ⟨Nat.zero_le _, Nat.zero_le _⟩ [] (Nat.le_of_ble_eq_true rfl) rfl ?_
  refine aw_aload_n (pc := 31) C dX0_settle_31 rfl 0 rfl ?_
  refine aw_get (pc := 32) C (a := a0) (k := 17) (v := .ref (ad (a0 + 14))) inX0 (kdF ha0) rfl (by decide) q121 dX0_settle_32 rfl ?_
  refine aw_aload_n (pc := 35) C dX0_settle_35 rfl 0 rfl ?_
  obtain ⟨μ15, hq13, h⟩ := bi_some h
  refine aw_Vv (pc := 36) (a := (a0 + 14)) (Bs := [.ref (ad a0)]) C (ok_X1_bringAll C.tr (isFL ha0) ha0 hq13) kv_X1_bringAll q203 (kdL_ (isFL ha0)) rfl rfl rfl dX0_settle_36 ⟨(show 1 ≤ 2 by decide), (show 26 ≤ 62 by decide)⟩ ⟨Nat.zero_le _, Nat.zero_le _⟩ [] (Nat.le_of_ble_eq_true rfl) rfl ?_
  cases h
  exact aw_vret (pc := 39) C dX0_settle_39
/-! ### NameScopes$Facts.stateOfUse(I)I -/
theorem ok_X0_stateOfUse {l : Launch} (htr : l.stackTraces = false) {a0 : Nat} {v1 : Int32} {μ : Mm} {r : Int32} (ha0 : isF a0) (h : X0_stateOfUse a0 v1 μ = some r) : MetX l yX0_stateOfUse cX0_stateOfUse 4 (some .int) 2 (fun ad => [.ref (ad a0), .int v1]) μ (.inr (some (.int r))) μ := by
  refine MetX.of htr (by decide) rfl (fun ad => Nat.le_of_ble_eq_true rfl) (fun p e s m args below meth c D cI cL ad C hex hw => ?_)
  show AV l p e s m args below meth c D cI cL ad 2 4 (.inr (some (.int r))) μ 0 [(0, .ref (ad a0)), (1, .int v1)] [] μ
  unfold X0_stateOfUse at h
  refine aw_aload_n (pc := 0) C dX0_stateOfUse_0 rfl 0 rfl ?_
  refine aw_iload_n (pc := 1) C dX0_stateOfUse_1 rfl 1 rfl ?_
  obtain ⟨q2, hq1, h⟩ := bi_some h
  refine aw_Vi (pc := 2) (a := a0) (Bs := [.int v1]) C (ok_X0_outcome C.tr ha0 hq1) kv_X0_outcome q237 (kdF ha0) rfl rfl rfl dX0_stateOfUse_2 ⟨(show 2 ≤ 2 by decide), (show 52 ≤ 62 by decide)⟩ ⟨Nat.zero_le _, Nat.zero_le _⟩ [] (Nat.le_of_ble_eq_true rfl) rfl ?_
  obtain ⟨q4, hq3, h⟩ := bi_some h
  refine aw_Si (pc := 5) (Bs := [.int q2]) C (ok_J6_bitCount_0f7a4 C.tr hq3) kv_J6_bitCount_0f7a4 q245 rfl rfl dX0_stateOfUse_5 ⟨(show 1 ≤ 2 by decide), (show 20 ≤ 62 by decide)⟩ ⟨Nat.zero_le _, Nat.zero_le _⟩ [] (Nat.le_of_ble_eq_true rfl) rfl ?_
  refine aw_istore_n (pc := 8) C (x := q4) (lv' := [(2, .int q4), (0, .ref (ad a0)), (1, .int v1)]) dX0_stateOfUse_8 rfl (by decide) rfl rfl ?_
  refine aw_iload_n (pc := 9) C dX0_stateOfUse_9 rfl 0 rfl ?_
  refine aw_iconst (pc := 10) C (v := 2) dX0_stateOfUse_10 rfl ?_
  refine aw_icmp_ge (pc := 11) C 18 dX0_stateOfUse_11 rfl (fun hc => ?_) (fun hc => ?_)
  · replace h := ite_T h hc
    refine aw_aload_n (pc := 18) C dX0_stateOfUse_18 rfl 1 rfl ?_
    refine aw_aload_n (pc := 19) C dX0_stateOfUse_19 rfl 1 rfl ?_
    refine aw_get (pc := 20) C (a := a0) (k := 14) (v := .ref (ad (a0 + 11))) inX0 (kdF ha0) rfl (by decide) q115 dX0_stateOfUse_20 rfl ?_
    refine aw_iload_n (pc := 23) C dX0_stateOfUse_23 rfl 2 rfl ?_
    obtain ⟨g5, h⟩ := ck_some h
    refine aw_iaload (pc := 24) C (a := (a0 + 11)) ((kdFk (k := 11) ha0 rfl rfl)) g5 dX0_stateOfUse_24 ?_
    refine aw_aload_n (pc := 25) C dX0_stateOfUse_25 rfl 1 rfl ?_
    refine aw_get (pc := 26) C (a := a0) (k := 15) (v := .ref (ad (a0 + 12))) inX0 (kdF ha0) rfl (by decide) q117 dX0_stateOfUse_26 rfl ?_
    refine aw_iload_n (pc := 29) C dX0_stateOfUse_29 rfl 2 rfl ?_
    obtain ⟨g6, h⟩ := ck_some h
    refine aw_iaload (pc := 30) C (a := (a0 + 12)) ((kdFk (k := 12) ha0 rfl rfl)) g6 dX0_stateOfUse_30 ?_
    refine aw_iconst (pc := 31) C (v := 0) dX0_stateOfUse_31 rfl ?_
    obtain ⟨q8, hq7, h⟩ := bi_some h
    refine aw_Vi (pc := 32) (a := a0) (Bs := [.int (μ.1 (a0 + 11) (v1 : Int32).toNatClampNeg), .int (μ.1 (a0 + 12) (v1 : Int32).toNatClampNeg), .int 0]) C (ok_X0_placeOfLayer C.tr ha0 hq7) kv_X0_placeOfLayer q251 (kdF ha0) rfl rfl rfl dX0_stateOfUse_32 ⟨(show 2 ≤ 2 by decide), (show 57 ≤ 62 by decide)⟩ ⟨Nat.zero_le _, Nat.zero_le _⟩ [] (Nat.le_of_ble_eq_true rfl) rfl ?_
    refine aw_istore_n (pc := 35) C (x := q8) (lv' := [(3, .int q8), (2, .int q4), (0, .ref (ad a0)), (1, .int v1)]) dX0_stateOfUse_35 rfl (by decide) rfl rfl ?_
    refine aw_iload_n (pc := 36) C dX0_stateOfUse_36 rfl 0 rfl ?_
    refine aw_iconst (pc := 37) C (v := 3) dX0_stateOfUse_37 rfl ?_
    refine aw_irem (pc := 38) C dX0_stateOfUse_38 (by decide) ?_
    refine aw_iconst (pc := 39) C (v := 1) dX0_stateOfUse_39 rfl ?_
    have kJ : AV l p e s m args below meth c D cI cL ad 2 4 (.inr (some (.int r))) μ 48 [(3, .int q8), (2, .int q4), (0, .ref (ad a0)), (1, .int v1)] [.int (if (q8 - q8 / 3 * 3) = 1 then (2 : Int32) else 3)] μ := by
      cases h
      exact aw_iret (pc := 48) C dX0_stateOfUse_48
    refine aw_icmp_ne (pc := 40) C 47 dX0_stateOfUse_40 rfl (fun hd1 => ?_) (fun hd1 => ?_)
    · refine aw_iconst (pc := 47) C (v := 3) dX0_stateOfUse_47 rfl ?_
      rw [if_neg hd1] at kJ
      exact kJ
    · refine aw_iconst (pc := 43) C (v := 2) dX0_stateOfUse_43 rfl ?_
      refine aw_goto (pc := 44) C 48 dX0_stateOfUse_44 rfl ?_
      rw [if_pos hd1] at kJ
      exact kJ
  · replace h := ite_F h hc
    refine aw_iconst (pc := 14) C (v := 1) dX0_stateOfUse_14 rfl ?_
    refine aw_iload_n (pc := 15) C dX0_stateOfUse_15 rfl 0 rfl ?_
    refine aw_isub (pc := 16) C dX0_stateOfUse_16 ?_
    cases h
    exact aw_iret (pc := 17) C dX0_stateOfUse_17
/-! ### NameScopes$Facts.unusedDeclarations()I -/
theorem ok_X0_unusedDeclarations_l4 {l : Launch} {p : Program} {e : Env} {s : State} {m : MethodId} {args : Array Value} {below : List Frame} {meth : Method} {c : Code} {D : va_G} {cI cL : ClassId} {ad : Nat → Nat} (C : CX p l s m args meth c RX0 cX0_unusedDeclarations 4 (some .int) D cI cL (AA ad s.heap.size)) (hex : ∀ x ∈ c.exceptionTable.toList, False) {r : Int32} {a0 : Nat} {μ : Mm} (ha0 : isF a0) {k4 : Int32 → Int32 → Option Int32} (hk4 : ∀ (v1 : Int32) (v2 : Int32), k4 v1 v2 = some r → AV l p e s m args below meth c D cI cL ad 2 4 (.inr (some (.int r))) μ 4 [(0, .ref (ad a0)), (1, .int v1), (2, .int v2)] [] μ) {v1 : Int32} {v2 : Int32}  (h : X0_unusedDeclarations_l4 a0 μ k4 v1 v2 = some r) : AV l p e s m args below meth c D cI cL ad 2 4 (.inr (some (.int r))) μ 4 [(0, .ref (ad a0)), (1, .int v1), (2, .int v2)] [] μ := by
  unfold X0_unusedDeclarations_l4 at h
  refine aw_iload_n (pc := 4) C dX0_unusedDeclarations_4 rfl 2 rfl ?_
  refine aw_aload_n (pc := 5) C dX0_unusedDeclarations_5 rfl 0 rfl ?_
  refine aw_get (pc := 6) C (a := a0) (k := 13) (v := .int (μ.1 a0 13)) inX0 (kdF ha0) rfl (by decide) q113 dX0_unusedDeclarations_6 rfl ?_
  refine aw_icmp_ge (pc := 9) C 40 dX0_unusedDeclarations_9 rfl (fun hc => ?_) (fun hc => ?_)
  · replace h := ite_T h hc
    refine aw_aload_n (pc := 40) C dX0_unusedDeclarations_40 rfl 0 rfl ?_
    refine aw_get (pc := 41) C (a := a0) (k := 2) (v := .int (μ.1 a0 2)) inX0 (kdF ha0) rfl (by decide) q80 dX0_unusedDeclarations_41 rfl ?_
    refine aw_iload_n (pc := 44) C dX0_unusedDeclarations_44 rfl 1 rfl ?_
    obtain ⟨q2, hq1, h⟩ := bi_some h
    refine aw_Si (pc := 45) (Bs := [.int v1]) C (ok_J6_bitCount_0f7a4 C.tr hq1) kv_J6_bitCount_0f7a4 q245 rfl rfl dX0_unusedDeclarations_45 ⟨(show 1 ≤ 2 by decide), (show 20 ≤ 62 by decide)⟩ ⟨Nat.zero_le _, Nat.zero_le _⟩ [.int (μ.1 a0 2)] (Nat.le_of_ble_eq_true rfl) rfl ?_
    refine aw_isub (pc := 48) C dX0_unusedDeclarations_48 ?_
    cases h
    exact aw_iret (pc := 49) C dX0_unusedDeclarations_49
  · replace h := ite_F h hc
    refine aw_aload_n (pc := 12) C dX0_unusedDeclarations_12 rfl 0 rfl ?_
    refine aw_iload_n (pc := 13) C dX0_unusedDeclarations_13 rfl 2 rfl ?_
    obtain ⟨q4, hq3, h⟩ := bi_some h
    refine aw_Vi (pc := 14) (a := a0) (Bs := [.int v2]) C (ok_X0_outcome C.tr ha0 hq3) kv_X0_outcome q237 (kdF ha0) rfl rfl rfl dX0_unusedDeclarations_14 ⟨(show 2 ≤ 2 by decide), (show 52 ≤ 62 by decide)⟩ ⟨Nat.zero_le _, Nat.zero_le _⟩ [] (Nat.le_of_ble_eq_true rfl) rfl ?_
    refine aw_istore_n (pc := 17) C (x := q4) (lv' := [(3, .int q4), (0, .ref (ad a0)), (1, .int v1), (2, .int v2)]) dX0_unusedDeclarations_17 rfl (by decide) rfl rfl ?_
    refine aw_iload_n (pc := 18) C dX0_unusedDeclarations_18 rfl 2 rfl ?_
    refine aw_iload_n (pc := 19) C dX0_unusedDeclarations_19 rfl 0 rfl ?_
    obtain ⟨q6, hq5, h⟩ := bi_some h
    refine aw_Si (pc := 20) (Bs := [.int q4]) C (ok_J6_bitCount_0f7a4 C.tr hq5) kv_J6_bitCount_0f7a4 q245 rfl rfl dX0_unusedDeclarations_20 ⟨(show 1 ≤ 2 by decide), (show 20 ≤ 62 by decide)⟩ ⟨Nat.zero_le _, Nat.zero_le _⟩ [.int v1] (Nat.le_of_ble_eq_true rfl) rfl ?_
    refine aw_iconst (pc := 23) C (v := 1) dX0_unusedDeclarations_23 rfl ?_
    have kJ : AV l p e s m args below meth c D cI cL ad 2 4 (.inr (some (.int r))) μ 32 [(3, .int q4), (0, .ref (ad a0)), (1, .int v1), (2, .int v2)] [.int (if q6 = 1 then (q4 : Int32) else 0), .int v1] μ := by
      refine aw_ior (pc := 32) C dX0_unusedDeclarations_32 ?_
      obtain ⟨x7, ex7, h⟩ := bd_some h
      refine aw_istore_n (pc := 33) C (x := x7) (lv' := [(1, .int x7), (3, .int q4), (0, .ref (ad a0)), (2, .int v2)]) dX0_unusedDeclarations_33 rfl (by decide) ex7 rfl ?_
      refine aw_iinc (pc := 34) C (v := (v2 + 1)) (lv' := [(2, .int (v2 + 1)), (1, .int x7), (3, .int q4), (0, .ref (ad a0))]) dX0_unusedDeclarations_34 3 rfl (by decide) rfl rfl ?_
      refine aw_goto (pc := 37) C 4 dX0_unusedDeclarations_37 rfl ?_
      refine aw_sub [3, 1, 0] rfl ?_
      exact hk4 x7 (v2 + 1) h
    refine aw_icmp_ne (pc := 24) C 31 dX0_unusedDeclarations_24 rfl (fun hd1 => ?_) (fun hd1 => ?_)
    · refine aw_iconst (pc := 31) C (v := 0) dX0_unusedDeclarations_31 rfl ?_
      rw [if_neg hd1] at kJ
      exact kJ
    · refine aw_iload_n (pc := 27) C dX0_unusedDeclarations_27 rfl 0 rfl ?_
      refine aw_goto (pc := 28) C 32 dX0_unusedDeclarations_28 rfl ?_
      rw [if_pos hd1] at kJ
      exact kJ
theorem ok_X0_unusedDeclarations_l4_w {l : Launch} {p : Program} {e : Env} {s : State} {m : MethodId} {args : Array Value} {below : List Frame} {meth : Method} {c : Code} {D : va_G} {cI cL : ClassId} {ad : Nat → Nat} (C : CX p l s m args meth c RX0 cX0_unusedDeclarations 4 (some .int) D cI cL (AA ad s.heap.size)) (hex : ∀ x ∈ c.exceptionTable.toList, False) {r : Int32} {a0 : Nat} {μ : Mm} (ha0 : isF a0) : ∀ (n : Nat) (v1 : Int32) (v2 : Int32) , itr (X0_unusedDeclarations_l4 a0 μ) (fun _ _ => none) n v1 v2 = some r → AV l p e s m args below meth c D cI cL ad 2 4 (.inr (some (.int r))) μ 4 [(0, .ref (ad a0)), (1, .int v1), (2, .int v2)] [] μ := by
  intro n
  induction n with
  | zero => intro v1 v2 h; exact nomatch (show (none : Option Int32) = some r from h)
  | succ n ih => intro v1 v2 h; exact ok_X0_unusedDeclarations_l4 C hex (a0 := a0) (μ := μ) ha0 ih h
theorem ok_X0_unusedDeclarations {l : Launch} (htr : l.stackTraces = false) {a0 : Nat} {μ : Mm} {r : Int32} (ha0 : isF a0) (h : X0_unusedDeclarations a0 μ = some r) : MetX l yX0_unusedDeclarations cX0_unusedDeclarations 4 (some .int) 2 (fun ad => [.ref (ad a0)]) μ (.inr (some (.int r))) μ := by
  refine MetX.of htr (by decide) rfl (fun ad => Nat.le_of_ble_eq_true rfl) (fun p e s m args below meth c D cI cL ad C hex hw => ?_)
  show AV l p e s m args below meth c D cI cL ad 2 4 (.inr (some (.int r))) μ 0 [(0, .ref (ad a0))] [] μ
  unfold X0_unusedDeclarations at h
  refine aw_iconst (pc := 0) C (v := 0) dX0_unusedDeclarations_0 rfl ?_
  refine aw_istore_n (pc := 1) C (x := 0) (lv' := [(1, .int 0), (0, .ref (ad a0))]) dX0_unusedDeclarations_1 rfl (by decide) rfl rfl ?_
  refine aw_iconst (pc := 2) C (v := 0) dX0_unusedDeclarations_2 rfl ?_
  refine aw_istore_n (pc := 3) C (x := 0) (lv' := [(2, .int 0), (1, .int 0), (0, .ref (ad a0))]) dX0_unusedDeclarations_3 rfl (by decide) rfl rfl ?_
  refine aw_sub [2, 1, 0] rfl ?_
  exact ok_X0_unusedDeclarations_l4_w C hex ha0 big 0 0 h
/-! ### NameScopes$Facts.usesInState(I)I -/
theorem ok_X0_usesInState_l4 {l : Launch} {p : Program} {e : Env} {s : State} {m : MethodId} {args : Array Value} {below : List Frame} {meth : Method} {c : Code} {D : va_G} {cI cL : ClassId} {ad : Nat → Nat} (C : CX p l s m args meth c RX0 cX0_usesInState 4 (some .int) D cI cL (AA ad s.heap.size)) (hex : ∀ x ∈ c.exceptionTable.toList, False) {r : Int32} {a0 : Nat} {v1 : Int32} {μ : Mm} (ha0 : isF a0) {k4 : Int32 → Int32 → Option Int32} (hk4 : ∀ (v2 : Int32) (v3 : Int32), k4 v2 v3 = some r → AV l p e s m args below meth c D cI cL ad 3 4 (.inr (some (.int r))) μ 4 [(0, .ref (ad a0)), (1, .int v1), (2, .int v2), (3, .int v3)] [] μ) {v2 : Int32} {v3 : Int32}  (h : X0_usesInState_l4 a0 v1 μ k4 v2 v3 = some r) : AV l p e s m args below meth c D cI cL ad 3 4 (.inr (some (.int r))) μ 4 [(0, .ref (ad a0)), (1, .int v1), (2, .int v2), (3, .int v3)] [] μ := by
  unfold X0_usesInState_l4 at h
  refine aw_iload_n (pc := 4) C dX0_usesInState_4 rfl 3 rfl ?_
  refine aw_aload_n (pc := 5) C dX0_usesInState_5 rfl 0 rfl ?_
  refine aw_get (pc := 6) C (a := a0) (k := 13) (v := .int (μ.1 a0 13)) inX0 (kdF ha0) rfl (by decide) q113 dX0_usesInState_6 rfl ?_
  refine aw_icmp_ge (pc := 9) C 35 dX0_usesInState_9 rfl (fun hc => ?_) (fun hc => ?_)
  · replace h := ite_T h hc
    refine aw_iload_n (pc := 35) C dX0_usesInState_35 rfl 2 rfl ?_
    cases h
    exact aw_iret (pc := 36) C dX0_usesInState_36
  · replace h := ite_F h hc
    refine aw_iload_n (pc := 12) C dX0_usesInState_12 rfl 2 rfl ?_
    refine aw_aload_n (pc := 13) C dX0_usesInState_13 rfl 0 rfl ?_
    refine aw_iload_n (pc := 14) C dX0_usesInState_14 rfl 3 rfl ?_
    obtain ⟨q2, hq1, h⟩ := bi_some h
    refine aw_Vi (pc := 15) (a := a0) (Bs := [.int v3]) C (ok_X0_stateOfUse C.tr ha0 hq1) kv_X0_stateOfUse q233 (kdF ha0) rfl rfl rfl dX0_usesInState_15 ⟨(show 3 ≤ 3 by decide), (show 85 ≤ 93 by decide)⟩ ⟨Nat.zero_le _, Nat.zero_le _⟩ [.int v2] (Nat.le_of_ble_eq_true rfl) rfl ?_
    refine aw_iload_n (pc := 18) C dX0_usesInState_18 rfl 1 rfl ?_
    have kJ : AV l p e s m args below meth c D cI cL ad 3 4 (.inr (some (.int r))) μ 27 [(0, .ref (ad a0)), (1, .int v1), (2, .int v2), (3, .int v3)] [.int (if q2 = v1 then (1 : Int32) else 0), .int v2] μ := by
      refine aw_iadd (pc := 27) C dX0_usesInState_27 ?_
      obtain ⟨x3, ex3, h⟩ := bd_some h
      refine aw_istore_n (pc := 28) C (x := x3) (lv' := [(2, .int x3), (0, .ref (ad a0)), (1, .int v1), (3, .int v3)]) dX0_usesInState_28 rfl (by decide) ex3 rfl ?_
      refine aw_iinc (pc := 29) C (v := (v3 + 1)) (lv' := [(3, .int (v3 + 1)), (2, .int x3), (0, .ref (ad a0)), (1, .int v1)]) dX0_usesInState_29 3 rfl (by decide) rfl rfl ?_
      refine aw_goto (pc := 32) C 4 dX0_usesInState_32 rfl ?_
      refine aw_sub [2, 3, 1, 0] rfl ?_
      exact hk4 x3 (v3 + 1) h
    refine aw_icmp_ne (pc := 19) C 26 dX0_usesInState_19 rfl (fun hd1 => ?_) (fun hd1 => ?_)
    · refine aw_iconst (pc := 26) C (v := 0) dX0_usesInState_26 rfl ?_
      rw [if_neg hd1] at kJ
      exact kJ
    · refine aw_iconst (pc := 22) C (v := 1) dX0_usesInState_22 rfl ?_
      refine aw_goto (pc := 23) C 27 dX0_usesInState_23 rfl ?_
      rw [if_pos hd1] at kJ
      exact kJ
theorem ok_X0_usesInState_l4_w {l : Launch} {p : Program} {e : Env} {s : State} {m : MethodId} {args : Array Value} {below : List Frame} {meth : Method} {c : Code} {D : va_G} {cI cL : ClassId} {ad : Nat → Nat} (C : CX p l s m args meth c RX0 cX0_usesInState 4 (some .int) D cI cL (AA ad s.heap.size)) (hex : ∀ x ∈ c.exceptionTable.toList, False) {r : Int32} {a0 : Nat} {v1 : Int32} {μ : Mm} (ha0 : isF a0) : ∀ (n : Nat) (v2 : Int32) (v3 : Int32) , itr (X0_usesInState_l4 a0 v1 μ) (fun _ _ => none) n v2 v3 = some r → AV l p e s m args below meth c D cI cL ad 3 4 (.inr (some (.int r))) μ 4 [(0, .ref (ad a0)), (1, .int v1), (2, .int v2), (3, .int v3)] [] μ := by
  intro n
  induction n with
  | zero => intro v2 v3 h; exact nomatch (show (none : Option Int32) = some r from h)
  | succ n ih => intro v2 v3 h; exact ok_X0_usesInState_l4 C hex (a0 := a0) (v1 := v1) (μ := μ) ha0 ih h
theorem ok_X0_usesInState {l : Launch} (htr : l.stackTraces = false) {a0 : Nat} {v1 : Int32} {μ : Mm} {r : Int32} (ha0 : isF a0) (h : X0_usesInState a0 v1 μ = some r) : MetX l yX0_usesInState cX0_usesInState 4 (some .int) 3 (fun ad => [.ref (ad a0), .int v1]) μ (.inr (some (.int r))) μ := by
  refine MetX.of htr (by decide) rfl (fun ad => Nat.le_of_ble_eq_true rfl) (fun p e s m args below meth c D cI cL ad C hex hw => ?_)
  show AV l p e s m args below meth c D cI cL ad 3 4 (.inr (some (.int r))) μ 0 [(0, .ref (ad a0)), (1, .int v1)] [] μ
  unfold X0_usesInState at h
  refine aw_iconst (pc := 0) C (v := 0) dX0_usesInState_0 rfl ?_
  refine aw_istore_n (pc := 1) C (x := 0) (lv' := [(2, .int 0), (0, .ref (ad a0)), (1, .int v1)]) dX0_usesInState_1 rfl (by decide) rfl rfl ?_
  refine aw_iconst (pc := 2) C (v := 0) dX0_usesInState_2 rfl ?_
  refine aw_istore_n (pc := 3) C (x := 0) (lv' := [(3, .int 0), (2, .int 0), (0, .ref (ad a0)), (1, .int v1)]) dX0_usesInState_3 rfl (by decide) rfl rfl ?_
  refine aw_sub [2, 3, 1, 0] rfl ?_
  exact ok_X0_usesInState_l4_w C hex ha0 big 0 0 h
/-! ### NameScopes$Facts.usesResolvedTo(I)I -/
theorem ok_X0_usesResolvedTo_l4 {l : Launch} {p : Program} {e : Env} {s : State} {m : MethodId} {args : Array Value} {below : List Frame} {meth : Method} {c : Code} {D : va_G} {cI cL : ClassId} {ad : Nat → Nat} (C : CX p l s m args meth c RX0 cX0_usesResolvedTo 4 (some .int) D cI cL (AA ad s.heap.size)) (hex : ∀ x ∈ c.exceptionTable.toList, False) {r : Int32} {a0 : Nat} {v1 : Int32} {μ : Mm} (ha0 : isF a0) {k4 : Int32 → Int32 → Option Int32} (hk4 : ∀ (v2 : Int32) (v3 : Int32), k4 v2 v3 = some r → AV l p e s m args below meth c D cI cL ad 2 4 (.inr (some (.int r))) μ 4 [(0, .ref (ad a0)), (1, .int v1), (2, .int v2), (3, .int v3)] [] μ) {v2 : Int32} {v3 : Int32}  (h : X0_usesResolvedTo_l4 a0 v1 μ k4 v2 v3 = some r) : AV l p e s m args below meth c D cI cL ad 2 4 (.inr (some (.int r))) μ 4 [(0, .ref (ad a0)), (1, .int v1), (2, .int v2), (3, .int v3)] [] μ := by
  unfold X0_usesResolvedTo_l4 at h
  refine aw_iload_n (pc := 4) C dX0_usesResolvedTo_4 rfl 3 rfl ?_
  refine aw_aload_n (pc := 5) C dX0_usesResolvedTo_5 rfl 0 rfl ?_
  refine aw_get (pc := 6) C (a := a0) (k := 13) (v := .int (μ.1 a0 13)) inX0 (kdF ha0) rfl (by decide) q113 dX0_usesResolvedTo_6 rfl ?_
  refine aw_icmp_ge (pc := 9) C 37 dX0_usesResolvedTo_9 rfl (fun hc => ?_) (fun hc => ?_)
  · replace h := ite_T h hc
    refine aw_iload_n (pc := 37) C dX0_usesResolvedTo_37 rfl 2 rfl ?_
    cases h
    exact aw_iret (pc := 38) C dX0_usesResolvedTo_38
  · replace h := ite_F h hc
    refine aw_iload_n (pc := 12) C dX0_usesResolvedTo_12 rfl 2 rfl ?_
    refine aw_aload_n (pc := 13) C dX0_usesResolvedTo_13 rfl 0 rfl ?_
    refine aw_iload_n (pc := 14) C dX0_usesResolvedTo_14 rfl 3 rfl ?_
    obtain ⟨q2, hq1, h⟩ := bi_some h
    refine aw_Vi (pc := 15) (a := a0) (Bs := [.int v3]) C (ok_X0_outcome C.tr ha0 hq1) kv_X0_outcome q237 (kdF ha0) rfl rfl rfl dX0_usesResolvedTo_15 ⟨(show 2 ≤ 2 by decide), (show 52 ≤ 62 by decide)⟩ ⟨Nat.zero_le _, Nat.zero_le _⟩ [.int v2] (Nat.le_of_ble_eq_true rfl) rfl ?_
    refine aw_iconst (pc := 18) C (v := 1) dX0_usesResolvedTo_18 rfl ?_
    refine aw_iload_n (pc := 19) C dX0_usesResolvedTo_19 rfl 1 rfl ?_
    refine aw_ishl (pc := 20) C dX0_usesResolvedTo_20 ?_
    have kJ : AV l p e s m args below meth c D cI cL ad 2 4 (.inr (some (.int r))) μ 29 [(0, .ref (ad a0)), (1, .int v1), (2, .int v2), (3, .int v3)] [.int (if q2 = (1 <<< (v1 &&& 31)) then (1 : Int32) else 0), .int v2] μ := by
      refine aw_iadd (pc := 29) C dX0_usesResolvedTo_29 ?_
      obtain ⟨x3, ex3, h⟩ := bd_some h
      refine aw_istore_n (pc := 30) C (x := x3) (lv' := [(2, .int x3), (0, .ref (ad a0)), (1, .int v1), (3, .int v3)]) dX0_usesResolvedTo_30 rfl (by decide) ex3 rfl ?_
      refine aw_iinc (pc := 31) C (v := (v3 + 1)) (lv' := [(3, .int (v3 + 1)), (2, .int x3), (0, .ref (ad a0)), (1, .int v1)]) dX0_usesResolvedTo_31 3 rfl (by decide) rfl rfl ?_
      refine aw_goto (pc := 34) C 4 dX0_usesResolvedTo_34 rfl ?_
      refine aw_sub [2, 3, 1, 0] rfl ?_
      exact hk4 x3 (v3 + 1) h
    refine aw_icmp_ne (pc := 21) C 28 dX0_usesResolvedTo_21 rfl (fun hd1 => ?_) (fun hd1 => ?_)
    · refine aw_iconst (pc := 28) C (v := 0) dX0_usesResolvedTo_28 rfl ?_
      rw [if_neg hd1] at kJ
      exact kJ
    · refine aw_iconst (pc := 24) C (v := 1) dX0_usesResolvedTo_24 rfl ?_
      refine aw_goto (pc := 25) C 29 dX0_usesResolvedTo_25 rfl ?_
      rw [if_pos hd1] at kJ
      exact kJ
theorem ok_X0_usesResolvedTo_l4_w {l : Launch} {p : Program} {e : Env} {s : State} {m : MethodId} {args : Array Value} {below : List Frame} {meth : Method} {c : Code} {D : va_G} {cI cL : ClassId} {ad : Nat → Nat} (C : CX p l s m args meth c RX0 cX0_usesResolvedTo 4 (some .int) D cI cL (AA ad s.heap.size)) (hex : ∀ x ∈ c.exceptionTable.toList, False) {r : Int32} {a0 : Nat} {v1 : Int32} {μ : Mm} (ha0 : isF a0) : ∀ (n : Nat) (v2 : Int32) (v3 : Int32) , itr (X0_usesResolvedTo_l4 a0 v1 μ) (fun _ _ => none) n v2 v3 = some r → AV l p e s m args below meth c D cI cL ad 2 4 (.inr (some (.int r))) μ 4 [(0, .ref (ad a0)), (1, .int v1), (2, .int v2), (3, .int v3)] [] μ := by
  intro n
  induction n with
  | zero => intro v2 v3 h; exact nomatch (show (none : Option Int32) = some r from h)
  | succ n ih => intro v2 v3 h; exact ok_X0_usesResolvedTo_l4 C hex (a0 := a0) (v1 := v1) (μ := μ) ha0 ih h
theorem ok_X0_usesResolvedTo {l : Launch} (htr : l.stackTraces = false) {a0 : Nat} {v1 : Int32} {μ : Mm} {r : Int32} (ha0 : isF a0) (h : X0_usesResolvedTo a0 v1 μ = some r) : MetX l yX0_usesResolvedTo cX0_usesResolvedTo 4 (some .int) 2 (fun ad => [.ref (ad a0), .int v1]) μ (.inr (some (.int r))) μ := by
  refine MetX.of htr (by decide) rfl (fun ad => Nat.le_of_ble_eq_true rfl) (fun p e s m args below meth c D cI cL ad C hex hw => ?_)
  show AV l p e s m args below meth c D cI cL ad 2 4 (.inr (some (.int r))) μ 0 [(0, .ref (ad a0)), (1, .int v1)] [] μ
  unfold X0_usesResolvedTo at h
  refine aw_iconst (pc := 0) C (v := 0) dX0_usesResolvedTo_0 rfl ?_
  refine aw_istore_n (pc := 1) C (x := 0) (lv' := [(2, .int 0), (0, .ref (ad a0)), (1, .int v1)]) dX0_usesResolvedTo_1 rfl (by decide) rfl rfl ?_
  refine aw_iconst (pc := 2) C (v := 0) dX0_usesResolvedTo_2 rfl ?_
  refine aw_istore_n (pc := 3) C (x := 0) (lv' := [(3, .int 0), (2, .int 0), (0, .ref (ad a0)), (1, .int v1)]) dX0_usesResolvedTo_3 rfl (by decide) rfl rfl ?_
  refine aw_sub [2, 3, 1, 0] rfl ?_
  exact ok_X0_usesResolvedTo_l4_w C hex ha0 big 0 0 h
/-! ### NameScopes$Facts.vainSingleImports()I -/
theorem ok_X0_vainSingleImports_j35 {l : Launch} {p : Program} {e : Env} {s : State} {m : MethodId} {args : Array Value} {below : List Frame} {meth : Method} {c : Code} {D : va_G} {cI cL : ClassId} {ad : Nat → Nat} (C : CX p l s m args meth c RX0 cX0_vainSingleImports 3 (some .int) D cI cL (AA ad s.heap.size)) (hex : ∀ x ∈ c.exceptionTable.toList, False) {r : Int32} {a0 : Nat} {μ : Mm} (ha0 : isF a0) {k4 : Int32 → Int32 → Option Int32} (hk4 : ∀ (v1 : Int32) (v2 : Int32), k4 v1 v2 = some r → AV l p e s m args below meth c D cI cL ad 2 3 (.inr (some (.int r))) μ 4 [(0, .ref (ad a0)), (1, .int v1), (2, .int v2)] [] μ) {v2 : Int32} {s0 : Int32}  (h : X0_vainSingleImports_j35 a0 μ k4 v2 s0 = some r) : AV l p e s m args below meth c D cI cL ad 2 3 (.inr (some (.int r))) μ 35 [(0, .ref (ad a0)), (2, .int v2)] [.int s0] μ := by
  unfold X0_vainSingleImports_j35 at h
  refine aw_iconst (pc := 35) C (v := 0) dX0_vainSingleImports_35 rfl ?_
  refine aw_iadd (pc := 36) C dX0_vainSingleImports_36 ?_
  obtain ⟨x2, ex2, h⟩ := bd_some h
  refine aw_istore_n (pc := 37) C (x := x2) (lv' := [(1, .int x2), (0, .ref (ad a0)), (2, .int v2)]) dX0_vainSingleImports_37 rfl (by decide) ex2 rfl ?_
  refine aw_iinc (pc := 38) C (v := (v2 + 1)) (lv' := [(2, .int (v2 + 1)), (1, .int x2), (0, .ref (ad a0))]) dX0_vainSingleImports_38 2 rfl (by decide) rfl rfl ?_
  refine aw_goto (pc := 41) C 4 dX0_vainSingleImports_41 rfl ?_
  refine aw_sub [2, 1, 0] rfl ?_
  exact hk4 x2 (v2 + 1) h
theorem ok_X0_vainSingleImports_l4 {l : Launch} {p : Program} {e : Env} {s : State} {m : MethodId} {args : Array Value} {below : List Frame} {meth : Method} {c : Code} {D : va_G} {cI cL : ClassId} {ad : Nat → Nat} (C : CX p l s m args meth c RX0 cX0_vainSingleImports 3 (some .int) D cI cL (AA ad s.heap.size)) (hex : ∀ x ∈ c.exceptionTable.toList, False) {r : Int32} {a0 : Nat} {μ : Mm} (ha0 : isF a0) {k4 : Int32 → Int32 → Option Int32} (hk4 : ∀ (v1 : Int32) (v2 : Int32), k4 v1 v2 = some r → AV l p e s m args below meth c D cI cL ad 2 3 (.inr (some (.int r))) μ 4 [(0, .ref (ad a0)), (1, .int v1), (2, .int v2)] [] μ) {v1 : Int32} {v2 : Int32}  (h : X0_vainSingleImports_l4 a0 μ k4 v1 v2 = some r) : AV l p e s m args below meth c D cI cL ad 2 3 (.inr (some (.int r))) μ 4 [(0, .ref (ad a0)), (1, .int v1), (2, .int v2)] [] μ := by
  unfold X0_vainSingleImports_l4 at h
  refine aw_iload_n (pc := 4) C dX0_vainSingleImports_4 rfl 2 rfl ?_
  refine aw_aload_n (pc := 5) C dX0_vainSingleImports_5 rfl 0 rfl ?_
  refine aw_get (pc := 6) C (a := a0) (k := 6) (v := .int (μ.1 a0 6)) inX0 (kdF ha0) rfl (by decide) q92 dX0_vainSingleImports_6 rfl ?_
  refine aw_icmp_ge (pc := 9) C 44 dX0_vainSingleImports_9 rfl (fun hc => ?_) (fun hc => ?_)
  · replace h := ite_T h hc
    refine aw_iload_n (pc := 44) C dX0_vainSingleImports_44 rfl 1 rfl ?_
    cases h
    exact aw_iret (pc := 45) C dX0_vainSingleImports_45
  · replace h := ite_F h hc
    refine aw_iload_n (pc := 12) C dX0_vainSingleImports_12 rfl 1 rfl ?_
    refine aw_aload_n (pc := 13) C dX0_vainSingleImports_13 rfl 0 rfl ?_
    refine aw_get (pc := 14) C (a := a0) (k := 9) (v := .ref (ad (a0 + 7))) inX0 (kdF ha0) rfl (by decide) q101 dX0_vainSingleImports_14 rfl ?_
    refine aw_iload_n (pc := 17) C dX0_vainSingleImports_17 rfl 2 rfl ?_
    obtain ⟨g1, h⟩ := ck_some h
    refine aw_iaload (pc := 18) C (a := (a0 + 7)) ((kdFk (k := 7) ha0 rfl rfl)) g1 dX0_vainSingleImports_18 ?_
    refine aw_iconst (pc := 19) C (v := (-1)) dX0_vainSingleImports_19 rfl ?_
    refine aw_icmp_eq (pc := 20) C 35 dX0_vainSingleImports_20 rfl (fun hc => ?_) (fun hc => ?_)
    · replace h := ite_T h hc
      refine aw_sub [0, 2] rfl ?_
      exact ok_X0_vainSingleImports_j35 C hex ha0 hk4 h
    · replace h := ite_F h hc
      refine aw_aload_n (pc := 23) C dX0_vainSingleImports_23 rfl 0 rfl ?_
      refine aw_iload_n (pc := 24) C dX0_vainSingleImports_24 rfl 2 rfl ?_
      obtain ⟨q4, hq3, h⟩ := bi_some h
      refine aw_Vi (pc := 25) (a := a0) (Bs := [.int v2]) C (ok_X0_pairsBrought C.tr ha0 hq3) kv_X0_pairsBrought q375 (kdF ha0) rfl rfl rfl dX0_vainSingleImports_25 ⟨(show 2 ≤ 2 by decide), (show 55 ≤ 62 by decide)⟩ ⟨Nat.zero_le _, Nat.zero_le _⟩ [.int v1] (Nat.le_of_ble_eq_true rfl) rfl ?_
      have kJ : AV l p e s m args below meth c D cI cL ad 2 3 (.inr (some (.int r))) μ 36 [(0, .ref (ad a0)), (1, .int v1), (2, .int v2)] [.int (if q4 = 0 then (1 : Int32) else 0), .int v1] μ := by
        refine aw_iadd (pc := 36) C dX0_vainSingleImports_36 ?_
        obtain ⟨x5, ex5, h⟩ := bd_some h
        refine aw_istore_n (pc := 37) C (x := x5) (lv' := [(1, .int x5), (0, .ref (ad a0)), (2, .int v2)]) dX0_vainSingleImports_37 rfl (by decide) ex5 rfl ?_
        refine aw_iinc (pc := 38) C (v := (v2 + 1)) (lv' := [(2, .int (v2 + 1)), (1, .int x5), (0, .ref (ad a0))]) dX0_vainSingleImports_38 2 rfl (by decide) rfl rfl ?_
        refine aw_goto (pc := 41) C 4 dX0_vainSingleImports_41 rfl ?_
        refine aw_sub [2, 1, 0] rfl ?_
        exact hk4 x5 (v2 + 1) h
      refine aw_if_ne (pc := 28) C 35 dX0_vainSingleImports_28 rfl (fun hd1 => ?_) (fun hd1 => ?_)
      · refine aw_iconst (pc := 35) C (v := 0) dX0_vainSingleImports_35 rfl ?_
        rw [if_neg hd1] at kJ
        exact kJ
      · refine aw_iconst (pc := 31) C (v := 1) dX0_vainSingleImports_31 rfl ?_
        refine aw_goto (pc := 32) C 36 dX0_vainSingleImports_32 rfl ?_
        rw [if_pos hd1] at kJ
        exact kJ
theorem ok_X0_vainSingleImports_l4_w {l : Launch} {p : Program} {e : Env} {s : State} {m : MethodId} {args : Array Value} {below : List Frame} {meth : Method} {c : Code} {D : va_G} {cI cL : ClassId} {ad : Nat → Nat} (C : CX p l s m args meth c RX0 cX0_vainSingleImports 3 (some .int) D cI cL (AA ad s.heap.size)) (hex : ∀ x ∈ c.exceptionTable.toList, False) {r : Int32} {a0 : Nat} {μ : Mm} (ha0 : isF a0) : ∀ (n : Nat) (v1 : Int32) (v2 : Int32) , itr (X0_vainSingleImports_l4 a0 μ) (fun _ _ => none) n v1 v2 = some r → AV l p e s m args below meth c D cI cL ad 2 3 (.inr (some (.int r))) μ 4 [(0, .ref (ad a0)), (1, .int v1), (2, .int v2)] [] μ := by
  intro n
  induction n with
  | zero => intro v1 v2 h; exact nomatch (show (none : Option Int32) = some r from h)
  | succ n ih => intro v1 v2 h; exact ok_X0_vainSingleImports_l4 C hex (a0 := a0) (μ := μ) ha0 ih h
theorem ok_X0_vainSingleImports {l : Launch} (htr : l.stackTraces = false) {a0 : Nat} {μ : Mm} {r : Int32} (ha0 : isF a0) (h : X0_vainSingleImports a0 μ = some r) : MetX l yX0_vainSingleImports cX0_vainSingleImports 3 (some .int) 2 (fun ad => [.ref (ad a0)]) μ (.inr (some (.int r))) μ := by
  refine MetX.of htr (by decide) rfl (fun ad => Nat.le_of_ble_eq_true rfl) (fun p e s m args below meth c D cI cL ad C hex hw => ?_)
  show AV l p e s m args below meth c D cI cL ad 2 3 (.inr (some (.int r))) μ 0 [(0, .ref (ad a0))] [] μ
  unfold X0_vainSingleImports at h
  refine aw_iconst (pc := 0) C (v := 0) dX0_vainSingleImports_0 rfl ?_
  refine aw_istore_n (pc := 1) C (x := 0) (lv' := [(1, .int 0), (0, .ref (ad a0))]) dX0_vainSingleImports_1 rfl (by decide) rfl rfl ?_
  refine aw_iconst (pc := 2) C (v := 0) dX0_vainSingleImports_2 rfl ?_
  refine aw_istore_n (pc := 3) C (x := 0) (lv' := [(2, .int 0), (1, .int 0), (0, .ref (ad a0))]) dX0_vainSingleImports_3 rfl (by decide) rfl rfl ?_
  refine aw_sub [2, 1, 0] rfl ?_
  exact ok_X0_vainSingleImports_l4_w C hex ha0 big 0 0 h
/-! ### NameScopes$Text.afterScope(I)I -/
theorem ok_X2_afterScope {l : Launch} (htr : l.stackTraces = false) {v0 : Int32} {μ : Mm} {r : Int32}  (h : X2_afterScope v0 = some r) : MetX l yX2_afterScope cX2_afterScope 1 (some .int) 0 (fun ad => [.int v0]) μ (.inr (some (.int r))) μ := by
  refine MetX.of htr (by decide) rfl (fun ad => Nat.le_of_ble_eq_true rfl) (fun p e s m args below meth c D cI cL ad C hex hw => ?_)
  show AV l p e s m args below meth c D cI cL ad 0 1 (.inr (some (.int r))) μ 0 [(0, .int v0)] [] μ
  unfold X2_afterScope at h
  refine aw_iload_n (pc := 0) C dX2_afterScope_0 rfl 0 rfl ?_
  by_cases hs1 : v0 = 45
  · replace h := ite_T h hs1
    refine aw_lookup (pc := 1) C 54 dX2_afterScope_1 (by decide) (by rw [hs1] <;> rfl) rfl ?_
    refine aw_iconst (pc := 54) C (v := 3) dX2_afterScope_54 rfl ?_
    cases h
    exact aw_iret (pc := 55) C dX2_afterScope_55
  replace h := ite_F h hs1
  by_cases hs2 : v0 = 46
  · replace h := ite_T h hs2
    refine aw_lookup (pc := 1) C 54 dX2_afterScope_1 (by decide) (by rw [hs2] <;> rfl) rfl ?_
    refine aw_iconst (pc := 54) C (v := 3) dX2_afterScope_54 rfl ?_
    cases h
    exact aw_iret (pc := 55) C dX2_afterScope_55
  replace h := ite_F h hs2
  by_cases hs3 : v0 = 60
  · replace h := ite_T h hs3
    refine aw_lookup (pc := 1) C 56 dX2_afterScope_1 (by decide) (by rw [hs3] <;> rfl) rfl ?_
    refine aw_iconst (pc := 56) C (v := 5) dX2_afterScope_56 rfl ?_
    cases h
    exact aw_iret (pc := 57) C dX2_afterScope_57
  replace h := ite_F h hs3
  by_cases hs4 : v0 = 63
  · replace h := ite_T h hs4
    refine aw_lookup (pc := 1) C 54 dX2_afterScope_1 (by decide) (by rw [hs4] <;> rfl) rfl ?_
    refine aw_iconst (pc := 54) C (v := 3) dX2_afterScope_54 rfl ?_
    cases h
    exact aw_iret (pc := 55) C dX2_afterScope_55
  replace h := ite_F h hs4
  by_cases hs5 : v0 = 94
  · replace h := ite_T h hs5
    refine aw_lookup (pc := 1) C 52 dX2_afterScope_1 (by decide) (by rw [hs5] <;> rfl) rfl ?_
    refine aw_iconst (pc := 52) C (v := 4) dX2_afterScope_52 rfl ?_
    cases h
    exact aw_iret (pc := 53) C dX2_afterScope_53
  replace h := ite_F h hs5
  refine aw_lookup (pc := 1) C 58 dX2_afterScope_1 (by decide) (off := 57) (by show Op.lookupswitch.offset [(45, 53), (46, 53), (60, 55), (63, 53), (94, 51)] 57 (Int32.toInt v0) = 57; rw [lv_osw (k := 45) hs1 (by decide), lv_osw (k := 46) hs2 (by decide), lv_osw (k := 60) hs3 (by decide), lv_osw (k := 63) hs4 (by decide), lv_osw (k := 94) hs5 (by decide)]; rfl) rfl ?_
  refine aw_iconst (pc := 58) C (v := 0) dX2_afterScope_58 rfl ?_
  cases h
  exact aw_iret (pc := 59) C dX2_afterScope_59
/-! ### NameScopes$Text.after(II)I -/
theorem ok_X2_after {l : Launch} (htr : l.stackTraces = false) {v0 : Int32} {v1 : Int32} {μ : Mm} {r : Int32}  (h : X2_after v0 v1 = some r) : MetX l yX2_after cX2_after 4 (some .int) 1 (fun ad => [.int v0, .int v1]) μ (.inr (some (.int r))) μ := by
  refine MetX.of htr (by decide) rfl (fun ad => Nat.le_of_ble_eq_true rfl) (fun p e s m args below meth c D cI cL ad C hex hw => ?_)
  show AV l p e s m args below meth c D cI cL ad 1 4 (.inr (some (.int r))) μ 0 [(0, .int v0), (1, .int v1)] [] μ
  unfold X2_after at h
  refine aw_iload_n (pc := 0) C dX2_after_0 rfl 1 rfl ?_
  refine aw_bipush (pc := 1) C (v := 65) dX2_after_1 rfl ?_
  have kJ : AV l p e s m args below meth c D cI cL ad 1 4 (.inr (some (.int r))) μ 17 [(0, .int v0), (1, .int v1)] [.int (if v1 < 65 then (0 : Int32) else (if 80 < v1 then (0 : Int32) else 1))] μ := by
    obtain ⟨x1, ex1, h⟩ := bd_some h
    refine aw_istore_n (pc := 17) C (x := x1) (lv' := [(2, .int x1), (0, .int v0), (1, .int v1)]) dX2_after_17 rfl (by decide) ex1 rfl ?_
    refine aw_iload_n (pc := 18) C dX2_after_18 rfl 2 rfl ?_
    refine aw_bipush (pc := 19) C (v := 97) dX2_after_19 rfl ?_
    have kJ : AV l p e s m args below meth c D cI cL ad 1 4 (.inr (some (.int r))) μ 35 [(2, .int x1), (0, .int v0), (1, .int v1)] [.int (if v1 < 97 then (0 : Int32) else (if 122 < v1 then (0 : Int32) else 1))] μ := by
      obtain ⟨x2, ex2, h⟩ := bd_some h
      refine aw_istore_n (pc := 35) C (x := x2) (lv' := [(3, .int x2), (2, .int x1), (0, .int v0), (1, .int v1)]) dX2_after_35 rfl (by decide) ex2 rfl ?_
      refine aw_iload_n (pc := 36) C dX2_after_36 rfl 2 rfl ?_
      by_cases hs3 : v0 = 1
      · replace h := ite_T h hs3
        refine aw_tableIn (pc := 37) C 96 dX2_after_37 (by rw [hs3]; decide) (by rw [hs3]; decide) (by rw [hs3]; rfl) rfl ?_
        refine aw_iload_n (pc := 96) C dX2_after_96 rfl 1 rfl ?_
        have kJ : AV l p e s m args below meth c D cI cL ad 1 4 (.inr (some (.int r))) μ 105 [(3, .int x2), (2, .int x1), (0, .int v0), (1, .int v1)] [.int (if x1 = 0 then (0 : Int32) else 2)] μ := by
          cases h
          exact aw_iret (pc := 105) C dX2_after_105
        refine aw_if_eq (pc := 97) C 104 dX2_after_97 rfl (fun hd1 => ?_) (fun hd1 => ?_)
        · refine aw_iconst (pc := 104) C (v := 0) dX2_after_104 rfl ?_
          rw [if_pos hd1] at kJ
          exact kJ
        · refine aw_iconst (pc := 100) C (v := 2) dX2_after_100 rfl ?_
          refine aw_goto (pc := 101) C 105 dX2_after_101 rfl ?_
          rw [if_neg hd1] at kJ
          exact kJ
      replace h := ite_F h hs3
      by_cases hs4 : v0 = 2
      · replace h := ite_T h hs4
        refine aw_tableIn (pc := 37) C 106 dX2_after_37 (by rw [hs4]; decide) (by rw [hs4]; decide) (by rw [hs4]; rfl) rfl ?_
        refine aw_iload_n (pc := 106) C dX2_after_106 rfl 3 rfl ?_
        obtain ⟨q6, hq5, h⟩ := bi_some h
        refine aw_Si (pc := 107) (Bs := [.int v1]) C (ok_X2_afterScope C.tr hq5) kv_X2_afterScope q222 rfl rfl dX2_after_107 ⟨(show 1 ≤ 1 by decide), (show 20 ≤ 31 by decide)⟩ ⟨Nat.zero_le _, Nat.zero_le _⟩ [] (Nat.le_of_ble_eq_true rfl) rfl ?_
        cases h
        exact aw_iret (pc := 110) C dX2_after_110
      replace h := ite_F h hs4
      by_cases hs7 : v0 = 3
      · replace h := ite_T h hs7
        refine aw_tableIn (pc := 37) C 111 dX2_after_37 (by rw [hs7]; decide) (by rw [hs7]; decide) (by rw [hs7]; rfl) rfl ?_
        refine aw_iload_n (pc := 111) C dX2_after_111 rfl 0 rfl ?_
        have kJ : AV l p e s m args below meth c D cI cL ad 1 4 (.inr (some (.int r))) μ 120 [(3, .int x2), (2, .int x1), (0, .int v0), (1, .int v1)] [.int (if x2 = 0 then (0 : Int32) else 4)] μ := by
          cases h
          exact aw_iret (pc := 120) C dX2_after_120
        refine aw_if_eq (pc := 112) C 119 dX2_after_112 rfl (fun hd1 => ?_) (fun hd1 => ?_)
        · refine aw_iconst (pc := 119) C (v := 0) dX2_after_119 rfl ?_
          rw [if_pos hd1] at kJ
          exact kJ
        · refine aw_iconst (pc := 115) C (v := 4) dX2_after_115 rfl ?_
          refine aw_goto (pc := 116) C 120 dX2_after_116 rfl ?_
          rw [if_neg hd1] at kJ
          exact kJ
      replace h := ite_F h hs7
      by_cases hs8 : v0 = 4
      · replace h := ite_T h hs8
        refine aw_tableIn (pc := 37) C 121 dX2_after_37 (by rw [hs8]; decide) (by rw [hs8]; decide) (by rw [hs8]; rfl) rfl ?_
        refine aw_iload_n (pc := 121) C dX2_after_121 rfl 3 rfl ?_
        refine aw_bipush (pc := 122) C (v := 44) dX2_after_122 rfl ?_
        have kJ : AV l p e s m args below meth c D cI cL ad 1 4 (.inr (some (.int r))) μ 132 [(3, .int x2), (2, .int x1), (0, .int v0), (1, .int v1)] [.int (if v1 = 44 then (1 : Int32) else 0)] μ := by
          cases h
          exact aw_iret (pc := 132) C dX2_after_132
        refine aw_icmp_ne (pc := 124) C 131 dX2_after_124 rfl (fun hd1 => ?_) (fun hd1 => ?_)
        · refine aw_iconst (pc := 131) C (v := 0) dX2_after_131 rfl ?_
          rw [if_neg hd1] at kJ
          exact kJ
        · refine aw_iconst (pc := 127) C (v := 1) dX2_after_127 rfl ?_
          refine aw_goto (pc := 128) C 132 dX2_after_128 rfl ?_
          rw [if_pos hd1] at kJ
          exact kJ
      replace h := ite_F h hs8
      by_cases hs9 : v0 = 5
      · replace h := ite_T h hs9
        refine aw_tableIn (pc := 37) C 133 dX2_after_37 (by rw [hs9]; decide) (by rw [hs9]; decide) (by rw [hs9]; rfl) rfl ?_
        refine aw_iload_n (pc := 133) C dX2_after_133 rfl 3 rfl ?_
        refine aw_bipush (pc := 134) C (v := 60) dX2_after_134 rfl ?_
        have kJ : AV l p e s m args below meth c D cI cL ad 1 4 (.inr (some (.int r))) μ 154 [(3, .int x2), (2, .int x1), (0, .int v0), (1, .int v1)] [.int (if v1 = 60 then (6 : Int32) else (if x1 = 0 then (0 : Int32) else 7))] μ := by
          cases h
          exact aw_iret (pc := 154) C dX2_after_154
        refine aw_icmp_ne (pc := 136) C 144 dX2_after_136 rfl (fun hd1 => ?_) (fun hd1 => ?_)
        · refine aw_iload_n (pc := 144) C dX2_after_144 rfl 1 rfl ?_
          refine aw_if_eq (pc := 145) C 153 dX2_after_145 rfl (fun hd2 => ?_) (fun hd2 => ?_)
          · refine aw_iconst (pc := 153) C (v := 0) dX2_after_153 rfl ?_
            rw [if_neg hd1, if_pos hd2] at kJ
            exact kJ
          · refine aw_bipush (pc := 148) C (v := 7) dX2_after_148 rfl ?_
            refine aw_goto (pc := 150) C 154 dX2_after_150 rfl ?_
            rw [if_neg hd1, if_neg hd2] at kJ
            exact kJ
        · refine aw_bipush (pc := 139) C (v := 6) dX2_after_139 rfl ?_
          refine aw_goto (pc := 141) C 154 dX2_after_141 rfl ?_
          rw [if_pos hd1] at kJ
          exact kJ
      replace h := ite_F h hs9
      by_cases hs10 : v0 = 6
      · replace h := ite_T h hs10
        refine aw_tableIn (pc := 37) C 155 dX2_after_37 (by rw [hs10]; decide) (by rw [hs10]; decide) (by rw [hs10]; rfl) rfl ?_
        refine aw_iload_n (pc := 155) C dX2_after_155 rfl 1 rfl ?_
        have kJ : AV l p e s m args below meth c D cI cL ad 1 4 (.inr (some (.int r))) μ 165 [(3, .int x2), (2, .int x1), (0, .int v0), (1, .int v1)] [.int (if x1 = 0 then (0 : Int32) else 7)] μ := by
          cases h
          exact aw_iret (pc := 165) C dX2_after_165
        refine aw_if_eq (pc := 156) C 164 dX2_after_156 rfl (fun hd1 => ?_) (fun hd1 => ?_)
        · refine aw_iconst (pc := 164) C (v := 0) dX2_after_164 rfl ?_
          rw [if_pos hd1] at kJ
          exact kJ
        · refine aw_bipush (pc := 159) C (v := 7) dX2_after_159 rfl ?_
          refine aw_goto (pc := 161) C 165 dX2_after_161 rfl ?_
          rw [if_neg hd1] at kJ
          exact kJ
      replace h := ite_F h hs10
      by_cases hs11 : v0 = 7
      · replace h := ite_T h hs11
        refine aw_tableIn (pc := 37) C 166 dX2_after_37 (by rw [hs11]; decide) (by rw [hs11]; decide) (by rw [hs11]; rfl) rfl ?_
        refine aw_iload_n (pc := 166) C dX2_after_166 rfl 3 rfl ?_
        refine aw_bipush (pc := 167) C (v := 46) dX2_after_167 rfl ?_
        have kJ : AV l p e s m args below meth c D cI cL ad 1 4 (.inr (some (.int r))) μ 199 [(3, .int x2), (2, .int x1), (0, .int v0), (1, .int v1)] [.int (if v1 = 46 then (8 : Int32) else (if v1 = 47 then (10 : Int32) else (if v1 = 44 then (1 : Int32) else 0)))] μ := by
          cases h
          exact aw_iret (pc := 199) C dX2_after_199
        refine aw_icmp_ne (pc := 169) C 177 dX2_after_169 rfl (fun hd1 => ?_) (fun hd1 => ?_)
        · refine aw_iload_n (pc := 177) C dX2_after_177 rfl 3 rfl ?_
          refine aw_bipush (pc := 178) C (v := 47) dX2_after_178 rfl ?_
          refine aw_icmp_ne (pc := 180) C 188 dX2_after_180 rfl (fun hd2 => ?_) (fun hd2 => ?_)
          · refine aw_iload_n (pc := 188) C dX2_after_188 rfl 3 rfl ?_
            refine aw_bipush (pc := 189) C (v := 44) dX2_after_189 rfl ?_
            refine aw_icmp_ne (pc := 191) C 198 dX2_after_191 rfl (fun hd3 => ?_) (fun hd3 => ?_)
            · refine aw_iconst (pc := 198) C (v := 0) dX2_after_198 rfl ?_
              rw [if_neg hd1, if_neg hd2, if_neg hd3] at kJ
              exact kJ
            · refine aw_iconst (pc := 194) C (v := 1) dX2_after_194 rfl ?_
              refine aw_goto (pc := 195) C 199 dX2_after_195 rfl ?_
              rw [if_neg hd1, if_neg hd2, if_pos hd3] at kJ
              exact kJ
          · refine aw_bipush (pc := 183) C (v := 10) dX2_after_183 rfl ?_
            refine aw_goto (pc := 185) C 199 dX2_after_185 rfl ?_
            rw [if_neg hd1, if_pos hd2] at kJ
            exact kJ
        · refine aw_bipush (pc := 172) C (v := 8) dX2_after_172 rfl ?_
          refine aw_goto (pc := 174) C 199 dX2_after_174 rfl ?_
          rw [if_pos hd1] at kJ
          exact kJ
      replace h := ite_F h hs11
      by_cases hs12 : v0 = 8
      · replace h := ite_T h hs12
        refine aw_tableIn (pc := 37) C 200 dX2_after_37 (by rw [hs12]; decide) (by rw [hs12]; decide) (by rw [hs12]; rfl) rfl ?_
        refine aw_iload_n (pc := 200) C dX2_after_200 rfl 0 rfl ?_
        have kJ : AV l p e s m args below meth c D cI cL ad 1 4 (.inr (some (.int r))) μ 210 [(3, .int x2), (2, .int x1), (0, .int v0), (1, .int v1)] [.int (if x2 = 0 then (0 : Int32) else 9)] μ := by
          cases h
          exact aw_iret (pc := 210) C dX2_after_210
        refine aw_if_eq (pc := 201) C 209 dX2_after_201 rfl (fun hd1 => ?_) (fun hd1 => ?_)
        · refine aw_iconst (pc := 209) C (v := 0) dX2_after_209 rfl ?_
          rw [if_pos hd1] at kJ
          exact kJ
        · refine aw_bipush (pc := 204) C (v := 9) dX2_after_204 rfl ?_
          refine aw_goto (pc := 206) C 210 dX2_after_206 rfl ?_
          rw [if_neg hd1] at kJ
          exact kJ
      replace h := ite_F h hs12
      by_cases hs13 : v0 = 9
      · replace h := ite_T h hs13
        refine aw_tableIn (pc := 37) C 211 dX2_after_37 (by rw [hs13]; decide) (by rw [hs13]; decide) (by rw [hs13]; rfl) rfl ?_
        refine aw_iload_n (pc := 211) C dX2_after_211 rfl 3 rfl ?_
        refine aw_bipush (pc := 212) C (v := 61) dX2_after_212 rfl ?_
        have kJ : AV l p e s m args below meth c D cI cL ad 1 4 (.inr (some (.int r))) μ 232 [(3, .int x2), (2, .int x1), (0, .int v0), (1, .int v1)] [.int (if v1 = 61 then (3 : Int32) else (if v1 = 44 then (1 : Int32) else 0))] μ := by
          cases h
          exact aw_iret (pc := 232) C dX2_after_232
        refine aw_icmp_ne (pc := 214) C 221 dX2_after_214 rfl (fun hd1 => ?_) (fun hd1 => ?_)
        · refine aw_iload_n (pc := 221) C dX2_after_221 rfl 3 rfl ?_
          refine aw_bipush (pc := 222) C (v := 44) dX2_after_222 rfl ?_
          refine aw_icmp_ne (pc := 224) C 231 dX2_after_224 rfl (fun hd2 => ?_) (fun hd2 => ?_)
          · refine aw_iconst (pc := 231) C (v := 0) dX2_after_231 rfl ?_
            rw [if_neg hd1, if_neg hd2] at kJ
            exact kJ
          · refine aw_iconst (pc := 227) C (v := 1) dX2_after_227 rfl ?_
            refine aw_goto (pc := 228) C 232 dX2_after_228 rfl ?_
            rw [if_neg hd1, if_pos hd2] at kJ
            exact kJ
        · refine aw_iconst (pc := 217) C (v := 3) dX2_after_217 rfl ?_
          refine aw_goto (pc := 218) C 232 dX2_after_218 rfl ?_
          rw [if_pos hd1] at kJ
          exact kJ
      replace h := ite_F h hs13
      by_cases hs14 : v0 = 10
      · replace h := ite_T h hs14
        refine aw_tableIn (pc := 37) C 233 dX2_after_37 (by rw [hs14]; decide) (by rw [hs14]; decide) (by rw [hs14]; rfl) rfl ?_
        refine aw_iload_n (pc := 233) C dX2_after_233 rfl 0 rfl ?_
        have kJ : AV l p e s m args below meth c D cI cL ad 1 4 (.inr (some (.int r))) μ 243 [(3, .int x2), (2, .int x1), (0, .int v0), (1, .int v1)] [.int (if x2 = 0 then (0 : Int32) else 11)] μ := by
          cases h
          exact aw_iret (pc := 243) C dX2_after_243
        refine aw_if_eq (pc := 234) C 242 dX2_after_234 rfl (fun hd1 => ?_) (fun hd1 => ?_)
        · refine aw_iconst (pc := 242) C (v := 0) dX2_after_242 rfl ?_
          rw [if_pos hd1] at kJ
          exact kJ
        · refine aw_bipush (pc := 237) C (v := 11) dX2_after_237 rfl ?_
          refine aw_goto (pc := 239) C 243 dX2_after_239 rfl ?_
          rw [if_neg hd1] at kJ
          exact kJ
      replace h := ite_F h hs14
      by_cases hs15 : v0 = 11
      · replace h := ite_T h hs15
        refine aw_tableIn (pc := 37) C 244 dX2_after_37 (by rw [hs15]; decide) (by rw [hs15]; decide) (by rw [hs15]; rfl) rfl ?_
        refine aw_iload_n (pc := 244) C dX2_after_244 rfl 0 rfl ?_
        have kJ : AV l p e s m args below meth c D cI cL ad 1 4 (.inr (some (.int r))) μ 264 [(3, .int x2), (2, .int x1), (0, .int v0), (1, .int v1)] [.int (if x2 = 0 then ((if v1 = 44 then (1 : Int32) else 0) : Int32) else 11)] μ := by
          cases h
          exact aw_iret (pc := 264) C dX2_after_264
        refine aw_if_eq (pc := 245) C 253 dX2_after_245 rfl (fun hd1 => ?_) (fun hd1 => ?_)
        · refine aw_iload_n (pc := 253) C dX2_after_253 rfl 3 rfl ?_
          refine aw_bipush (pc := 254) C (v := 44) dX2_after_254 rfl ?_
          refine aw_icmp_ne (pc := 256) C 263 dX2_after_256 rfl (fun hd2 => ?_) (fun hd2 => ?_)
          · refine aw_iconst (pc := 263) C (v := 0) dX2_after_263 rfl ?_
            rw [if_pos hd1, if_neg hd2] at kJ
            exact kJ
          · refine aw_iconst (pc := 259) C (v := 1) dX2_after_259 rfl ?_
            refine aw_goto (pc := 260) C 264 dX2_after_260 rfl ?_
            rw [if_pos hd1, if_pos hd2] at kJ
            exact kJ
        · refine aw_bipush (pc := 248) C (v := 11) dX2_after_248 rfl ?_
          refine aw_goto (pc := 250) C 264 dX2_after_250 rfl ?_
          rw [if_neg hd1] at kJ
          exact kJ
      replace h := ite_F h hs15
      refine aw_tableOut (pc := 37) C 265 dX2_after_37 (by have hs3z := sw_ne hs3 (show Int32.toInt 1 = 1 by decide); have hs4z := sw_ne hs4 (show Int32.toInt 2 = 2 by decide); have hs7z := sw_ne hs7 (show Int32.toInt 3 = 3 by decide); have hs8z := sw_ne hs8 (show Int32.toInt 4 = 4 by decide); have hs9z := sw_ne hs9 (show Int32.toInt 5 = 5 by decide); have hs10z := sw_ne hs10 (show Int32.toInt 6 = 6 by decide); have hs11z := sw_ne hs11 (show Int32.toInt 7 = 7 by decide); have hs12z := sw_ne hs12 (show Int32.toInt 8 = 8 by decide); have hs13z := sw_ne hs13 (show Int32.toInt 9 = 9 by decide); have hs14z := sw_ne hs14 (show Int32.toInt 10 = 10 by decide); have hs15z := sw_ne hs15 (show Int32.toInt 11 = 11 by decide); omega) rfl ?_
      refine aw_iconst (pc := 265) C (v := 0) dX2_after_265 rfl ?_
      cases h
      exact aw_iret (pc := 266) C dX2_after_266
    refine aw_icmp_lt (pc := 21) C 34 dX2_after_21 rfl (fun hd1 => ?_) (fun hd1 => ?_)
    · refine aw_iconst (pc := 34) C (v := 0) dX2_after_34 rfl ?_
      rw [if_pos hd1] at kJ
      exact kJ
    · refine aw_iload_n (pc := 24) C dX2_after_24 rfl 2 rfl ?_
      refine aw_bipush (pc := 25) C (v := 122) dX2_after_25 rfl ?_
      refine aw_icmp_gt (pc := 27) C 34 dX2_after_27 rfl (fun hd2 => ?_) (fun hd2 => ?_)
      · refine aw_iconst (pc := 34) C (v := 0) dX2_after_34 rfl ?_
        rw [if_neg hd1, if_pos hd2] at kJ
        exact kJ
      · refine aw_iconst (pc := 30) C (v := 1) dX2_after_30 rfl ?_
        refine aw_goto (pc := 31) C 35 dX2_after_31 rfl ?_
        rw [if_neg hd1, if_neg hd2] at kJ
        exact kJ
  refine aw_icmp_lt (pc := 3) C 16 dX2_after_3 rfl (fun hd1 => ?_) (fun hd1 => ?_)
  · refine aw_iconst (pc := 16) C (v := 0) dX2_after_16 rfl ?_
    rw [if_pos hd1] at kJ
    exact kJ
  · refine aw_iload_n (pc := 6) C dX2_after_6 rfl 1 rfl ?_
    refine aw_bipush (pc := 7) C (v := 80) dX2_after_7 rfl ?_
    refine aw_icmp_gt (pc := 9) C 16 dX2_after_9 rfl (fun hd2 => ?_) (fun hd2 => ?_)
    · refine aw_iconst (pc := 16) C (v := 0) dX2_after_16 rfl ?_
      rw [if_neg hd1, if_pos hd2] at kJ
      exact kJ
    · refine aw_iconst (pc := 12) C (v := 1) dX2_after_12 rfl ?_
      refine aw_goto (pc := 13) C 17 dX2_after_13 rfl ?_
      rw [if_neg hd1, if_neg hd2] at kJ
      exact kJ
/-! ### NameScopes$Text.codeAt(I)I -/
theorem ok_X2_codeAt_j21 {l : Launch} {p : Program} {e : Env} {s : State} {m : MethodId} {args : Array Value} {below : List Frame} {meth : Method} {c : Code} {D : va_G} {cI cL : ClassId} {ad : Nat → Nat} (C : CX p l s m args meth c RX2 cX2_codeAt 2 (some .int) D cI cL (AA ad s.heap.size)) (hex : ∀ x ∈ c.exceptionTable.toList, False) {r : Int32} {v1 : Int32} {μ : Mm}  (h : X2_codeAt_j21 v1 μ = some r) : AV l p e s m args below meth c D cI cL ad 0 2 (.inr (some (.int r))) μ 21 [] [] μ := by
  unfold X2_codeAt_j21 at h
  refine aw_iconst (pc := 21) C (v := 0) dX2_codeAt_21 rfl ?_
  cases h
  exact aw_iret (pc := 22) C dX2_codeAt_22
theorem ok_X2_codeAt {l : Launch} (htr : l.stackTraces = false) {v1 : Int32} {μ : Mm} {r : Int32}  (h : X2_codeAt v1 μ = some r) : MetX l yX2_codeAt cX2_codeAt 2 (some .int) 0 (fun ad => [.ref (ad 1), .int v1]) μ (.inr (some (.int r))) μ := by
  refine MetX.of htr (by decide) rfl (fun ad => Nat.le_of_ble_eq_true rfl) (fun p e s m args below meth c D cI cL ad C hex hw => ?_)
  show AV l p e s m args below meth c D cI cL ad 0 2 (.inr (some (.int r))) μ 0 [(0, .ref (ad 1)), (1, .int v1)] [] μ
  unfold X2_codeAt at h
  refine aw_iload_n (pc := 0) C dX2_codeAt_0 rfl 1 rfl ?_
  refine aw_if_lt (pc := 1) C 21 dX2_codeAt_1 rfl (fun hc => ?_) (fun hc => ?_)
  · replace h := ite_T h hc
    refine aw_sub [] rfl ?_
    exact ok_X2_codeAt_j21 C hex h
  · replace h := ite_F h hc
    refine aw_iload_n (pc := 4) C dX2_codeAt_4 rfl 1 rfl ?_
    refine aw_aload_n (pc := 5) C dX2_codeAt_5 rfl 0 rfl ?_
    refine aw_get (pc := 6) C (a := 1) (k := 1) (v := .int (μ.1 1 1)) inX2 rfl rfl (by decide) q31 dX2_codeAt_6 rfl ?_
    refine aw_icmp_ge (pc := 9) C 21 dX2_codeAt_9 rfl (fun hc => ?_) (fun hc => ?_)
    · replace h := ite_T h hc
      refine aw_sub [] rfl ?_
      exact ok_X2_codeAt_j21 C hex h
    · replace h := ite_F h hc
      refine aw_aload_n (pc := 12) C dX2_codeAt_12 rfl 0 rfl ?_
      refine aw_get (pc := 13) C (a := 1) (k := 0) (v := .ref (ad 2)) inX2 rfl rfl (by decide) q30 dX2_codeAt_13 rfl ?_
      refine aw_iload_n (pc := 16) C dX2_codeAt_16 rfl 1 rfl ?_
      obtain ⟨g1, h⟩ := ck_some h
      refine aw_iaload (pc := 17) C (a := 2) rfl g1 dX2_codeAt_17 ?_
      refine aw_goto (pc := 18) C 22 dX2_codeAt_18 rfl ?_
      cases h
      exact aw_iret (pc := 22) C dX2_codeAt_22
/-! ### NameScopes$Text.exceptedFrom(I)I -/
theorem ok_X2_exceptedFrom_l4 {l : Launch} {p : Program} {e : Env} {s : State} {m : MethodId} {args : Array Value} {below : List Frame} {meth : Method} {c : Code} {D : va_G} {cI cL : ClassId} {ad : Nat → Nat} (C : CX p l s m args meth c RX2 cX2_exceptedFrom 4 (some .int) D cI cL (AA ad s.heap.size)) (hex : ∀ x ∈ c.exceptionTable.toList, False) {r : Int32} {v1 : Int32} {μ : Mm} {k4 : Int32 → Int32 → Option Int32} (hk4 : ∀ (v2 : Int32) (v3 : Int32), k4 v2 v3 = some r → AV l p e s m args below meth c D cI cL ad 1 4 (.inr (some (.int r))) μ 4 [(0, .ref (ad 1)), (2, .int v2), (3, .int v3)] [] μ) {v2 : Int32} {v3 : Int32}  (h : X2_exceptedFrom_l4 v1 μ k4 v2 v3 = some r) : AV l p e s m args below meth c D cI cL ad 1 4 (.inr (some (.int r))) μ 4 [(0, .ref (ad 1)), (2, .int v2), (3, .int v3)] [] μ := by
  unfold X2_exceptedFrom_l4 at h
  refine aw_iload_n (pc := 4) C dX2_exceptedFrom_4 rfl 2 rfl ?_
  refine aw_aload_n (pc := 5) C dX2_exceptedFrom_5 rfl 0 rfl ?_
  refine aw_get (pc := 6) C (a := 1) (k := 1) (v := .int (μ.1 1 1)) inX2 rfl rfl (by decide) q31 dX2_exceptedFrom_6 rfl ?_
  refine aw_icmp_ge (pc := 9) C 41 dX2_exceptedFrom_9 rfl (fun hc => ?_) (fun hc => ?_)
  · replace h := ite_T h hc
    refine aw_iload_n (pc := 41) C dX2_exceptedFrom_41 rfl 1 rfl ?_
    cases h
    exact aw_iret (pc := 42) C dX2_exceptedFrom_42
  · replace h := ite_F h hc
    refine aw_aload_n (pc := 12) C dX2_exceptedFrom_12 rfl 0 rfl ?_
    refine aw_iload_n (pc := 13) C dX2_exceptedFrom_13 rfl 2 rfl ?_
    obtain ⟨q2, hq1, h⟩ := bi_some h
    refine aw_Vi (pc := 14) (a := 1) (Bs := [.int v3]) C (ok_X2_codeAt C.tr hq1) kv_X2_codeAt q612 rfl rfl rfl rfl dX2_exceptedFrom_14 ⟨(show 1 ≤ 1 by decide), (show 21 ≤ 31 by decide)⟩ ⟨Nat.zero_le _, Nat.zero_le _⟩ [] (Nat.le_of_ble_eq_true rfl) rfl ?_
    refine aw_bipush (pc := 17) C (v := 97) dX2_exceptedFrom_17 rfl ?_
    refine aw_icmp_lt (pc := 19) C 41 dX2_exceptedFrom_19 rfl (fun hc => ?_) (fun hc => ?_)
    · replace h := ite_T h hc
      refine aw_iload_n (pc := 41) C dX2_exceptedFrom_41 rfl 1 rfl ?_
      cases h
      exact aw_iret (pc := 42) C dX2_exceptedFrom_42
    · replace h := ite_F h hc
      refine aw_iload_n (pc := 22) C dX2_exceptedFrom_22 rfl 1 rfl ?_
      refine aw_iconst (pc := 23) C (v := 1) dX2_exceptedFrom_23 rfl ?_
      refine aw_aload_n (pc := 24) C dX2_exceptedFrom_24 rfl 0 rfl ?_
      refine aw_iload_n (pc := 25) C dX2_exceptedFrom_25 rfl 2 rfl ?_
      obtain ⟨q4, hq3, h⟩ := bi_some h
      refine aw_Vi (pc := 26) (a := 1) (Bs := [.int v3]) C (ok_X2_codeAt C.tr hq3) kv_X2_codeAt q612 rfl rfl rfl rfl dX2_exceptedFrom_26 ⟨(show 1 ≤ 1 by decide), (show 21 ≤ 31 by decide)⟩ ⟨Nat.zero_le _, Nat.zero_le _⟩ [.int 1, .int v2] (Nat.le_of_ble_eq_true rfl) rfl ?_
      refine aw_bipush (pc := 29) C (v := 97) dX2_exceptedFrom_29 rfl ?_
      refine aw_isub (pc := 31) C dX2_exceptedFrom_31 ?_
      refine aw_ishl (pc := 32) C dX2_exceptedFrom_32 ?_
      refine aw_ior (pc := 33) C dX2_exceptedFrom_33 ?_
      obtain ⟨x5, ex5, h⟩ := bd_some h
      refine aw_istore_n (pc := 34) C (x := x5) (lv' := [(2, .int x5), (0, .ref (ad 1)), (3, .int v3)]) dX2_exceptedFrom_34 rfl (by decide) ex5 rfl ?_
      refine aw_iinc (pc := 35) C (v := (v3 + 1)) (lv' := [(3, .int (v3 + 1)), (2, .int x5), (0, .ref (ad 1))]) dX2_exceptedFrom_35 2 rfl (by decide) rfl rfl ?_
      refine aw_goto (pc := 38) C 4 dX2_exceptedFrom_38 rfl ?_
      refine aw_sub [2, 1, 0] rfl ?_
      exact hk4 x5 (v3 + 1) h
theorem ok_X2_exceptedFrom_l4_w {l : Launch} {p : Program} {e : Env} {s : State} {m : MethodId} {args : Array Value} {below : List Frame} {meth : Method} {c : Code} {D : va_G} {cI cL : ClassId} {ad : Nat → Nat} (C : CX p l s m args meth c RX2 cX2_exceptedFrom 4 (some .int) D cI cL (AA ad s.heap.size)) (hex : ∀ x ∈ c.exceptionTable.toList, False) {r : Int32} {v1 : Int32} {μ : Mm} : ∀ (n : Nat) (v2 : Int32) (v3 : Int32) , itr (X2_exceptedFrom_l4 v1 μ) (fun _ _ => none) n v2 v3 = some r → AV l p e s m args below meth c D cI cL ad 1 4 (.inr (some (.int r))) μ 4 [(0, .ref (ad 1)), (2, .int v2), (3, .int v3)] [] μ := by
  intro n
  induction n with
  | zero => intro v2 v3 h; exact nomatch (show (none : Option Int32) = some r from h)
  | succ n ih => intro v2 v3 h; exact ok_X2_exceptedFrom_l4 C hex (v1 := v1) (μ := μ) ih h
theorem ok_X2_exceptedFrom {l : Launch} (htr : l.stackTraces = false) {v1 : Int32} {μ : Mm} {r : Int32}  (h : X2_exceptedFrom v1 μ = some r) : MetX l yX2_exceptedFrom cX2_exceptedFrom 4 (some .int) 1 (fun ad => [.ref (ad 1), .int v1]) μ (.inr (some (.int r))) μ := by
  refine MetX.of htr (by decide) rfl (fun ad => Nat.le_of_ble_eq_true rfl) (fun p e s m args below meth c D cI cL ad C hex hw => ?_)
  show AV l p e s m args below meth c D cI cL ad 1 4 (.inr (some (.int r))) μ 0 [(0, .ref (ad 1)), (1, .int v1)] [] μ
  unfold X2_exceptedFrom at h
  refine aw_iconst (pc := 0) C (v := 0) dX2_exceptedFrom_0 rfl ?_
  refine aw_istore_n (pc := 1) C (x := 0) (lv' := [(2, .int 0), (0, .ref (ad 1)), (1, .int v1)]) dX2_exceptedFrom_1 rfl (by decide) rfl rfl ?_
  refine aw_iload_n (pc := 2) C dX2_exceptedFrom_2 rfl 2 rfl ?_
  refine aw_istore_n (pc := 3) C (x := v1) (lv' := [(3, .int v1), (2, .int 0), (0, .ref (ad 1)), (1, .int v1)]) dX2_exceptedFrom_3 rfl (by decide) rfl rfl ?_
  refine aw_sub [2, 1, 0] rfl ?_
  exact ok_X2_exceptedFrom_l4_w C hex big 0 v1 h
/-! ### NameScopes$Text.firstWrong()I -/
theorem ok_X2_firstWrong_l4 {l : Launch} {p : Program} {e : Env} {s : State} {m : MethodId} {args : Array Value} {below : List Frame} {meth : Method} {c : Code} {D : va_G} {cI cL : ClassId} {ad : Nat → Nat} (C : CX p l s m args meth c RX2 cX2_firstWrong 3 (some .int) D cI cL (AA ad s.heap.size)) (hex : ∀ x ∈ c.exceptionTable.toList, False) {r : Int32} {μ : Mm} {k4 : Int32 → Int32 → Option Int32} (hk4 : ∀ (v1 : Int32) (v2 : Int32), k4 v1 v2 = some r → AV l p e s m args below meth c D cI cL ad 2 3 (.inr (some (.int r))) μ 4 [(0, .ref (ad 1)), (1, .int v1), (2, .int v2)] [] μ) {v1 : Int32} {v2 : Int32}  (h : X2_firstWrong_l4 μ k4 v1 v2 = some r) : AV l p e s m args below meth c D cI cL ad 2 3 (.inr (some (.int r))) μ 4 [(0, .ref (ad 1)), (1, .int v1), (2, .int v2)] [] μ := by
  unfold X2_firstWrong_l4 at h
  refine aw_iload_n (pc := 4) C dX2_firstWrong_4 rfl 2 rfl ?_
  refine aw_aload_n (pc := 5) C dX2_firstWrong_5 rfl 0 rfl ?_
  refine aw_get (pc := 6) C (a := 1) (k := 1) (v := .int (μ.1 1 1)) inX2 rfl rfl (by decide) q31 dX2_firstWrong_6 rfl ?_
  refine aw_icmp_ge (pc := 9) C 35 dX2_firstWrong_9 rfl (fun hc => ?_) (fun hc => ?_)
  · replace h := ite_T h hc
    refine aw_aload_n (pc := 35) C dX2_firstWrong_35 rfl 0 rfl ?_
    refine aw_get (pc := 36) C (a := 1) (k := 1) (v := .int (μ.1 1 1)) inX2 rfl rfl (by decide) q31 dX2_firstWrong_36 rfl ?_
    cases h
    exact aw_iret (pc := 39) C dX2_firstWrong_39
  · replace h := ite_F h hc
    refine aw_iload_n (pc := 12) C dX2_firstWrong_12 rfl 1 rfl ?_
    refine aw_aload_n (pc := 13) C dX2_firstWrong_13 rfl 0 rfl ?_
    refine aw_get (pc := 14) C (a := 1) (k := 0) (v := .ref (ad 2)) inX2 rfl rfl (by decide) q30 dX2_firstWrong_14 rfl ?_
    refine aw_iload_n (pc := 17) C dX2_firstWrong_17 rfl 2 rfl ?_
    obtain ⟨g1, h⟩ := ck_some h
    refine aw_iaload (pc := 18) C (a := 2) rfl g1 dX2_firstWrong_18 ?_
    obtain ⟨q3, hq2, h⟩ := bi_some h
    refine aw_Si (pc := 19) (Bs := [.int v1, .int (μ.1 2 (v2 : Int32).toNatClampNeg)]) C (ok_X2_after C.tr hq2) kv_X2_after q219 rfl rfl dX2_firstWrong_19 ⟨(show 2 ≤ 2 by decide), (show 54 ≤ 62 by decide)⟩ ⟨Nat.zero_le _, Nat.zero_le _⟩ [] (Nat.le_of_ble_eq_true rfl) rfl ?_
    refine aw_istore_n (pc := 22) C (x := q3) (lv' := [(1, .int q3), (0, .ref (ad 1)), (2, .int v2)]) dX2_firstWrong_22 rfl (by decide) rfl rfl ?_
    refine aw_iload_n (pc := 23) C dX2_firstWrong_23 rfl 0 rfl ?_
    refine aw_if_ne (pc := 24) C 29 dX2_firstWrong_24 rfl (fun hc => ?_) (fun hc => ?_)
    · replace h := ite_F h hc
      refine aw_iinc (pc := 29) C (v := (v2 + 1)) (lv' := [(2, .int (v2 + 1)), (1, .int q3), (0, .ref (ad 1))]) dX2_firstWrong_29 2 rfl (by decide) rfl rfl ?_
      refine aw_goto (pc := 32) C 4 dX2_firstWrong_32 rfl ?_
      refine aw_sub [2, 1, 0] rfl ?_
      exact hk4 q3 (v2 + 1) h
    · replace h := ite_T h hc
      refine aw_iload_n (pc := 27) C dX2_firstWrong_27 rfl 2 rfl ?_
      cases h
      exact aw_iret (pc := 28) C dX2_firstWrong_28
theorem ok_X2_firstWrong_l4_w {l : Launch} {p : Program} {e : Env} {s : State} {m : MethodId} {args : Array Value} {below : List Frame} {meth : Method} {c : Code} {D : va_G} {cI cL : ClassId} {ad : Nat → Nat} (C : CX p l s m args meth c RX2 cX2_firstWrong 3 (some .int) D cI cL (AA ad s.heap.size)) (hex : ∀ x ∈ c.exceptionTable.toList, False) {r : Int32} {μ : Mm} : ∀ (n : Nat) (v1 : Int32) (v2 : Int32) , itr (X2_firstWrong_l4 μ) (fun _ _ => none) n v1 v2 = some r → AV l p e s m args below meth c D cI cL ad 2 3 (.inr (some (.int r))) μ 4 [(0, .ref (ad 1)), (1, .int v1), (2, .int v2)] [] μ := by
  intro n
  induction n with
  | zero => intro v1 v2 h; exact nomatch (show (none : Option Int32) = some r from h)
  | succ n ih => intro v1 v2 h; exact ok_X2_firstWrong_l4 C hex (μ := μ) ih h
theorem ok_X2_firstWrong {l : Launch} (htr : l.stackTraces = false) {μ : Mm} {r : Int32}  (h : X2_firstWrong μ = some r) : MetX l yX2_firstWrong cX2_firstWrong 3 (some .int) 2 (fun ad => [.ref (ad 1)]) μ (.inr (some (.int r))) μ := by
  refine MetX.of htr (by decide) rfl (fun ad => Nat.le_of_ble_eq_true rfl) (fun p e s m args below meth c D cI cL ad C hex hw => ?_)
  show AV l p e s m args below meth c D cI cL ad 2 3 (.inr (some (.int r))) μ 0 [(0, .ref (ad 1))] [] μ
  unfold X2_firstWrong at h
  refine aw_iconst (pc := 0) C (v := 1) dX2_firstWrong_0 rfl ?_
  refine aw_istore_n (pc := 1) C (x := 1) (lv' := [(1, .int 1), (0, .ref (ad 1))]) dX2_firstWrong_1 rfl (by decide) rfl rfl ?_
  refine aw_iconst (pc := 2) C (v := 0) dX2_firstWrong_2 rfl ?_
  refine aw_istore_n (pc := 3) C (x := 0) (lv' := [(2, .int 0), (1, .int 1), (0, .ref (ad 1))]) dX2_firstWrong_3 rfl (by decide) rfl rfl ?_
  refine aw_sub [2, 1, 0] rfl ?_
  exact ok_X2_firstWrong_l4_w C hex big 1 0 h
/-! ### NameScopes$Text.isComplete()Z -/
theorem ok_X2_isComplete_l4 {l : Launch} {p : Program} {e : Env} {s : State} {m : MethodId} {args : Array Value} {below : List Frame} {meth : Method} {c : Code} {D : va_G} {cI cL : ClassId} {ad : Nat → Nat} (C : CX p l s m args meth c RX2 cX2_isComplete 3 (some .boolean) D cI cL (AA ad s.heap.size)) (hex : ∀ x ∈ c.exceptionTable.toList, False) {r : Int32} {μ : Mm} {k4 : Int32 → Int32 → Option Int32} (hk4 : ∀ (v1 : Int32) (v2 : Int32), k4 v1 v2 = some r → AV l p e s m args below meth c D cI cL ad 2 3 (.inr (some (.int r))) μ 4 [(0, .ref (ad 1)), (1, .int v1), (2, .int v2)] [] μ) {v1 : Int32} {v2 : Int32}  (h : X2_isComplete_l4 μ k4 v1 v2 = some r) : AV l p e s m args below meth c D cI cL ad 2 3 (.inr (some (.int r))) μ 4 [(0, .ref (ad 1)), (1, .int v1), (2, .int v2)] [] μ := by
  unfold X2_isComplete_l4 at h
  refine aw_iload_n (pc := 4) C dX2_isComplete_4 rfl 2 rfl ?_
  refine aw_aload_n (pc := 5) C dX2_isComplete_5 rfl 0 rfl ?_
  refine aw_get (pc := 6) C (a := 1) (k := 1) (v := .int (μ.1 1 1)) inX2 rfl rfl (by decide) q31 dX2_isComplete_6 rfl ?_
  refine aw_icmp_ge (pc := 9) C 29 dX2_isComplete_9 rfl (fun hc => ?_) (fun hc => ?_)
  · replace h := ite_T h hc
    refine aw_iload_n (pc := 29) C dX2_isComplete_29 rfl 1 rfl ?_
    refine aw_iconst (pc := 30) C (v := 4) dX2_isComplete_30 rfl ?_
    have kJ : AV l p e s m args below meth c D cI cL ad 2 3 (.inr (some (.int r))) μ 57 [(0, .ref (ad 1)), (1, .int v1), (2, .int v2)] [.int (if v1 = 4 then (1 : Int32) else (if v1 = 7 then (1 : Int32) else (if v1 = 9 then (1 : Int32) else (if v1 = 11 then (1 : Int32) else 0))))] μ := by
      cases h
      exact aw_zret (pc := 57) C (b01_nar (b01_ite b01_1 (b01_ite b01_1 (b01_ite b01_1 (b01_ite b01_1 b01_0))))) dX2_isComplete_57
    refine aw_icmp_eq (pc := 31) C 52 dX2_isComplete_31 rfl (fun hd1 => ?_) (fun hd1 => ?_)
    · refine aw_iconst (pc := 52) C (v := 1) dX2_isComplete_52 rfl ?_
      refine aw_goto (pc := 53) C 57 dX2_isComplete_53 rfl ?_
      rw [if_pos hd1] at kJ
      exact kJ
    · refine aw_iload_n (pc := 34) C dX2_isComplete_34 rfl 1 rfl ?_
      refine aw_bipush (pc := 35) C (v := 7) dX2_isComplete_35 rfl ?_
      refine aw_icmp_eq (pc := 37) C 52 dX2_isComplete_37 rfl (fun hd2 => ?_) (fun hd2 => ?_)
      · refine aw_iconst (pc := 52) C (v := 1) dX2_isComplete_52 rfl ?_
        refine aw_goto (pc := 53) C 57 dX2_isComplete_53 rfl ?_
        rw [if_neg hd1, if_pos hd2] at kJ
        exact kJ
      · refine aw_iload_n (pc := 40) C dX2_isComplete_40 rfl 1 rfl ?_
        refine aw_bipush (pc := 41) C (v := 9) dX2_isComplete_41 rfl ?_
        refine aw_icmp_eq (pc := 43) C 52 dX2_isComplete_43 rfl (fun hd3 => ?_) (fun hd3 => ?_)
        · refine aw_iconst (pc := 52) C (v := 1) dX2_isComplete_52 rfl ?_
          refine aw_goto (pc := 53) C 57 dX2_isComplete_53 rfl ?_
          rw [if_neg hd1, if_neg hd2, if_pos hd3] at kJ
          exact kJ
        · refine aw_iload_n (pc := 46) C dX2_isComplete_46 rfl 1 rfl ?_
          refine aw_bipush (pc := 47) C (v := 11) dX2_isComplete_47 rfl ?_
          refine aw_icmp_ne (pc := 49) C 56 dX2_isComplete_49 rfl (fun hd4 => ?_) (fun hd4 => ?_)
          · refine aw_iconst (pc := 56) C (v := 0) dX2_isComplete_56 rfl ?_
            rw [if_neg hd1, if_neg hd2, if_neg hd3, if_neg hd4] at kJ
            exact kJ
          · refine aw_iconst (pc := 52) C (v := 1) dX2_isComplete_52 rfl ?_
            refine aw_goto (pc := 53) C 57 dX2_isComplete_53 rfl ?_
            rw [if_neg hd1, if_neg hd2, if_neg hd3, if_pos hd4] at kJ
            exact kJ
  · replace h := ite_F h hc
    refine aw_iload_n (pc := 12) C dX2_isComplete_12 rfl 1 rfl ?_
    refine aw_aload_n (pc := 13) C dX2_isComplete_13 rfl 0 rfl ?_
    refine aw_get (pc := 14) C (a := 1) (k := 0) (v := .ref (ad 2)) inX2 rfl rfl (by decide) q30 dX2_isComplete_14 rfl ?_
    refine aw_iload_n (pc := 17) C dX2_isComplete_17 rfl 2 rfl ?_
    obtain ⟨g1, h⟩ := ck_some h
    refine aw_iaload (pc := 18) C (a := 2) rfl g1 dX2_isComplete_18 ?_
    obtain ⟨q3, hq2, h⟩ := bi_some h
    refine aw_Si (pc := 19) (Bs := [.int v1, .int (μ.1 2 (v2 : Int32).toNatClampNeg)]) C (ok_X2_after C.tr hq2) kv_X2_after q219 rfl rfl dX2_isComplete_19 ⟨(show 2 ≤ 2 by decide), (show 54 ≤ 62 by decide)⟩ ⟨Nat.zero_le _, Nat.zero_le _⟩ [] (Nat.le_of_ble_eq_true rfl) rfl ?_
    refine aw_istore_n (pc := 22) C (x := q3) (lv' := [(1, .int q3), (0, .ref (ad 1)), (2, .int v2)]) dX2_isComplete_22 rfl (by decide) rfl rfl ?_
    refine aw_iinc (pc := 23) C (v := (v2 + 1)) (lv' := [(2, .int (v2 + 1)), (1, .int q3), (0, .ref (ad 1))]) dX2_isComplete_23 2 rfl (by decide) rfl rfl ?_
    refine aw_goto (pc := 26) C 4 dX2_isComplete_26 rfl ?_
    refine aw_sub [2, 1, 0] rfl ?_
    exact hk4 q3 (v2 + 1) h
theorem ok_X2_isComplete_l4_w {l : Launch} {p : Program} {e : Env} {s : State} {m : MethodId} {args : Array Value} {below : List Frame} {meth : Method} {c : Code} {D : va_G} {cI cL : ClassId} {ad : Nat → Nat} (C : CX p l s m args meth c RX2 cX2_isComplete 3 (some .boolean) D cI cL (AA ad s.heap.size)) (hex : ∀ x ∈ c.exceptionTable.toList, False) {r : Int32} {μ : Mm} : ∀ (n : Nat) (v1 : Int32) (v2 : Int32) , itr (X2_isComplete_l4 μ) (fun _ _ => none) n v1 v2 = some r → AV l p e s m args below meth c D cI cL ad 2 3 (.inr (some (.int r))) μ 4 [(0, .ref (ad 1)), (1, .int v1), (2, .int v2)] [] μ := by
  intro n
  induction n with
  | zero => intro v1 v2 h; exact nomatch (show (none : Option Int32) = some r from h)
  | succ n ih => intro v1 v2 h; exact ok_X2_isComplete_l4 C hex (μ := μ) ih h
theorem ok_X2_isComplete {l : Launch} (htr : l.stackTraces = false) {μ : Mm} {r : Int32}  (h : X2_isComplete μ = some r) : MetX l yX2_isComplete cX2_isComplete 3 (some .boolean) 2 (fun ad => [.ref (ad 1)]) μ (.inr (some (.int r))) μ := by
  refine MetX.of htr (by decide) rfl (fun ad => Nat.le_of_ble_eq_true rfl) (fun p e s m args below meth c D cI cL ad C hex hw => ?_)
  show AV l p e s m args below meth c D cI cL ad 2 3 (.inr (some (.int r))) μ 0 [(0, .ref (ad 1))] [] μ
  unfold X2_isComplete at h
  refine aw_iconst (pc := 0) C (v := 1) dX2_isComplete_0 rfl ?_
  refine aw_istore_n (pc := 1) C (x := 1) (lv' := [(1, .int 1), (0, .ref (ad 1))]) dX2_isComplete_1 rfl (by decide) rfl rfl ?_
  refine aw_iconst (pc := 2) C (v := 0) dX2_isComplete_2 rfl ?_
  refine aw_istore_n (pc := 3) C (x := 0) (lv' := [(2, .int 0), (1, .int 1), (0, .ref (ad 1))]) dX2_isComplete_3 rfl (by decide) rfl rfl ?_
  refine aw_sub [2, 1, 0] rfl ?_
  exact ok_X2_isComplete_l4_w C hex big 1 0 h
/-! ### NameScopes$Text.put(I)I -/
theorem ok_X2_put {l : Launch} (htr : l.stackTraces = false) {v1 : Int32} {μ : Mm} {r : (Int32 × Mm)}  (h : X2_put v1 μ = some r) : MetX l yX2_put cX2_put 2 (some .int) 0 (fun ad => [.ref (ad 1), .int v1]) μ (.inr (some (.int r.1))) r.2 := by
  refine MetX.of htr (by decide) rfl (fun ad => Nat.le_of_ble_eq_true rfl) (fun p e s m args below meth c D cI cL ad C hex hw => ?_)
  show AV l p e s m args below meth c D cI cL ad 0 2 (.inr (some (.int r.1))) r.2 0 [(0, .ref (ad 1)), (1, .int v1)] [] μ
  unfold X2_put at h
  refine aw_aload_n (pc := 0) C dX2_put_0 rfl 0 rfl ?_
  refine aw_get (pc := 1) C (a := 1) (k := 1) (v := .int (μ.1 1 1)) inX2 rfl rfl (by decide) q31 dX2_put_1 rfl ?_
  refine aw_bipush (pc := 4) C (v := 50) dX2_put_4 rfl ?_
  refine aw_icmp_ge (pc := 6) C 29 dX2_put_6 rfl (fun hc => ?_) (fun hc => ?_)
  · replace h := ite_T h hc
    refine aw_aload_n (pc := 29) C dX2_put_29 rfl 0 rfl ?_
    refine aw_get (pc := 30) C (a := 1) (k := 1) (v := .int (μ.1 1 1)) inX2 rfl rfl (by decide) q31 dX2_put_30 rfl ?_
    cases h
    exact aw_iret (pc := 33) C dX2_put_33
  · replace h := ite_F h hc
    refine aw_aload_n (pc := 9) C dX2_put_9 rfl 0 rfl ?_
    refine aw_get (pc := 10) C (a := 1) (k := 0) (v := .ref (ad 2)) inX2 rfl rfl (by decide) q30 dX2_put_10 rfl ?_
    refine aw_aload_n (pc := 13) C dX2_put_13 rfl 0 rfl ?_
    refine aw_get (pc := 14) C (a := 1) (k := 1) (v := .int (μ.1 1 1)) inX2 rfl rfl (by decide) q31 dX2_put_14 rfl ?_
    refine aw_iload_n (pc := 17) C dX2_put_17 rfl 1 rfl ?_
    obtain ⟨g1, h⟩ := ck_some h
    obtain ⟨μ2, eμ2, h⟩ := bd_some h
    refine aw_iastore (pc := 18) C (a := 2) rfl g1 dX2_put_18 eμ2 ?_
    refine aw_aload_n (pc := 19) C dX2_put_19 rfl 0 rfl ?_
    refine aw_dup (pc := 20) C dX2_put_20 rfl ?_
    refine aw_get (pc := 21) C (a := 1) (k := 1) (v := .int (μ2.1 1 1)) inX2 rfl rfl (by decide) q31 dX2_put_21 rfl ?_
    refine aw_iconst (pc := 24) C (v := 1) dX2_put_24 rfl ?_
    refine aw_iadd (pc := 25) C dX2_put_25 ?_
    obtain ⟨μ3, eμ3, h⟩ := bd_some h
    refine aw_putI (pc := 26) C (a := 1) (k := 1) (ty := .int) inX2 tyX2 tyX2_ok nmX2 rfl rfl (by decide) q31 rfl (by decide +kernel) rfl rfl (by show 1 < 2; decide) dX2_put_26 fl_2_1 eμ3 ?_
    refine aw_aload_n (pc := 29) C dX2_put_29 rfl 0 rfl ?_
    refine aw_get (pc := 30) C (a := 1) (k := 1) (v := .int (μ3.1 1 1)) inX2 rfl rfl (by decide) q31 dX2_put_30 rfl ?_
    cases h
    exact aw_iret (pc := 33) C dX2_put_33
/-! ### NameScopes$Text.putImportItem(LNameScopes$Facts;II)I -/
theorem ok_X2_putImportItem_j152 {l : Launch} {p : Program} {e : Env} {s : State} {m : MethodId} {args : Array Value} {below : List Frame} {meth : Method} {c : Code} {D : va_G} {cI cL : ClassId} {ad : Nat → Nat} (C : CX p l s m args meth c RX2 cX2_putImportItem 10 (some .int) D cI cL (AA ad s.heap.size)) (hex : ∀ x ∈ c.exceptionTable.toList, False) {r : (Int32 × Mm)} {a1 : Nat} {v2 : Int32} {v3 : Int32} (ha1 : isF a1) {v4 : Int32} {v6 : Int32} {s0 : Int32} {μ : Mm}  (h : X2_putImportItem_j152 a1 v2 v3 v4 v6 s0 μ = some r) : AV l p e s m args below meth c D cI cL ad 2 10 (.inr (some (.int r.1))) r.2 152 [(1, .ref (ad a1)), (2, .int v2), (4, .int v4), (6, .int v6)] [.int s0] μ := by
  unfold X2_putImportItem_j152 at h
  refine aw_istore (pc := 152) C (x := s0) (lv' := [(8, .int s0), (1, .ref (ad a1)), (2, .int v2), (4, .int v4), (6, .int v6)]) dX2_putImportItem_152 (by decide) rfl rfl ?_
  refine aw_aload_n (pc := 154) C dX2_putImportItem_154 rfl 1 rfl ?_
  refine aw_iload_n (pc := 155) C dX2_putImportItem_155 rfl 2 rfl ?_
  refine aw_iload (pc := 156) C dX2_putImportItem_156 4 rfl ?_
  refine aw_iconst (pc := 158) C (v := (-1)) dX2_putImportItem_158 rfl ?_
  refine aw_iconst (pc := 159) C (v := (-1)) dX2_putImportItem_159 rfl ?_
  refine aw_iload (pc := 160) C dX2_putImportItem_160 0 rfl ?_
  refine aw_iload (pc := 162) C dX2_putImportItem_162 3 rfl ?_
  obtain ⟨q15, μ16, hq14, h⟩ := bn_some h
  refine aw_Vi (pc := 164) (a := a1) (Bs := [.int v2, .int v6, .int (-1), .int (-1), .int s0, .int v4]) C (ok_X0_putImport C.tr ha1 hq14) kv_X0_putImport q618 (kdF ha1) rfl rfl rfl dX2_putImportItem_164 ⟨(show 1 ≤ 2 by decide), (show 26 ≤ 62 by decide)⟩ ⟨Nat.zero_le _, Nat.zero_le _⟩ [] (Nat.le_of_ble_eq_true rfl) rfl ?_
  refine aw_pop (pc := 167) C dX2_putImportItem_167 rfl ?_
  refine aw_iconst (pc := 168) C (v := 0) dX2_putImportItem_168 rfl ?_
  cases h
  exact aw_iret (pc := 169) C dX2_putImportItem_169
theorem ok_X2_putImportItem_j107 {l : Launch} {p : Program} {e : Env} {s : State} {m : MethodId} {args : Array Value} {below : List Frame} {meth : Method} {c : Code} {D : va_G} {cI cL : ClassId} {ad : Nat → Nat} (C : CX p l s m args meth c RX2 cX2_putImportItem 10 (some .int) D cI cL (AA ad s.heap.size)) (hex : ∀ x ∈ c.exceptionTable.toList, False) {r : (Int32 × Mm)} {a1 : Nat} {v2 : Int32} {v3 : Int32} (ha1 : isF a1) {v4 : Int32} {v6 : Int32} {v8 : Int32} {s0 : Int32} {μ : Mm}  (h : X2_putImportItem_j107 a1 v2 v3 v4 v6 v8 s0 μ = some r) : AV l p e s m args below meth c D cI cL ad 2 10 (.inr (some (.int r.1))) r.2 107 [(1, .ref (ad a1)), (2, .int v2), (4, .int v4), (6, .int v6), (8, .int v8)] [.int s0] μ := by
  unfold X2_putImportItem_j107 at h
  refine aw_istore (pc := 107) C (x := s0) (lv' := [(9, .int s0), (1, .ref (ad a1)), (2, .int v2), (4, .int v4), (6, .int v6), (8, .int v8)]) dX2_putImportItem_107 (by decide) rfl rfl ?_
  refine aw_aload_n (pc := 109) C dX2_putImportItem_109 rfl 1 rfl ?_
  refine aw_iload_n (pc := 110) C dX2_putImportItem_110 rfl 2 rfl ?_
  refine aw_iload (pc := 111) C dX2_putImportItem_111 4 rfl ?_
  refine aw_iload (pc := 113) C dX2_putImportItem_113 5 rfl ?_
  refine aw_iload (pc := 115) C dX2_putImportItem_115 0 rfl ?_
  refine aw_iconst (pc := 117) C (v := 0) dX2_putImportItem_117 rfl ?_
  refine aw_iload (pc := 118) C dX2_putImportItem_118 3 rfl ?_
  obtain ⟨q25, μ26, hq24, h⟩ := bn_some h
  refine aw_Vi (pc := 120) (a := a1) (Bs := [.int v2, .int v6, .int v8, .int s0, .int 0, .int v4]) C (ok_X0_putImport C.tr ha1 hq24) kv_X0_putImport q618 (kdF ha1) rfl rfl rfl dX2_putImportItem_120 ⟨(show 1 ≤ 2 by decide), (show 26 ≤ 62 by decide)⟩ ⟨Nat.zero_le _, Nat.zero_le _⟩ [] (Nat.le_of_ble_eq_true rfl) rfl ?_
  refine aw_pop (pc := 123) C dX2_putImportItem_123 rfl ?_
  refine aw_goto (pc := 124) C 168 dX2_putImportItem_124 rfl ?_
  refine aw_iconst (pc := 168) C (v := 0) dX2_putImportItem_168 rfl ?_
  cases h
  exact aw_iret (pc := 169) C dX2_putImportItem_169
theorem ok_X2_putImportItem {l : Launch} (htr : l.stackTraces = false) {a1 : Nat} {v2 : Int32} {v3 : Int32} {μ : Mm} {r : (Int32 × Mm)} (ha1 : isF a1) (h : X2_putImportItem a1 v2 v3 μ = some r) : MetX l yX2_putImportItem cX2_putImportItem 10 (some .int) 2 (fun ad => [.ref (ad 1), .ref (ad a1), .int v2, .int v3]) μ (.inr (some (.int r.1))) r.2 := by
  refine MetX.of htr (by decide) rfl (fun ad => Nat.le_of_ble_eq_true rfl) (fun p e s m args below meth c D cI cL ad C hex hw => ?_)
  show AV l p e s m args below meth c D cI cL ad 2 10 (.inr (some (.int r.1))) r.2 0 [(0, .ref (ad 1)), (1, .ref (ad a1)), (2, .int v2), (3, .int v3)] [] μ
  unfold X2_putImportItem at h
  refine aw_aload_n (pc := 0) C dX2_putImportItem_0 rfl 0 rfl ?_
  refine aw_iload_n (pc := 1) C dX2_putImportItem_1 rfl 3 rfl ?_
  obtain ⟨q2, hq1, h⟩ := bi_some h
  refine aw_Vi (pc := 2) (a := 1) (Bs := [.int v3]) C (ok_X2_codeAt C.tr hq1) kv_X2_codeAt q612 rfl rfl rfl rfl dX2_putImportItem_2 ⟨(show 1 ≤ 2 by decide), (show 21 ≤ 62 by decide)⟩ ⟨Nat.zero_le _, Nat.zero_le _⟩ [] (Nat.le_of_ble_eq_true rfl) rfl ?_
  refine aw_bipush (pc := 5) C (v := 60) dX2_putImportItem_5 rfl ?_
  have kJ : AV l p e s m args below meth c D cI cL ad 2 10 (.inr (some (.int r.1))) r.2 15 [(0, .ref (ad 1)), (1, .ref (ad a1)), (2, .int v2), (3, .int v3)] [.int (if q2 = 60 then (1 : Int32) else 0)] μ := by
    obtain ⟨x3, ex3, h⟩ := bd_some h
    refine aw_istore (pc := 15) C (x := x3) (lv' := [(4, .int x3), (0, .ref (ad 1)), (1, .ref (ad a1)), (2, .int v2), (3, .int v3)]) dX2_putImportItem_15 (by decide) ex3 rfl ?_
    refine aw_iload_n (pc := 17) C dX2_putImportItem_17 rfl 4 rfl ?_
    refine aw_iload (pc := 18) C dX2_putImportItem_18 0 rfl ?_
    refine aw_iadd (pc := 20) C dX2_putImportItem_20 ?_
    obtain ⟨x4, ex4, h⟩ := bd_some h
    refine aw_istore (pc := 21) C (x := x4) (lv' := [(5, .int x4), (4, .int x3), (0, .ref (ad 1)), (1, .ref (ad a1)), (2, .int v2), (3, .int v3)]) dX2_putImportItem_21 (by decide) ex4 rfl ?_
    refine aw_aload_n (pc := 23) C dX2_putImportItem_23 rfl 2 rfl ?_
    refine aw_iload (pc := 24) C dX2_putImportItem_24 0 rfl ?_
    obtain ⟨q6, hq5, h⟩ := bi_some h
    refine aw_Vi (pc := 26) (a := 1) (Bs := [.int x4]) C (ok_X2_codeAt C.tr hq5) kv_X2_codeAt q612 rfl rfl rfl rfl dX2_putImportItem_26 ⟨(show 1 ≤ 2 by decide), (show 21 ≤ 62 by decide)⟩ ⟨Nat.zero_le _, Nat.zero_le _⟩ [] (Nat.le_of_ble_eq_true rfl) rfl ?_
    refine aw_bipush (pc := 29) C (v := 65) dX2_putImportItem_29 rfl ?_
    refine aw_isub (pc := 31) C dX2_putImportItem_31 ?_
    obtain ⟨x7, ex7, h⟩ := bd_some h
    refine aw_istore (pc := 32) C (x := x7) (lv' := [(6, .int x7), (5, .int x4), (4, .int x3), (0, .ref (ad 1)), (1, .ref (ad a1)), (2, .int v2), (3, .int v3)]) dX2_putImportItem_32 (by decide) ex7 rfl ?_
    refine aw_aload_n (pc := 34) C dX2_putImportItem_34 rfl 4 rfl ?_
    refine aw_iload_n (pc := 35) C dX2_putImportItem_35 rfl 5 rfl ?_
    refine aw_iload (pc := 36) C dX2_putImportItem_36 0 rfl ?_
    refine aw_iconst (pc := 38) C (v := 1) dX2_putImportItem_38 rfl ?_
    obtain ⟨q9, hq8, h⟩ := bi_some h
    refine aw_Vi (pc := 39) (a := a1) (Bs := [.int v2, .int x7, .int 1]) C (ok_X0_refusalOfImport C.tr ha1 hq8) kv_X0_refusalOfImport q617 (kdF ha1) rfl rfl rfl dX2_putImportItem_39 ⟨(show 2 ≤ 2 by decide), (show 54 ≤ 62 by decide)⟩ ⟨Nat.zero_le _, Nat.zero_le _⟩ [] (Nat.le_of_ble_eq_true rfl) rfl ?_
    refine aw_istore (pc := 42) C (x := q9) (lv' := [(7, .int q9), (6, .int x7), (5, .int x4), (4, .int x3), (0, .ref (ad 1)), (1, .ref (ad a1)), (2, .int v2), (3, .int v3)]) dX2_putImportItem_42 (by decide) rfl rfl ?_
    refine aw_iload (pc := 44) C dX2_putImportItem_44 0 rfl ?_
    refine aw_if_eq (pc := 46) C 52 dX2_putImportItem_46 rfl (fun hc => ?_) (fun hc => ?_)
    · replace h := ite_T h hc
      refine aw_aload_n (pc := 52) C dX2_putImportItem_52 rfl 4 rfl ?_
      refine aw_iload (pc := 53) C dX2_putImportItem_53 2 rfl ?_
      refine aw_iconst (pc := 55) C (v := 1) dX2_putImportItem_55 rfl ?_
      refine aw_iadd (pc := 56) C dX2_putImportItem_56 ?_
      obtain ⟨q11, hq10, h⟩ := bi_some h
      refine aw_Vi (pc := 57) (a := 1) (Bs := [.int (x4 + 1)]) C (ok_X2_codeAt C.tr hq10) kv_X2_codeAt q612 rfl rfl rfl rfl dX2_putImportItem_57 ⟨(show 1 ≤ 2 by decide), (show 21 ≤ 62 by decide)⟩ ⟨Nat.zero_le _, Nat.zero_le _⟩ [] (Nat.le_of_ble_eq_true rfl) rfl ?_
      refine aw_bipush (pc := 60) C (v := 46) dX2_putImportItem_60 rfl ?_
      refine aw_icmp_ne (pc := 62) C 127 dX2_putImportItem_62 rfl (fun hc => ?_) (fun hc => ?_)
      · replace h := ite_F h hc
        refine aw_aload_n (pc := 127) C dX2_putImportItem_127 rfl 4 rfl ?_
        refine aw_iload (pc := 128) C dX2_putImportItem_128 2 rfl ?_
        refine aw_iconst (pc := 130) C (v := 1) dX2_putImportItem_130 rfl ?_
        refine aw_iadd (pc := 131) C dX2_putImportItem_131 ?_
        obtain ⟨q13, hq12, h⟩ := bi_some h
        refine aw_Vi (pc := 132) (a := 1) (Bs := [.int (x4 + 1)]) C (ok_X2_codeAt C.tr hq12) kv_X2_codeAt q612 rfl rfl rfl rfl dX2_putImportItem_132 ⟨(show 1 ≤ 2 by decide), (show 21 ≤ 62 by decide)⟩ ⟨Nat.zero_le _, Nat.zero_le _⟩ [] (Nat.le_of_ble_eq_true rfl) rfl ?_
        refine aw_bipush (pc := 135) C (v := 47) dX2_putImportItem_135 rfl ?_
        refine aw_icmp_ne (pc := 137) C 151 dX2_putImportItem_137 rfl (fun hc => ?_) (fun hc => ?_)
        · replace h := ite_F h hc
          refine aw_iconst (pc := 151) C (v := 0) dX2_putImportItem_151 rfl ?_
          refine aw_sub [5, 6, 3, 1] rfl ?_
          exact ok_X2_putImportItem_j152 C hex ha1 h
        · replace h := ite_T h hc
          refine aw_aload_n (pc := 140) C dX2_putImportItem_140 rfl 4 rfl ?_
          refine aw_iload (pc := 141) C dX2_putImportItem_141 2 rfl ?_
          refine aw_iconst (pc := 143) C (v := 2) dX2_putImportItem_143 rfl ?_
          refine aw_iadd (pc := 144) C dX2_putImportItem_144 ?_
          obtain ⟨q18, hq17, h⟩ := bi_some h
          refine aw_Vi (pc := 145) (a := 1) (Bs := [.int (x4 + 2)]) C (ok_X2_exceptedFrom C.tr hq17) kv_X2_exceptedFrom q619 rfl rfl rfl rfl dX2_putImportItem_145 ⟨(show 2 ≤ 2 by decide), (show 54 ≤ 62 by decide)⟩ ⟨Nat.zero_le _, Nat.zero_le _⟩ [] (Nat.le_of_ble_eq_true rfl) rfl ?_
          refine aw_goto (pc := 148) C 152 dX2_putImportItem_148 rfl ?_
          refine aw_sub [5, 6, 3, 1] rfl ?_
          exact ok_X2_putImportItem_j152 C hex ha1 h
      · replace h := ite_T h hc
        refine aw_aload_n (pc := 65) C dX2_putImportItem_65 rfl 4 rfl ?_
        refine aw_iload (pc := 66) C dX2_putImportItem_66 2 rfl ?_
        refine aw_iconst (pc := 68) C (v := 2) dX2_putImportItem_68 rfl ?_
        refine aw_iadd (pc := 69) C dX2_putImportItem_69 ?_
        obtain ⟨q20, hq19, h⟩ := bi_some h
        refine aw_Vi (pc := 70) (a := 1) (Bs := [.int (x4 + 2)]) C (ok_X2_codeAt C.tr hq19) kv_X2_codeAt q612 rfl rfl rfl rfl dX2_putImportItem_70 ⟨(show 1 ≤ 2 by decide), (show 21 ≤ 62 by decide)⟩ ⟨Nat.zero_le _, Nat.zero_le _⟩ [] (Nat.le_of_ble_eq_true rfl) rfl ?_
        refine aw_bipush (pc := 73) C (v := 97) dX2_putImportItem_73 rfl ?_
        refine aw_isub (pc := 75) C dX2_putImportItem_75 ?_
        obtain ⟨x21, ex21, h⟩ := bd_some h
        refine aw_istore (pc := 76) C (x := x21) (lv' := [(8, .int x21), (7, .int q9), (6, .int x7), (5, .int x4), (4, .int x3), (0, .ref (ad 1)), (1, .ref (ad a1)), (2, .int v2), (3, .int v3)]) dX2_putImportItem_76 (by decide) ex21 rfl ?_
        refine aw_aload_n (pc := 78) C dX2_putImportItem_78 rfl 5 rfl ?_
        refine aw_iload (pc := 79) C dX2_putImportItem_79 3 rfl ?_
        refine aw_iconst (pc := 81) C (v := 3) dX2_putImportItem_81 rfl ?_
        refine aw_iadd (pc := 82) C dX2_putImportItem_82 ?_
        obtain ⟨q23, hq22, h⟩ := bi_some h
        refine aw_Vi (pc := 83) (a := 1) (Bs := [.int (x4 + 3)]) C (ok_X2_codeAt C.tr hq22) kv_X2_codeAt q612 rfl rfl rfl rfl dX2_putImportItem_83 ⟨(show 1 ≤ 2 by decide), (show 21 ≤ 62 by decide)⟩ ⟨Nat.zero_le _, Nat.zero_le _⟩ [] (Nat.le_of_ble_eq_true rfl) rfl ?_
        refine aw_bipush (pc := 86) C (v := 61) dX2_putImportItem_86 rfl ?_
        refine aw_icmp_ne (pc := 88) C 105 dX2_putImportItem_88 rfl (fun hc => ?_) (fun hc => ?_)
        · replace h := ite_F h hc
          refine aw_iload (pc := 105) C dX2_putImportItem_105 0 rfl ?_
          refine aw_sub [6, 7, 4, 2, 0] rfl ?_
          exact ok_X2_putImportItem_j107 C hex ha1 h
        · replace h := ite_T h hc
          refine aw_aload_n (pc := 91) C dX2_putImportItem_91 rfl 5 rfl ?_
          refine aw_iload (pc := 92) C dX2_putImportItem_92 3 rfl ?_
          refine aw_iconst (pc := 94) C (v := 4) dX2_putImportItem_94 rfl ?_
          refine aw_iadd (pc := 95) C dX2_putImportItem_95 ?_
          obtain ⟨q28, hq27, h⟩ := bi_some h
          refine aw_Vi (pc := 96) (a := 1) (Bs := [.int (x4 + 4)]) C (ok_X2_codeAt C.tr hq27) kv_X2_codeAt q612 rfl rfl rfl rfl dX2_putImportItem_96 ⟨(show 1 ≤ 2 by decide), (show 21 ≤ 62 by decide)⟩ ⟨Nat.zero_le _, Nat.zero_le _⟩ [] (Nat.le_of_ble_eq_true rfl) rfl ?_
          refine aw_bipush (pc := 99) C (v := 97) dX2_putImportItem_99 rfl ?_
          refine aw_isub (pc := 101) C dX2_putImportItem_101 ?_
          refine aw_goto (pc := 102) C 107 dX2_putImportItem_102 rfl ?_
          refine aw_sub [6, 7, 4, 2, 0] rfl ?_
          exact ok_X2_putImportItem_j107 C hex ha1 h
    · replace h := ite_F h hc
      refine aw_iload (pc := 49) C dX2_putImportItem_49 0 rfl ?_
      cases h
      exact aw_iret (pc := 51) C dX2_putImportItem_51
  refine aw_icmp_ne (pc := 7) C 14 dX2_putImportItem_7 rfl (fun hd1 => ?_) (fun hd1 => ?_)
  · refine aw_iconst (pc := 14) C (v := 0) dX2_putImportItem_14 rfl ?_
    rw [if_neg hd1] at kJ
    exact kJ
  · refine aw_iconst (pc := 10) C (v := 1) dX2_putImportItem_10 rfl ?_
    refine aw_goto (pc := 11) C 15 dX2_putImportItem_11 rfl ?_
    rw [if_pos hd1] at kJ
    exact kJ
/-! ### NameScopes$Text.putItem(LNameScopes$Facts;I)I -/
theorem ok_X2_putItem_j86 {l : Launch} {p : Program} {e : Env} {s : State} {m : MethodId} {args : Array Value} {below : List Frame} {meth : Method} {c : Code} {D : va_G} {cI cL : ClassId} {ad : Nat → Nat} (C : CX p l s m args meth c RX2 cX2_putItem 7 (some .int) D cI cL (AA ad s.heap.size)) (hex : ∀ x ∈ c.exceptionTable.toList, False) {r : (Int32 × Mm)} {a1 : Nat} {v2 : Int32} (ha1 : isF a1) {v3 : Int32} {v4 : Int32} {v5 : Int32} {s0 : Int32} {μ : Mm}  (h : X2_putItem_j86 a1 v2 v3 v4 v5 s0 μ = some r) : AV l p e s m args below meth c D cI cL ad 3 7 (.inr (some (.int r.1))) r.2 86 [(1, .ref (ad a1)), (3, .int v3), (4, .int v4), (5, .int v5)] [.int s0] μ := by
  unfold X2_putItem_j86 at h
  refine aw_istore (pc := 86) C (x := s0) (lv' := [(6, .int s0), (1, .ref (ad a1)), (3, .int v3), (4, .int v4), (5, .int v5)]) dX2_putItem_86 (by decide) rfl rfl ?_
  refine aw_iload (pc := 88) C dX2_putItem_88 0 rfl ?_
  refine aw_if_ne (pc := 90) C 147 dX2_putItem_90 rfl (fun hc => ?_) (fun hc => ?_)
  · replace h := ite_F h hc
    refine aw_iload (pc := 147) C dX2_putItem_147 0 rfl ?_
    cases h
    exact aw_iret (pc := 149) C dX2_putItem_149
  · replace h := ite_T h hc
    refine aw_iload (pc := 93) C dX2_putItem_93 3 rfl ?_
    refine aw_bipush (pc := 95) C (v := 94) dX2_putItem_95 rfl ?_
    refine aw_icmp_ne (pc := 97) C 109 dX2_putItem_97 rfl (fun hc => ?_) (fun hc => ?_)
    · replace h := ite_F h hc
      refine aw_iload (pc := 109) C dX2_putItem_109 3 rfl ?_
      refine aw_bipush (pc := 111) C (v := 63) dX2_putItem_111 rfl ?_
      refine aw_icmp_ne (pc := 113) C 127 dX2_putItem_113 rfl (fun hc => ?_) (fun hc => ?_)
      · replace h := ite_F h hc
        refine aw_aload_n (pc := 127) C dX2_putItem_127 rfl 1 rfl ?_
        refine aw_iload_n (pc := 128) C dX2_putItem_128 rfl 2 rfl ?_
        refine aw_iload (pc := 129) C dX2_putItem_129 4 rfl ?_
        refine aw_iload (pc := 131) C dX2_putItem_131 3 rfl ?_
        refine aw_bipush (pc := 133) C (v := 46) dX2_putItem_133 rfl ?_
        have kJ : AV l p e s m args below meth c D cI cL ad 3 7 (.inr (some (.int r.1))) r.2 143 [(6, .int s0), (1, .ref (ad a1)), (3, .int v3), (4, .int v4), (5, .int v5)] [.int (if v4 = 46 then (1 : Int32) else 0), .int v5, .int v3, .ref (ad a1)] μ := by
          obtain ⟨q12, μ13, hq11, h⟩ := bn_some h
          refine aw_Vi (pc := 143) (a := a1) (Bs := [.int v3, .int v5, .int (if v4 = 46 then (1 : Int32) else 0)]) C (ok_X0_putDeclaration C.tr ha1 hq11) kv_X0_putDeclaration q628 (kdF ha1) rfl rfl rfl dX2_putItem_143 ⟨(show 1 ≤ 3 by decide), (show 23 ≤ 93 by decide)⟩ ⟨Nat.zero_le _, Nat.zero_le _⟩ [] (Nat.le_of_ble_eq_true rfl) rfl ?_
          refine aw_pop (pc := 146) C dX2_putItem_146 rfl ?_
          refine aw_iload (pc := 147) C dX2_putItem_147 0 rfl ?_
          cases h
          exact aw_iret (pc := 149) C dX2_putItem_149
        refine aw_icmp_ne (pc := 135) C 142 dX2_putItem_135 rfl (fun hd1 => ?_) (fun hd1 => ?_)
        · refine aw_iconst (pc := 142) C (v := 0) dX2_putItem_142 rfl ?_
          rw [if_neg hd1] at kJ
          exact kJ
        · refine aw_iconst (pc := 138) C (v := 1) dX2_putItem_138 rfl ?_
          refine aw_goto (pc := 139) C 143 dX2_putItem_139 rfl ?_
          rw [if_pos hd1] at kJ
          exact kJ
      · replace h := ite_T h hc
        refine aw_aload_n (pc := 116) C dX2_putItem_116 rfl 1 rfl ?_
        refine aw_iload_n (pc := 117) C dX2_putItem_117 rfl 2 rfl ?_
        refine aw_iload (pc := 118) C dX2_putItem_118 4 rfl ?_
        obtain ⟨q15, μ16, hq14, h⟩ := bn_some h
        refine aw_Vi (pc := 120) (a := a1) (Bs := [.int v3, .int v5]) C (ok_X0_putUse C.tr ha1 hq14) kv_X0_putUse q627 (kdF ha1) rfl rfl rfl dX2_putItem_120 ⟨(show 1 ≤ 3 by decide), (show 22 ≤ 93 by decide)⟩ ⟨Nat.zero_le _, Nat.zero_le _⟩ [] (Nat.le_of_ble_eq_true rfl) rfl ?_
        refine aw_pop (pc := 123) C dX2_putItem_123 rfl ?_
        refine aw_goto (pc := 124) C 147 dX2_putItem_124 rfl ?_
        refine aw_iload (pc := 147) C dX2_putItem_147 0 rfl ?_
        cases h
        exact aw_iret (pc := 149) C dX2_putItem_149
    · replace h := ite_T h hc
      refine aw_aload_n (pc := 100) C dX2_putItem_100 rfl 1 rfl ?_
      refine aw_iload_n (pc := 101) C dX2_putItem_101 rfl 2 rfl ?_
      obtain ⟨q18, μ19, hq17, h⟩ := bn_some h
      refine aw_Vi (pc := 102) (a := a1) (Bs := [.int v3]) C (ok_X0_putScope C.tr ha1 hq17) kv_X0_putScope q626 (kdF ha1) rfl rfl rfl dX2_putItem_102 ⟨(show 1 ≤ 3 by decide), (show 21 ≤ 93 by decide)⟩ ⟨Nat.zero_le _, Nat.zero_le _⟩ [] (Nat.le_of_ble_eq_true rfl) rfl ?_
      refine aw_pop (pc := 105) C dX2_putItem_105 rfl ?_
      refine aw_goto (pc := 106) C 147 dX2_putItem_106 rfl ?_
      refine aw_iload (pc := 147) C dX2_putItem_147 0 rfl ?_
      cases h
      exact aw_iret (pc := 149) C dX2_putItem_149
theorem ok_X2_putItem {l : Launch} (htr : l.stackTraces = false) {a1 : Nat} {v2 : Int32} {μ : Mm} {r : (Int32 × Mm)} (ha1 : isF a1) (h : X2_putItem a1 v2 μ = some r) : MetX l yX2_putItem cX2_putItem 7 (some .int) 3 (fun ad => [.ref (ad 1), .ref (ad a1), .int v2]) μ (.inr (some (.int r.1))) r.2 := by
  refine MetX.of htr (by decide) rfl (fun ad => Nat.le_of_ble_eq_true rfl) (fun p e s m args below meth c D cI cL ad C hex hw => ?_)
  show AV l p e s m args below meth c D cI cL ad 3 7 (.inr (some (.int r.1))) r.2 0 [(0, .ref (ad 1)), (1, .ref (ad a1)), (2, .int v2)] [] μ
  unfold X2_putItem at h
  refine aw_aload_n (pc := 0) C dX2_putItem_0 rfl 0 rfl ?_
  refine aw_iload_n (pc := 1) C dX2_putItem_1 rfl 2 rfl ?_
  obtain ⟨q2, hq1, h⟩ := bi_some h
  refine aw_Vi (pc := 2) (a := 1) (Bs := [.int v2]) C (ok_X2_codeAt C.tr hq1) kv_X2_codeAt q612 rfl rfl rfl rfl dX2_putItem_2 ⟨(show 1 ≤ 3 by decide), (show 21 ≤ 93 by decide)⟩ ⟨Nat.zero_le _, Nat.zero_le _⟩ [] (Nat.le_of_ble_eq_true rfl) rfl ?_
  refine aw_bipush (pc := 5) C (v := 65) dX2_putItem_5 rfl ?_
  refine aw_isub (pc := 7) C dX2_putItem_7 ?_
  obtain ⟨x3, ex3, h⟩ := bd_some h
  refine aw_istore_n (pc := 8) C (x := x3) (lv' := [(3, .int x3), (0, .ref (ad 1)), (1, .ref (ad a1)), (2, .int v2)]) dX2_putItem_8 rfl (by decide) ex3 rfl ?_
  refine aw_aload_n (pc := 9) C dX2_putItem_9 rfl 1 rfl ?_
  refine aw_iload_n (pc := 10) C dX2_putItem_10 rfl 3 rfl ?_
  refine aw_iconst (pc := 11) C (v := 1) dX2_putItem_11 rfl ?_
  refine aw_iadd (pc := 12) C dX2_putItem_12 ?_
  obtain ⟨q5, hq4, h⟩ := bi_some h
  refine aw_Vi (pc := 13) (a := 1) (Bs := [.int (v2 + 1)]) C (ok_X2_codeAt C.tr hq4) kv_X2_codeAt q612 rfl rfl rfl rfl dX2_putItem_13 ⟨(show 1 ≤ 3 by decide), (show 21 ≤ 93 by decide)⟩ ⟨Nat.zero_le _, Nat.zero_le _⟩ [] (Nat.le_of_ble_eq_true rfl) rfl ?_
  refine aw_istore (pc := 16) C (x := q5) (lv' := [(4, .int q5), (3, .int x3), (0, .ref (ad 1)), (1, .ref (ad a1)), (2, .int v2)]) dX2_putItem_16 (by decide) rfl rfl ?_
  refine aw_aload_n (pc := 18) C dX2_putItem_18 rfl 2 rfl ?_
  refine aw_iload_n (pc := 19) C dX2_putItem_19 rfl 4 rfl ?_
  refine aw_iconst (pc := 20) C (v := 2) dX2_putItem_20 rfl ?_
  refine aw_iadd (pc := 21) C dX2_putItem_21 ?_
  obtain ⟨q7, hq6, h⟩ := bi_some h
  refine aw_Vi (pc := 22) (a := 1) (Bs := [.int (v2 + 2)]) C (ok_X2_codeAt C.tr hq6) kv_X2_codeAt q612 rfl rfl rfl rfl dX2_putItem_22 ⟨(show 1 ≤ 3 by decide), (show 21 ≤ 93 by decide)⟩ ⟨Nat.zero_le _, Nat.zero_le _⟩ [] (Nat.le_of_ble_eq_true rfl) rfl ?_
  refine aw_bipush (pc := 25) C (v := 97) dX2_putItem_25 rfl ?_
  refine aw_isub (pc := 27) C dX2_putItem_27 ?_
  obtain ⟨x8, ex8, h⟩ := bd_some h
  refine aw_istore (pc := 28) C (x := x8) (lv' := [(5, .int x8), (4, .int q5), (3, .int x3), (0, .ref (ad 1)), (1, .ref (ad a1)), (2, .int v2)]) dX2_putItem_28 (by decide) ex8 rfl ?_
  refine aw_iload (pc := 30) C dX2_putItem_30 1 rfl ?_
  refine aw_bipush (pc := 32) C (v := 60) dX2_putItem_32 rfl ?_
  refine aw_icmp_ne (pc := 34) C 47 dX2_putItem_34 rfl (fun hc => ?_) (fun hc => ?_)
  · replace h := ite_F h hc
    refine aw_iload (pc := 47) C dX2_putItem_47 1 rfl ?_
    refine aw_bipush (pc := 49) C (v := 94) dX2_putItem_49 rfl ?_
    refine aw_icmp_ne (pc := 51) C 62 dX2_putItem_51 rfl (fun hc => ?_) (fun hc => ?_)
    · replace h := ite_F h hc
      refine aw_iload (pc := 62) C dX2_putItem_62 1 rfl ?_
      refine aw_bipush (pc := 64) C (v := 63) dX2_putItem_64 rfl ?_
      refine aw_icmp_ne (pc := 66) C 79 dX2_putItem_66 rfl (fun hc => ?_) (fun hc => ?_)
      · replace h := ite_F h hc
        refine aw_aload_n (pc := 79) C dX2_putItem_79 rfl 4 rfl ?_
        refine aw_iload_n (pc := 80) C dX2_putItem_80 rfl 2 rfl ?_
        refine aw_iload (pc := 81) C dX2_putItem_81 0 rfl ?_
        obtain ⟨q10, hq9, h⟩ := bi_some h
        refine aw_Vi (pc := 83) (a := a1) (Bs := [.int x3, .int x8]) C (ok_X0_refusalOfDeclaration C.tr ha1 hq9) kv_X0_refusalOfDeclaration q625 (kdF ha1) rfl rfl rfl dX2_putItem_83 ⟨(show 2 ≤ 3 by decide), (show 53 ≤ 93 by decide)⟩ ⟨Nat.zero_le _, Nat.zero_le _⟩ [] (Nat.le_of_ble_eq_true rfl) rfl ?_
        refine aw_sub [4, 2, 1, 0] rfl ?_
        exact ok_X2_putItem_j86 C hex ha1 h
      · replace h := ite_T h hc
        refine aw_aload_n (pc := 69) C dX2_putItem_69 rfl 4 rfl ?_
        refine aw_iload_n (pc := 70) C dX2_putItem_70 rfl 2 rfl ?_
        refine aw_iload (pc := 71) C dX2_putItem_71 0 rfl ?_
        obtain ⟨q21, hq20, h⟩ := bi_some h
        refine aw_Vi (pc := 73) (a := a1) (Bs := [.int x3, .int x8]) C (ok_X0_refusalOfUse C.tr ha1 hq20) kv_X0_refusalOfUse q624 (kdF ha1) rfl rfl rfl dX2_putItem_73 ⟨(show 2 ≤ 3 by decide), (show 53 ≤ 93 by decide)⟩ ⟨Nat.zero_le _, Nat.zero_le _⟩ [] (Nat.le_of_ble_eq_true rfl) rfl ?_
        refine aw_goto (pc := 76) C 86 dX2_putItem_76 rfl ?_
        refine aw_sub [4, 2, 1, 0] rfl ?_
        exact ok_X2_putItem_j86 C hex ha1 h
    · replace h := ite_T h hc
      refine aw_aload_n (pc := 54) C dX2_putItem_54 rfl 4 rfl ?_
      refine aw_iload_n (pc := 55) C dX2_putItem_55 rfl 2 rfl ?_
      obtain ⟨q23, hq22, h⟩ := bi_some h
      refine aw_Vi (pc := 56) (a := a1) (Bs := [.int x3]) C (ok_X0_refusalOfScope C.tr ha1 hq22) kv_X0_refusalOfScope q623 (kdF ha1) rfl rfl rfl dX2_putItem_56 ⟨(show 2 ≤ 3 by decide), (show 52 ≤ 93 by decide)⟩ ⟨Nat.zero_le _, Nat.zero_le _⟩ [] (Nat.le_of_ble_eq_true rfl) rfl ?_
      refine aw_goto (pc := 59) C 86 dX2_putItem_59 rfl ?_
      refine aw_sub [4, 2, 1, 0] rfl ?_
      exact ok_X2_putItem_j86 C hex ha1 h
  · replace h := ite_T h hc
    refine aw_aload_n (pc := 37) C dX2_putItem_37 rfl 3 rfl ?_
    refine aw_aload_n (pc := 38) C dX2_putItem_38 rfl 4 rfl ?_
    refine aw_iload_n (pc := 39) C dX2_putItem_39 rfl 2 rfl ?_
    refine aw_iload_n (pc := 40) C dX2_putItem_40 rfl 5 rfl ?_
    refine aw_iconst (pc := 41) C (v := 2) dX2_putItem_41 rfl ?_
    refine aw_iadd (pc := 42) C dX2_putItem_42 ?_
    obtain ⟨q25, μ26, hq24, h⟩ := bn_some h
    refine aw_Vi (pc := 43) (a := 1) (Bs := [.ref (ad a1), .int x3, .int (v2 + 2)]) C (ok_X2_putImportItem C.tr ha1 hq24) kv_X2_putImportItem q613 rfl rfl rfl rfl dX2_putItem_43 ⟨(show 3 ≤ 3 by decide), (show 91 ≤ 93 by decide)⟩ ⟨Nat.zero_le _, Nat.zero_le _⟩ [] (Nat.le_of_ble_eq_true rfl) rfl ?_
    cases h
    exact aw_iret (pc := 46) C dX2_putItem_46
/-! ### NameScopes$Text.putItems(LNameScopes$Facts;)I -/
theorem ok_X2_putItems_j37 {l : Launch} {p : Program} {e : Env} {s : State} {m : MethodId} {args : Array Value} {below : List Frame} {meth : Method} {c : Code} {D : va_G} {cI cL : ClassId} {ad : Nat → Nat} (C : CX p l s m args meth c RX2 cX2_putItems 5 (some .int) D cI cL (AA ad s.heap.size)) (hex : ∀ x ∈ c.exceptionTable.toList, False) {r : (Int32 × Mm)} {a1 : Nat} (ha1 : isF a1) {k7 : Int32 → Int32 → Int32 → Mm → Option (Int32 × Mm)} (hk7 : ∀ (v2 : Int32) (v3 : Int32) (v4 : Int32) (μ : Mm), k7 v2 v3 v4 μ = some r → AV l p e s m args below meth c D cI cL ad 4 5 (.inr (some (.int r.1))) r.2 7 [(0, .ref (ad 1)), (1, .ref (ad a1)), (2, .int v2), (3, .int v3), (4, .int v4)] [] μ) {v2 : Int32} {v3 : Int32} {v4 : Int32} {μ : Mm}  (h : X2_putItems_j37 a1 k7 v2 v3 v4 μ = some r) : AV l p e s m args below meth c D cI cL ad 4 5 (.inr (some (.int r.1))) r.2 37 [(0, .ref (ad 1)), (1, .ref (ad a1)), (2, .int v2), (3, .int v3), (4, .int v4)] [] μ := by
  unfold X2_putItems_j37 at h
  refine aw_aload_n (pc := 37) C dX2_putItems_37 rfl 0 rfl ?_
  refine aw_aload_n (pc := 38) C dX2_putItems_38 rfl 1 rfl ?_
  refine aw_iload_n (pc := 39) C dX2_putItems_39 rfl 3 rfl ?_
  obtain ⟨q2, μ3, hq1, h⟩ := bn_some h
  refine aw_Vi (pc := 40) (a := 1) (Bs := [.ref (ad a1), .int v3]) C (ok_X2_putItem C.tr ha1 hq1) kv_X2_putItem q608 rfl rfl rfl rfl dX2_putItems_40 ⟨(show 4 ≤ 4 by decide), (show 119 ≤ 124 by decide)⟩ ⟨Nat.zero_le _, Nat.zero_le _⟩ [] (Nat.le_of_ble_eq_true rfl) rfl ?_
  refine aw_if_eq (pc := 43) C 48 dX2_putItems_43 rfl (fun hc => ?_) (fun hc => ?_)
  · replace h := ite_T h hc
    refine aw_iinc (pc := 48) C (v := (v2 + 1)) (lv' := [(2, .int (v2 + 1)), (0, .ref (ad 1)), (1, .ref (ad a1)), (3, .int v3), (4, .int v4)]) dX2_putItems_48 2 rfl (by decide) rfl rfl ?_
    refine aw_iload (pc := 51) C dX2_putItems_51 4 rfl ?_
    refine aw_iconst (pc := 53) C (v := 1) dX2_putItems_53 rfl ?_
    refine aw_iadd (pc := 54) C dX2_putItems_54 ?_
    obtain ⟨x4, ex4, h⟩ := bd_some h
    refine aw_istore_n (pc := 55) C (x := x4) (lv' := [(3, .int x4), (2, .int (v2 + 1)), (0, .ref (ad 1)), (1, .ref (ad a1)), (4, .int v4)]) dX2_putItems_55 rfl (by decide) ex4 rfl ?_
    refine aw_iinc (pc := 56) C (v := (v4 + 1)) (lv' := [(4, .int (v4 + 1)), (3, .int x4), (2, .int (v2 + 1)), (0, .ref (ad 1)), (1, .ref (ad a1))]) dX2_putItems_56 4 rfl (by decide) rfl rfl ?_
    refine aw_goto (pc := 59) C 7 dX2_putItems_59 rfl ?_
    refine aw_sub [3, 4, 2, 1, 0] rfl ?_
    exact hk7 (v2 + 1) x4 (v4 + 1) μ3 h
  · replace h := ite_F h hc
    refine aw_iconst (pc := 46) C (v := (-1)) dX2_putItems_46 rfl ?_
    cases h
    exact aw_iret (pc := 47) C dX2_putItems_47
theorem ok_X2_putItems_l7 {l : Launch} {p : Program} {e : Env} {s : State} {m : MethodId} {args : Array Value} {below : List Frame} {meth : Method} {c : Code} {D : va_G} {cI cL : ClassId} {ad : Nat → Nat} (C : CX p l s m args meth c RX2 cX2_putItems 5 (some .int) D cI cL (AA ad s.heap.size)) (hex : ∀ x ∈ c.exceptionTable.toList, False) {r : (Int32 × Mm)} {a1 : Nat} (ha1 : isF a1) {k7 : Int32 → Int32 → Int32 → Mm → Option (Int32 × Mm)} (hk7 : ∀ (v2 : Int32) (v3 : Int32) (v4 : Int32) (μ : Mm), k7 v2 v3 v4 μ = some r → AV l p e s m args below meth c D cI cL ad 4 5 (.inr (some (.int r.1))) r.2 7 [(0, .ref (ad 1)), (1, .ref (ad a1)), (2, .int v2), (3, .int v3), (4, .int v4)] [] μ) {v2 : Int32} {v3 : Int32} {v4 : Int32} {μ : Mm}  (h : X2_putItems_l7 a1 k7 v2 v3 v4 μ = some r) : AV l p e s m args below meth c D cI cL ad 4 5 (.inr (some (.int r.1))) r.2 7 [(0, .ref (ad 1)), (1, .ref (ad a1)), (2, .int v2), (3, .int v3), (4, .int v4)] [] μ := by
  unfold X2_putItems_l7 at h
  refine aw_iload (pc := 7) C dX2_putItems_7 4 rfl ?_
  refine aw_aload_n (pc := 9) C dX2_putItems_9 rfl 0 rfl ?_
  refine aw_get (pc := 10) C (a := 1) (k := 1) (v := .int (μ.1 1 1)) inX2 rfl rfl (by decide) q31 dX2_putItems_10 rfl ?_
  refine aw_icmp_gt (pc := 13) C 62 dX2_putItems_13 rfl (fun hc => ?_) (fun hc => ?_)
  · replace h := ite_T h hc
    refine aw_iload_n (pc := 62) C dX2_putItems_62 rfl 2 rfl ?_
    cases h
    exact aw_iret (pc := 63) C dX2_putItems_63
  · replace h := ite_F h hc
    refine aw_iload (pc := 16) C dX2_putItems_16 4 rfl ?_
    refine aw_aload_n (pc := 18) C dX2_putItems_18 rfl 0 rfl ?_
    refine aw_get (pc := 19) C (a := 1) (k := 1) (v := .int (μ.1 1 1)) inX2 rfl rfl (by decide) q31 dX2_putItems_19 rfl ?_
    refine aw_icmp_eq (pc := 22) C 37 dX2_putItems_22 rfl (fun hc => ?_) (fun hc => ?_)
    · replace h := ite_T h hc
      refine aw_sub [0, 1, 2, 3, 4] rfl ?_
      exact ok_X2_putItems_j37 C hex ha1 hk7 h
    · replace h := ite_F h hc
      refine aw_aload_n (pc := 25) C dX2_putItems_25 rfl 0 rfl ?_
      refine aw_get (pc := 26) C (a := 1) (k := 0) (v := .ref (ad 2)) inX2 rfl rfl (by decide) q30 dX2_putItems_26 rfl ?_
      refine aw_iload (pc := 29) C dX2_putItems_29 4 rfl ?_
      obtain ⟨g5, h⟩ := ck_some h
      refine aw_iaload (pc := 31) C (a := 2) rfl g5 dX2_putItems_31 ?_
      refine aw_bipush (pc := 32) C (v := 44) dX2_putItems_32 rfl ?_
      refine aw_icmp_ne (pc := 34) C 56 dX2_putItems_34 rfl (fun hc => ?_) (fun hc => ?_)
      · replace h := ite_F h hc
        refine aw_iinc (pc := 56) C (v := (v4 + 1)) (lv' := [(4, .int (v4 + 1)), (0, .ref (ad 1)), (1, .ref (ad a1)), (2, .int v2), (3, .int v3)]) dX2_putItems_56 4 rfl (by decide) rfl rfl ?_
        refine aw_goto (pc := 59) C 7 dX2_putItems_59 rfl ?_
        refine aw_sub [1, 2, 3, 4, 0] rfl ?_
        exact hk7 v2 v3 (v4 + 1) μ h
      · replace h := ite_T h hc
        refine aw_sub [0, 1, 2, 3, 4] rfl ?_
        exact ok_X2_putItems_j37 C hex ha1 hk7 h
theorem ok_X2_putItems_l7_w {l : Launch} {p : Program} {e : Env} {s : State} {m : MethodId} {args : Array Value} {below : List Frame} {meth : Method} {c : Code} {D : va_G} {cI cL : ClassId} {ad : Nat → Nat} (C : CX p l s m args meth c RX2 cX2_putItems 5 (some .int) D cI cL (AA ad s.heap.size)) (hex : ∀ x ∈ c.exceptionTable.toList, False) {r : (Int32 × Mm)} {a1 : Nat} (ha1 : isF a1) : ∀ (n : Nat) (v2 : Int32) (v3 : Int32) (v4 : Int32) (μ : Mm) , itr (X2_putItems_l7 a1) (fun _ _ _ _ => none) n v2 v3 v4 μ = some r → AV l p e s m args below meth c D cI cL ad 4 5 (.inr (some (.int r.1))) r.2 7 [(0, .ref (ad 1)), (1, .ref (ad a1)), (2, .int v2), (3, .int v3), (4, .int v4)] [] μ := by
  intro n
  induction n with
  | zero => intro v2 v3 v4 μ h; exact nomatch (show (none : Option (Int32 × Mm)) = some r from h)
  | succ n ih => intro v2 v3 v4 μ h; exact ok_X2_putItems_l7 C hex (a1 := a1) ha1 ih h
theorem ok_X2_putItems {l : Launch} (htr : l.stackTraces = false) {a1 : Nat} {μ : Mm} {r : (Int32 × Mm)} (ha1 : isF a1) (h : X2_putItems a1 μ = some r) : MetX l yX2_putItems cX2_putItems 5 (some .int) 4 (fun ad => [.ref (ad 1), .ref (ad a1)]) μ (.inr (some (.int r.1))) r.2 := by
  refine MetX.of htr (by decide) rfl (fun ad => Nat.le_of_ble_eq_true rfl) (fun p e s m args below meth c D cI cL ad C hex hw => ?_)
  show AV l p e s m args below meth c D cI cL ad 4 5 (.inr (some (.int r.1))) r.2 0 [(0, .ref (ad 1)), (1, .ref (ad a1))] [] μ
  unfold X2_putItems at h
  refine aw_iconst (pc := 0) C (v := 0) dX2_putItems_0 rfl ?_
  refine aw_istore_n (pc := 1) C (x := 0) (lv' := [(2, .int 0), (0, .ref (ad 1)), (1, .ref (ad a1))]) dX2_putItems_1 rfl (by decide) rfl rfl ?_
  refine aw_iconst (pc := 2) C (v := 0) dX2_putItems_2 rfl ?_
  refine aw_istore_n (pc := 3) C (x := 0) (lv' := [(3, .int 0), (2, .int 0), (0, .ref (ad 1)), (1, .ref (ad a1))]) dX2_putItems_3 rfl (by decide) rfl rfl ?_
  refine aw_iconst (pc := 4) C (v := 0) dX2_putItems_4 rfl ?_
  refine aw_istore (pc := 5) C (x := 0) (lv' := [(4, .int 0), (3, .int 0), (2, .int 0), (0, .ref (ad 1)), (1, .ref (ad a1))]) dX2_putItems_5 (by decide) rfl rfl ?_
  refine aw_sub [3, 4, 2, 1, 0] rfl ?_
  exact ok_X2_putItems_l7_w C hex ha1 big 0 0 0 μ h
/-! ### NameScopes.throwIfRefused(I)V -/
theorem ok_X3_throwIfRefused {l : Launch} (htr : l.stackTraces = false) {v0 : Int32} {μ : Mm} {r : (String ⊕ Unit)}  (h : X3_throwIfRefused v0 = some r) : MetX l yX3_throwIfRefused cX3_throwIfRefused 1 none 6 (fun ad => [.int v0]) μ (rsU r) μ := by
  refine MetX.of htr (by decide) rfl (fun ad => Nat.le_of_ble_eq_true rfl) (fun p e s m args below meth c D cI cL ad C hex hw => ?_)
  show AV l p e s m args below meth c D cI cL ad 6 1 (rsU r) μ 0 [(0, .int v0)] [] μ
  unfold X3_throwIfRefused at h
  refine aw_iload_n (pc := 0) C dX3_throwIfRefused_0 rfl 0 rfl ?_
  refine aw_iconst (pc := 1) C (v := 1) dX3_throwIfRefused_1 rfl ?_
  refine aw_icmp_ne (pc := 2) C 16 dX3_throwIfRefused_2 rfl (fun hc => ?_) (fun hc => ?_)
  · replace h := ite_F h hc
    refine aw_iload_n (pc := 16) C dX3_throwIfRefused_16 rfl 0 rfl ?_
    refine aw_iconst (pc := 17) C (v := 2) dX3_throwIfRefused_17 rfl ?_
    refine aw_icmp_ne (pc := 18) C 32 dX3_throwIfRefused_18 rfl (fun hc => ?_) (fun hc => ?_)
    · replace h := ite_F h hc
      refine aw_iload_n (pc := 32) C dX3_throwIfRefused_32 rfl 0 rfl ?_
      refine aw_iconst (pc := 33) C (v := 3) dX3_throwIfRefused_33 rfl ?_
      refine aw_icmp_ne (pc := 34) C 48 dX3_throwIfRefused_34 rfl (fun hc => ?_) (fun hc => ?_)
      · replace h := ite_F h hc
        cases h
        exact aw_vret (pc := 48) C dX3_throwIfRefused_48
      · replace h := ite_T h hc
        cases h
        exact aw_throwW (pc := 37) C hex okt_109_299_113 dX3_throwIfRefused_37 dX3_throwIfRefused_40 dX3_throwIfRefused_41 dX3_throwIfRefused_44 dX3_throwIfRefused_47 (show 5 < 6 by decide) (show 82 ≤ 186 by decide) (Nat.le_refl _) (Nat.le_refl _)
    · replace h := ite_T h hc
      cases h
      exact aw_throwW (pc := 21) C hex okt_99_297_103 dX3_throwIfRefused_21 dX3_throwIfRefused_24 dX3_throwIfRefused_25 dX3_throwIfRefused_28 dX3_throwIfRefused_31 (show 5 < 6 by decide) (show 82 ≤ 186 by decide) (Nat.le_refl _) (Nat.le_refl _)
  · replace h := ite_T h hc
    cases h
    exact aw_throwW (pc := 5) C hex okt_288_295_292 dX3_throwIfRefused_5 dX3_throwIfRefused_8 dX3_throwIfRefused_9 dX3_throwIfRefused_12 dX3_throwIfRefused_15 (show 5 < 6 by decide) (show 82 ≤ 186 by decide) (Nat.le_refl _) (Nat.le_refl _)
/-! ### NameScopes.addScope(I)I -/
theorem ok_X3_addScope {l : Launch} (htr : l.stackTraces = false) {v1 : Int32} {μ : Mm} {r : ((String ⊕ Int32) × Mm)}  (h : X3_addScope v1 μ = some r) : MetX l yX3_addScope cX3_addScope 3 (some .int) 7 (fun ad => [.ref (ad 0), .int v1]) μ (rsI r.1) r.2 := by
  refine MetX.of htr (by decide) rfl (fun ad => Nat.le_of_ble_eq_true rfl) (fun p e s m args below meth c D cI cL ad C hex hw => ?_)
  show AV l p e s m args below meth c D cI cL ad 7 3 (rsI r.1) r.2 0 [(0, .ref (ad 0)), (1, .int v1)] [] μ
  unfold X3_addScope at h
  refine aw_aload_n (pc := 0) C dX3_addScope_0 rfl 0 rfl ?_
  refine aw_getNow (pc := 1) C q161 dX3_addScope_1 (fun hF1 => ?_)
  refine aw_iload_n (pc := 4) C dX3_addScope_4 rfl 1 rfl ?_
  obtain ⟨q3, hq2, h⟩ := bi_some h
  refine aw_Vi (pc := 5) (a := (mNow μ)) (Bs := [.int v1]) C (ok_X0_refusalOfScope C.tr hF1 hq2) kv_X0_refusalOfScope q457 (kdF hF1) rfl rfl rfl dX3_addScope_5 ⟨(show 2 ≤ 7 by decide), (show 52 ≤ 217 by decide)⟩ ⟨Nat.zero_le _, Nat.zero_le _⟩ [] (Nat.le_of_ble_eq_true rfl) rfl ?_
  obtain ⟨y7, hq4, h⟩ := bi_some h
  rcases y7 with E6 | q5
  · rw [thr_l] at h
    cases h
    exact aw_callST (pc := 8) (Bs := [.int q3]) (rest := []) C hex (ok_X3_throwIfRefused C.tr (r := .inl E6) hq4) kv_X3_throwIfRefused q465 rfl rfl (Nat.le_of_ble_eq_true rfl) dX3_addScope_8 ⟨(show 7 ≤ 7 by decide), (show 206 ≤ 217 by decide)⟩ ⟨Nat.le_refl _, Nat.le_refl _⟩ rfl
  · rw [thr_r] at h
    refine aw_Sv (pc := 8) (Bs := [.int q3]) C (ok_X3_throwIfRefused C.tr (r := .inr q5) hq4) kv_X3_throwIfRefused q465 rfl rfl dX3_addScope_8 ⟨(show 7 ≤ 7 by decide), (show 206 ≤ 217 by decide)⟩ ⟨Nat.zero_le _, Nat.zero_le _⟩ [] (Nat.le_of_ble_eq_true rfl) rfl ?_
    refine aw_aload_n (pc := 11) C dX3_addScope_11 rfl 0 rfl ?_
    refine aw_getNow (pc := 12) C q161 dX3_addScope_12 (fun hF8 => ?_)
    refine aw_iload_n (pc := 15) C dX3_addScope_15 rfl 1 rfl ?_
    obtain ⟨q10, μ11, hq9, h⟩ := bn_some h
    refine aw_Vi (pc := 16) (a := (mNow μ)) (Bs := [.int v1]) C (ok_X0_putScope C.tr hF8 hq9) kv_X0_putScope q486 (kdF hF8) rfl rfl rfl dX3_addScope_16 ⟨(show 1 ≤ 7 by decide), (show 21 ≤ 217 by decide)⟩ ⟨Nat.zero_le _, Nat.zero_le _⟩ [] (Nat.le_of_ble_eq_true rfl) rfl ?_
    refine aw_istore_n (pc := 19) C (x := q10) (lv' := [(2, .int q10), (0, .ref (ad 0)), (1, .int v1)]) dX3_addScope_19 rfl (by decide) rfl rfl ?_
    refine aw_aload_n (pc := 20) C dX3_addScope_20 rfl 1 rfl ?_
    refine aw_getNow (pc := 21) C q161 dX3_addScope_21 (fun hF12 => ?_)
    obtain ⟨μ15, hq13, h⟩ := bi_some h
    refine aw_Vv (pc := 24) (a := (mNow μ11)) (Bs := []) C (ok_X0_settle C.tr hF12 hq13) kv_X0_settle q178 (kdF hF12) rfl rfl rfl dX3_addScope_24 ⟨(show 3 ≤ 7 by decide), (show 82 ≤ 217 by decide)⟩ ⟨Nat.zero_le _, Nat.zero_le _⟩ [] (Nat.le_of_ble_eq_true rfl) rfl ?_
    refine aw_iload_n (pc := 27) C dX3_addScope_27 rfl 0 rfl ?_
    cases h
    exact aw_iret (pc := 28) C dX3_addScope_28
/-! ### NameScopes.append(I)I -/
theorem ok_X3_append_j12 {l : Launch} {p : Program} {e : Env} {s : State} {m : MethodId} {args : Array Value} {below : List Frame} {meth : Method} {c : Code} {D : va_G} {cI cL : ClassId} {ad : Nat → Nat} (C : CX p l s m args meth c RX3 cX3_append 2 (some .int) D cI cL (AA ad s.heap.size)) (hex : ∀ x ∈ c.exceptionTable.toList, False) {r : ((String ⊕ Int32) × Mm)} {v1 : Int32} {μ : Mm}  (h : X3_append_j12 v1 μ = some r) : AV l p e s m args below meth c D cI cL ad 6 2 (rsI r.1) r.2 12 [] [] μ := by
  unfold X3_append_j12 at h
  cases h
  exact aw_throw (pc := 12) C hex okt_99_101_103 dX3_append_12 dX3_append_15 dX3_append_16 dX3_append_18 dX3_append_21 (show 5 < 6 by decide) (show 82 ≤ 186 by decide) (Nat.le_refl _) (Nat.le_refl _)
theorem ok_X3_append {l : Launch} (htr : l.stackTraces = false) {v1 : Int32} {μ : Mm} {r : ((String ⊕ Int32) × Mm)}  (h : X3_append v1 μ = some r) : MetX l yX3_append cX3_append 2 (some .int) 6 (fun ad => [.ref (ad 0), .int v1]) μ (rsI r.1) r.2 := by
  refine MetX.of htr (by decide) rfl (fun ad => Nat.le_of_ble_eq_true rfl) (fun p e s m args below meth c D cI cL ad C hex hw => ?_)
  show AV l p e s m args below meth c D cI cL ad 6 2 (rsI r.1) r.2 0 [(0, .ref (ad 0)), (1, .int v1)] [] μ
  unfold X3_append at h
  refine aw_iload_n (pc := 0) C dX3_append_0 rfl 1 rfl ?_
  refine aw_bipush (pc := 1) C (v := 33) dX3_append_1 rfl ?_
  refine aw_icmp_lt (pc := 3) C 12 dX3_append_3 rfl (fun hc => ?_) (fun hc => ?_)
  · replace h := ite_T h hc
    refine aw_sub [] rfl ?_
    exact ok_X3_append_j12 C hex h
  · replace h := ite_F h hc
    refine aw_iload_n (pc := 6) C dX3_append_6 rfl 1 rfl ?_
    refine aw_bipush (pc := 7) C (v := 126) dX3_append_7 rfl ?_
    refine aw_icmp_le (pc := 9) C 22 dX3_append_9 rfl (fun hc => ?_) (fun hc => ?_)
    · replace h := ite_T h hc
      refine aw_aload_n (pc := 22) C dX3_append_22 rfl 0 rfl ?_
      refine aw_get (pc := 23) C (a := 0) (k := 0) (v := .ref (ad 1)) inX3 rfl rfl (by decide) q160 dX3_append_23 rfl ?_
      refine aw_getN (pc := 26) C (a := 1) (k := 1) (v := .int (μ.1 1 1)) inX2 rfl rfl (by decide) q32 dX3_append_26 rfl ?_
      refine aw_bipush (pc := 29) C (v := 50) dX3_append_29 rfl ?_
      refine aw_icmp_lt (pc := 31) C 44 dX3_append_31 rfl (fun hc => ?_) (fun hc => ?_)
      · replace h := ite_T h hc
        refine aw_aload_n (pc := 44) C dX3_append_44 rfl 0 rfl ?_
        refine aw_get (pc := 45) C (a := 0) (k := 0) (v := .ref (ad 1)) inX3 rfl rfl (by decide) q160 dX3_append_45 rfl ?_
        refine aw_iload_n (pc := 48) C dX3_append_48 rfl 1 rfl ?_
        obtain ⟨q2, μ3, hq1, h⟩ := bn_some h
        refine aw_Vi (pc := 49) (a := 1) (Bs := [.int v1]) C (ok_X2_put C.tr hq1) kv_X2_put q588 rfl rfl rfl rfl dX3_append_49 ⟨(show 1 ≤ 6 by decide), (show 21 ≤ 186 by decide)⟩ ⟨Nat.zero_le _, Nat.zero_le _⟩ [] (Nat.le_of_ble_eq_true rfl) rfl ?_
        cases h
        exact aw_iret (pc := 52) C dX3_append_52
      · replace h := ite_F h hc
        cases h
        exact aw_throw (pc := 34) C hex okt_109_111_113 dX3_append_34 dX3_append_37 dX3_append_38 dX3_append_40 dX3_append_43 (show 5 < 6 by decide) (show 82 ≤ 186 by decide) (Nat.le_refl _) (Nat.le_refl _)
    · replace h := ite_F h hc
      refine aw_sub [] rfl ?_
      exact ok_X3_append_j12 C hex h
/-! ### NameScopes.begin()I -/
theorem ok_X3_begin {l : Launch} (htr : l.stackTraces = false) {μ : Mm} {r : (Int32 × Mm)}  (h : X3_begin μ = some r) : MetX l yX3_begin cX3_begin 2 (some .int) 3 (fun ad => [.ref (ad 0)]) μ (.inr (some (.int r.1))) r.2 := by
  refine MetX.of htr (by decide) rfl (fun ad => Nat.le_of_ble_eq_true rfl) (fun p e s m args below meth c D cI cL ad C hex hw => ?_)
  show AV l p e s m args below meth c D cI cL ad 3 2 (.inr (some (.int r.1))) r.2 0 [(0, .ref (ad 0))] [] μ
  unfold X3_begin at h
  refine aw_aload_n (pc := 0) C dX3_begin_0 rfl 0 rfl ?_
  refine aw_getNow (pc := 1) C q161 dX3_begin_1 (fun hF1 => ?_)
  refine aw_getN (pc := 4) C (a := (mNow μ)) (k := 0) (v := .int (μ.1 (mNow μ) 0)) inX0 (kdF hF1) rfl (by decide) q77 dX3_begin_4 rfl ?_
  obtain ⟨x2, ex2, h⟩ := bd_some h
  refine aw_istore_n (pc := 7) C (x := x2) (lv' := [(1, .int x2), (0, .ref (ad 0))]) dX3_begin_7 rfl (by decide) ex2 rfl ?_
  refine aw_aload_n (pc := 8) C dX3_begin_8 rfl 1 rfl ?_
  refine aw_getNow (pc := 9) C q161 dX3_begin_9 (fun hF3 => ?_)
  obtain ⟨μ6, hq4, h⟩ := bi_some h
  refine aw_Vv (pc := 12) (a := (mNow μ)) (Bs := []) C (ok_X0_reset C.tr hF3 hq4) kv_X0_reset q174 (kdF hF3) rfl rfl rfl dX3_begin_12 ⟨(show 1 ≤ 3 by decide), (show 20 ≤ 93 by decide)⟩ ⟨Nat.zero_le _, Nat.zero_le _⟩ [] (Nat.le_of_ble_eq_true rfl) rfl ?_
  refine aw_aload_n (pc := 15) C dX3_begin_15 rfl 1 rfl ?_
  refine aw_getNow (pc := 16) C q161 dX3_begin_16 (fun hF7 => ?_)
  obtain ⟨μ10, hq8, h⟩ := bi_some h
  refine aw_Vv (pc := 19) (a := (mNow μ6)) (Bs := []) C (ok_X0_settle C.tr hF7 hq8) kv_X0_settle q178 (kdF hF7) rfl rfl rfl dX3_begin_19 ⟨(show 3 ≤ 3 by decide), (show 82 ≤ 93 by decide)⟩ ⟨Nat.zero_le _, Nat.zero_le _⟩ [] (Nat.le_of_ble_eq_true rfl) rfl ?_
  refine aw_iload_n (pc := 22) C dX3_begin_22 rfl 0 rfl ?_
  cases h
  exact aw_iret (pc := 23) C dX3_begin_23
/-! ### NameScopes.needIndex(II)V -/
theorem ok_X3_needIndex_j9 {l : Launch} {p : Program} {e : Env} {s : State} {m : MethodId} {args : Array Value} {below : List Frame} {meth : Method} {c : Code} {D : va_G} {cI cL : ClassId} {ad : Nat → Nat} (C : CX p l s m args meth c RX3 cX3_needIndex 2 none D cI cL (AA ad s.heap.size)) (hex : ∀ x ∈ c.exceptionTable.toList, False) {r : (String ⊕ Unit)} {v0 : Int32} {v1 : Int32} {μ : Mm}  (h : X3_needIndex_j9 v0 v1 = some r) : AV l p e s m args below meth c D cI cL ad 6 2 (rsU r) μ 9 [] [] μ := by
  unfold X3_needIndex_j9 at h
  cases h
  exact aw_throwW (pc := 9) C hex okt_288_290_292 dX3_needIndex_9 dX3_needIndex_12 dX3_needIndex_13 dX3_needIndex_16 dX3_needIndex_19 (show 5 < 6 by decide) (show 82 ≤ 186 by decide) (Nat.le_refl _) (Nat.le_refl _)
theorem ok_X3_needIndex {l : Launch} (htr : l.stackTraces = false) {v0 : Int32} {v1 : Int32} {μ : Mm} {r : (String ⊕ Unit)}  (h : X3_needIndex v0 v1 = some r) : MetX l yX3_needIndex cX3_needIndex 2 none 6 (fun ad => [.int v0, .int v1]) μ (rsU r) μ := by
  refine MetX.of htr (by decide) rfl (fun ad => Nat.le_of_ble_eq_true rfl) (fun p e s m args below meth c D cI cL ad C hex hw => ?_)
  show AV l p e s m args below meth c D cI cL ad 6 2 (rsU r) μ 0 [(0, .int v0), (1, .int v1)] [] μ
  unfold X3_needIndex at h
  refine aw_iload_n (pc := 0) C dX3_needIndex_0 rfl 0 rfl ?_
  refine aw_if_lt (pc := 1) C 9 dX3_needIndex_1 rfl (fun hc => ?_) (fun hc => ?_)
  · replace h := ite_T h hc
    refine aw_sub [] rfl ?_
    exact ok_X3_needIndex_j9 C hex h
  · replace h := ite_F h hc
    refine aw_iload_n (pc := 4) C dX3_needIndex_4 rfl 0 rfl ?_
    refine aw_iload_n (pc := 5) C dX3_needIndex_5 rfl 1 rfl ?_
    refine aw_icmp_lt (pc := 6) C 20 dX3_needIndex_6 rfl (fun hc => ?_) (fun hc => ?_)
    · replace h := ite_T h hc
      cases h
      exact aw_vret (pc := 20) C dX3_needIndex_20
    · replace h := ite_F h hc
      refine aw_sub [] rfl ?_
      exact ok_X3_needIndex_j9 C hex h
/-! ### NameScopes.needBelow(II)V -/
theorem ok_X3_needBelow_j9 {l : Launch} {p : Program} {e : Env} {s : State} {m : MethodId} {args : Array Value} {below : List Frame} {meth : Method} {c : Code} {D : va_G} {cI cL : ClassId} {ad : Nat → Nat} (C : CX p l s m args meth c RX3 cX3_needBelow 2 none D cI cL (AA ad s.heap.size)) (hex : ∀ x ∈ c.exceptionTable.toList, False) {r : (String ⊕ Unit)} {v0 : Int32} {v1 : Int32} {μ : Mm}  (h : X3_needBelow_j9 v0 v1 = some r) : AV l p e s m args below meth c D cI cL ad 6 2 (rsU r) μ 9 [] [] μ := by
  unfold X3_needBelow_j9 at h
  cases h
  exact aw_throwW (pc := 9) C hex okt_99_293_103 dX3_needBelow_9 dX3_needBelow_12 dX3_needBelow_13 dX3_needBelow_16 dX3_needBelow_19 (show 5 < 6 by decide) (show 82 ≤ 186 by decide) (Nat.le_refl _) (Nat.le_refl _)
theorem ok_X3_needBelow {l : Launch} (htr : l.stackTraces = false) {v0 : Int32} {v1 : Int32} {μ : Mm} {r : (String ⊕ Unit)}  (h : X3_needBelow v0 v1 = some r) : MetX l yX3_needBelow cX3_needBelow 2 none 6 (fun ad => [.int v0, .int v1]) μ (rsU r) μ := by
  refine MetX.of htr (by decide) rfl (fun ad => Nat.le_of_ble_eq_true rfl) (fun p e s m args below meth c D cI cL ad C hex hw => ?_)
  show AV l p e s m args below meth c D cI cL ad 6 2 (rsU r) μ 0 [(0, .int v0), (1, .int v1)] [] μ
  unfold X3_needBelow at h
  refine aw_iload_n (pc := 0) C dX3_needBelow_0 rfl 0 rfl ?_
  refine aw_if_lt (pc := 1) C 9 dX3_needBelow_1 rfl (fun hc => ?_) (fun hc => ?_)
  · replace h := ite_T h hc
    refine aw_sub [] rfl ?_
    exact ok_X3_needBelow_j9 C hex h
  · replace h := ite_F h hc
    refine aw_iload_n (pc := 4) C dX3_needBelow_4 rfl 0 rfl ?_
    refine aw_iload_n (pc := 5) C dX3_needBelow_5 rfl 1 rfl ?_
    refine aw_icmp_lt (pc := 6) C 20 dX3_needBelow_6 rfl (fun hc => ?_) (fun hc => ?_)
    · replace h := ite_T h hc
      cases h
      exact aw_vret (pc := 20) C dX3_needBelow_20
    · replace h := ite_F h hc
      refine aw_sub [] rfl ?_
      exact ok_X3_needBelow_j9 C hex h
/-! ### NameScopes.nthOf(II)I -/
theorem ok_X3_nthOf_l4 {l : Launch} {p : Program} {e : Env} {s : State} {m : MethodId} {args : Array Value} {below : List Frame} {meth : Method} {c : Code} {D : va_G} {cI cL : ClassId} {ad : Nat → Nat} (C : CX p l s m args meth c RX3 cX3_nthOf 4 (some .int) D cI cL (AA ad s.heap.size)) (hex : ∀ x ∈ c.exceptionTable.toList, False) {r : Int32} {v0 : Int32} {v1 : Int32} {μ : Mm} {k4 : Int32 → Int32 → Option Int32} (hk4 : ∀ (v2 : Int32) (v3 : Int32), k4 v2 v3 = some r → AV l p e s m args below meth c D cI cL ad 0 4 (.inr (some (.int r))) μ 4 [(0, .int v0), (1, .int v1), (2, .int v2), (3, .int v3)] [] μ) {v2 : Int32} {v3 : Int32}  (h : X3_nthOf_l4 v0 v1 k4 v2 v3 = some r) : AV l p e s m args below meth c D cI cL ad 0 4 (.inr (some (.int r))) μ 4 [(0, .int v0), (1, .int v1), (2, .int v2), (3, .int v3)] [] μ := by
  unfold X3_nthOf_l4 at h
  refine aw_iload_n (pc := 4) C dX3_nthOf_4 rfl 3 rfl ?_
  refine aw_bipush (pc := 5) C (v := 30) dX3_nthOf_5 rfl ?_
  refine aw_icmp_ge (pc := 7) C 34 dX3_nthOf_7 rfl (fun hc => ?_) (fun hc => ?_)
  · replace h := ite_T h hc
    refine aw_iconst (pc := 34) C (v := (-1)) dX3_nthOf_34 rfl ?_
    cases h
    exact aw_iret (pc := 35) C dX3_nthOf_35
  · replace h := ite_F h hc
    refine aw_iload_n (pc := 10) C dX3_nthOf_10 rfl 0 rfl ?_
    refine aw_iload_n (pc := 11) C dX3_nthOf_11 rfl 3 rfl ?_
    refine aw_ishr (pc := 12) C dX3_nthOf_12 ?_
    refine aw_iconst (pc := 13) C (v := 1) dX3_nthOf_13 rfl ?_
    refine aw_iand (pc := 14) C dX3_nthOf_14 ?_
    refine aw_if_eq (pc := 15) C 28 dX3_nthOf_15 rfl (fun hc => ?_) (fun hc => ?_)
    · replace h := ite_T h hc
      refine aw_iinc (pc := 28) C (v := (v3 + 1)) (lv' := [(3, .int (v3 + 1)), (0, .int v0), (1, .int v1), (2, .int v2)]) dX3_nthOf_28 3 rfl (by decide) rfl rfl ?_
      refine aw_goto (pc := 31) C 4 dX3_nthOf_31 rfl ?_
      refine aw_sub [1, 2, 3, 0] rfl ?_
      exact hk4 v2 (v3 + 1) h
    · replace h := ite_F h hc
      refine aw_iload_n (pc := 18) C dX3_nthOf_18 rfl 2 rfl ?_
      refine aw_iload_n (pc := 19) C dX3_nthOf_19 rfl 1 rfl ?_
      refine aw_icmp_ne (pc := 20) C 25 dX3_nthOf_20 rfl (fun hc => ?_) (fun hc => ?_)
      · replace h := ite_F h hc
        refine aw_iinc (pc := 25) C (v := (v2 + 1)) (lv' := [(2, .int (v2 + 1)), (0, .int v0), (1, .int v1), (3, .int v3)]) dX3_nthOf_25 2 rfl (by decide) rfl rfl ?_
        refine aw_iinc (pc := 28) C (v := (v3 + 1)) (lv' := [(3, .int (v3 + 1)), (2, .int (v2 + 1)), (0, .int v0), (1, .int v1)]) dX3_nthOf_28 3 rfl (by decide) rfl rfl ?_
        refine aw_goto (pc := 31) C 4 dX3_nthOf_31 rfl ?_
        refine aw_sub [2, 3, 1, 0] rfl ?_
        exact hk4 (v2 + 1) (v3 + 1) h
      · replace h := ite_T h hc
        refine aw_iload_n (pc := 23) C dX3_nthOf_23 rfl 3 rfl ?_
        cases h
        exact aw_iret (pc := 24) C dX3_nthOf_24
theorem ok_X3_nthOf_l4_w {l : Launch} {p : Program} {e : Env} {s : State} {m : MethodId} {args : Array Value} {below : List Frame} {meth : Method} {c : Code} {D : va_G} {cI cL : ClassId} {ad : Nat → Nat} (C : CX p l s m args meth c RX3 cX3_nthOf 4 (some .int) D cI cL (AA ad s.heap.size)) (hex : ∀ x ∈ c.exceptionTable.toList, False) {r : Int32} {v0 : Int32} {v1 : Int32} {μ : Mm} : ∀ (n : Nat) (v2 : Int32) (v3 : Int32) , itr (X3_nthOf_l4 v0 v1) (fun _ _ => none) n v2 v3 = some r → AV l p e s m args below meth c D cI cL ad 0 4 (.inr (some (.int r))) μ 4 [(0, .int v0), (1, .int v1), (2, .int v2), (3, .int v3)] [] μ := by
  intro n
  induction n with
  | zero => intro v2 v3 h; exact nomatch (show (none : Option Int32) = some r from h)
  | succ n ih => intro v2 v3 h; exact ok_X3_nthOf_l4 C hex (v0 := v0) (v1 := v1) ih h
theorem ok_X3_nthOf {l : Launch} (htr : l.stackTraces = false) {v0 : Int32} {v1 : Int32} {μ : Mm} {r : Int32}  (h : X3_nthOf v0 v1 = some r) : MetX l yX3_nthOf cX3_nthOf 4 (some .int) 0 (fun ad => [.int v0, .int v1]) μ (.inr (some (.int r))) μ := by
  refine MetX.of htr (by decide) rfl (fun ad => Nat.le_of_ble_eq_true rfl) (fun p e s m args below meth c D cI cL ad C hex hw => ?_)
  show AV l p e s m args below meth c D cI cL ad 0 4 (.inr (some (.int r))) μ 0 [(0, .int v0), (1, .int v1)] [] μ
  unfold X3_nthOf at h
  refine aw_iconst (pc := 0) C (v := 0) dX3_nthOf_0 rfl ?_
  refine aw_istore_n (pc := 1) C (x := 0) (lv' := [(2, .int 0), (0, .int v0), (1, .int v1)]) dX3_nthOf_1 rfl (by decide) rfl rfl ?_
  refine aw_iconst (pc := 2) C (v := 0) dX3_nthOf_2 rfl ?_
  refine aw_istore_n (pc := 3) C (x := 0) (lv' := [(3, .int 0), (2, .int 0), (0, .int v0), (1, .int v1)]) dX3_nthOf_3 rfl (by decide) rfl rfl ?_
  refine aw_sub [2, 3, 1, 0] rfl ?_
  exact ok_X3_nthOf_l4_w C hex big 0 0 h
/-! ### NameScopes.candidate(IIII)I -/
theorem ok_X3_candidate_j35 {l : Launch} {p : Program} {e : Env} {s : State} {m : MethodId} {args : Array Value} {below : List Frame} {meth : Method} {c : Code} {D : va_G} {cI cL : ClassId} {ad : Nat → Nat} (C : CX p l s m args meth c RX3 cX3_candidate 6 (some .int) D cI cL (AA ad s.heap.size)) (hex : ∀ x ∈ c.exceptionTable.toList, False) {r : (String ⊕ Int32)} {v1 : Int32} {v2 : Int32} {v3 : Int32} {v4 : Int32} {μ : Mm} {s0 : Int32}  (h : X3_candidate_j35 v1 v2 v3 v4 μ s0 = some r) : AV l p e s m args below meth c D cI cL ad 7 6 (rsI r) μ 35 [(0, .ref (ad 0)), (1, .int v1), (2, .int v2), (4, .int v4)] [.int s0] μ := by
  unfold X3_candidate_j35 at h
  refine aw_istore (pc := 35) C (x := s0) (lv' := [(5, .int s0), (0, .ref (ad 0)), (1, .int v1), (2, .int v2), (4, .int v4)]) dX3_candidate_35 (by decide) rfl rfl ?_
  refine aw_iload (pc := 37) C dX3_candidate_37 0 rfl ?_
  refine aw_iconst (pc := 39) C (v := (-1)) dX3_candidate_39 rfl ?_
  refine aw_icmp_ne (pc := 40) C 47 dX3_candidate_40 rfl (fun hc => ?_) (fun hc => ?_)
  · replace h := ite_F h hc
    refine aw_aload_n (pc := 47) C dX3_candidate_47 rfl 1 rfl ?_
    refine aw_getNow (pc := 48) C q161 dX3_candidate_48 (fun hF13 => ?_)
    refine aw_iload_n (pc := 51) C dX3_candidate_51 rfl 2 rfl ?_
    refine aw_iload_n (pc := 52) C dX3_candidate_52 rfl 3 rfl ?_
    refine aw_iload (pc := 53) C dX3_candidate_53 0 rfl ?_
    obtain ⟨q15, hq14, h⟩ := bi_some h
    refine aw_Vi (pc := 55) (a := (mNow μ)) (Bs := [.int v1, .int v2, .int s0]) C (ok_X0_layerAt C.tr hF13 hq14) kv_X0_layerAt q650 (kdF hF13) rfl rfl rfl dX3_candidate_55 ⟨(show 2 ≤ 7 by decide), (show 56 ≤ 217 by decide)⟩ ⟨Nat.zero_le _, Nat.zero_le _⟩ [] (Nat.le_of_ble_eq_true rfl) rfl ?_
    refine aw_iload (pc := 58) C dX3_candidate_58 4 rfl ?_
    obtain ⟨q17, hq16, h⟩ := bi_some h
    refine aw_Si (pc := 60) (Bs := [.int q15, .int v4]) C (ok_X3_nthOf C.tr hq16) kv_X3_nthOf q654 rfl rfl dX3_candidate_60 ⟨(show 1 ≤ 7 by decide), (show 23 ≤ 217 by decide)⟩ ⟨Nat.zero_le _, Nat.zero_le _⟩ [] (Nat.le_of_ble_eq_true rfl) rfl ?_
    cases h
    exact aw_iret (pc := 63) C dX3_candidate_63
  · replace h := ite_T h hc
    refine aw_iconst (pc := 43) C (v := (-1)) dX3_candidate_43 rfl ?_
    refine aw_goto (pc := 44) C 63 dX3_candidate_44 rfl ?_
    cases h
    exact aw_iret (pc := 63) C dX3_candidate_63
theorem ok_X3_candidate {l : Launch} (htr : l.stackTraces = false) {v1 : Int32} {v2 : Int32} {v3 : Int32} {v4 : Int32} {μ : Mm} {r : (String ⊕ Int32)}  (h : X3_candidate v1 v2 v3 v4 μ = some r) : MetX l yX3_candidate cX3_candidate 6 (some .int) 7 (fun ad => [.ref (ad 0), .int v1, .int v2, .int v3, .int v4]) μ (rsI r) μ := by
  refine MetX.of htr (by decide) rfl (fun ad => Nat.le_of_ble_eq_true rfl) (fun p e s m args below meth c D cI cL ad C hex hw => ?_)
  show AV l p e s m args below meth c D cI cL ad 7 6 (rsI r) μ 0 [(0, .ref (ad 0)), (1, .int v1), (2, .int v2), (3, .int v3), (4, .int v4)] [] μ
  unfold X3_candidate at h
  refine aw_iload_n (pc := 0) C dX3_candidate_0 rfl 1 rfl ?_
  refine aw_aload_n (pc := 1) C dX3_candidate_1 rfl 0 rfl ?_
  refine aw_getNow (pc := 2) C q161 dX3_candidate_2 (fun hF1 => ?_)
  refine aw_getN (pc := 5) C (a := (mNow μ)) (k := 0) (v := .int (μ.1 (mNow μ) 0)) inX0 (kdF hF1) rfl (by decide) q77 dX3_candidate_5 rfl ?_
  obtain ⟨y5, hq2, h⟩ := bi_some h
  rcases y5 with E4 | q3
  · rw [thr_l] at h
    cases h
    exact aw_callST (pc := 8) (Bs := [.int v1, .int (μ.1 (mNow μ) 0)]) (rest := []) C hex (ok_X3_needIndex C.tr (r := .inl E4) hq2) kv_X3_needIndex q391 rfl rfl (Nat.le_of_ble_eq_true rfl) dX3_candidate_8 ⟨(show 7 ≤ 7 by decide), (show 207 ≤ 217 by decide)⟩ ⟨Nat.le_refl _, Nat.le_refl _⟩ rfl
  · rw [thr_r] at h
    refine aw_Sv (pc := 8) (Bs := [.int v1, .int (μ.1 (mNow μ) 0)]) C (ok_X3_needIndex C.tr (r := .inr q3) hq2) kv_X3_needIndex q391 rfl rfl dX3_candidate_8 ⟨(show 7 ≤ 7 by decide), (show 207 ≤ 217 by decide)⟩ ⟨Nat.zero_le _, Nat.zero_le _⟩ [] (Nat.le_of_ble_eq_true rfl) rfl ?_
    refine aw_iload_n (pc := 11) C dX3_candidate_11 rfl 2 rfl ?_
    refine aw_bipush (pc := 12) C (v := 26) dX3_candidate_12 rfl ?_
    obtain ⟨y9, hq6, h⟩ := bi_some h
    rcases y9 with E8 | q7
    · rw [thr_l] at h
      cases h
      exact aw_callST (pc := 14) (Bs := [.int v2, .int 26]) (rest := []) C hex (ok_X3_needBelow C.tr (r := .inl E8) hq6) kv_X3_needBelow q269 rfl rfl (Nat.le_of_ble_eq_true rfl) dX3_candidate_14 ⟨(show 7 ≤ 7 by decide), (show 207 ≤ 217 by decide)⟩ ⟨Nat.le_refl _, Nat.le_refl _⟩ rfl
    · rw [thr_r] at h
      refine aw_Sv (pc := 14) (Bs := [.int v2, .int 26]) C (ok_X3_needBelow C.tr (r := .inr q7) hq6) kv_X3_needBelow q269 rfl rfl dX3_candidate_14 ⟨(show 7 ≤ 7 by decide), (show 207 ≤ 217 by decide)⟩ ⟨Nat.zero_le _, Nat.zero_le _⟩ [] (Nat.le_of_ble_eq_true rfl) rfl ?_
      refine aw_iload_n (pc := 17) C dX3_candidate_17 rfl 3 rfl ?_
      refine aw_if_ge (pc := 18) C 25 dX3_candidate_18 rfl (fun hc => ?_) (fun hc => ?_)
      · replace h := ite_T h hc
        refine aw_aload_n (pc := 25) C dX3_candidate_25 rfl 0 rfl ?_
        refine aw_getNow (pc := 26) C q161 dX3_candidate_26 (fun hF10 => ?_)
        refine aw_iload_n (pc := 29) C dX3_candidate_29 rfl 1 rfl ?_
        refine aw_iload_n (pc := 30) C dX3_candidate_30 rfl 2 rfl ?_
        refine aw_iload_n (pc := 31) C dX3_candidate_31 rfl 3 rfl ?_
        obtain ⟨q12, hq11, h⟩ := bi_some h
        refine aw_Vi (pc := 32) (a := (mNow μ)) (Bs := [.int v1, .int v2, .int v3]) C (ok_X0_placeOfLayer C.tr hF10 hq11) kv_X0_placeOfLayer q637 (kdF hF10) rfl rfl rfl dX3_candidate_32 ⟨(show 2 ≤ 7 by decide), (show 57 ≤ 217 by decide)⟩ ⟨Nat.zero_le _, Nat.zero_le _⟩ [] (Nat.le_of_ble_eq_true rfl) rfl ?_
        refine aw_sub [0, 1, 2, 4] rfl ?_
        exact ok_X3_candidate_j35 C hex h
      · replace h := ite_F h hc
        refine aw_iconst (pc := 21) C (v := (-1)) dX3_candidate_21 rfl ?_
        refine aw_goto (pc := 22) C 35 dX3_candidate_22 rfl ?_
        refine aw_sub [0, 1, 2, 4] rfl ?_
        exact ok_X3_candidate_j35 C hex h
/-! ### NameScopes.clearBuffer()I -/
theorem ok_X3_clearBuffer {l : Launch} (htr : l.stackTraces = false) {μ : Mm} {r : (Int32 × Mm)}  (h : X3_clearBuffer μ = some r) : MetX l yX3_clearBuffer cX3_clearBuffer 2 (some .int) 0 (fun ad => [.ref (ad 0)]) μ (.inr (some (.int r.1))) r.2 := by
  refine MetX.of htr (by decide) rfl (fun ad => Nat.le_of_ble_eq_true rfl) (fun p e s m args below meth c D cI cL ad C hex hw => ?_)
  show AV l p e s m args below meth c D cI cL ad 0 2 (.inr (some (.int r.1))) r.2 0 [(0, .ref (ad 0))] [] μ
  unfold X3_clearBuffer at h
  refine aw_aload_n (pc := 0) C dX3_clearBuffer_0 rfl 0 rfl ?_
  refine aw_get (pc := 1) C (a := 0) (k := 0) (v := .ref (ad 1)) inX3 rfl rfl (by decide) q160 dX3_clearBuffer_1 rfl ?_
  refine aw_getN (pc := 4) C (a := 1) (k := 1) (v := .int (μ.1 1 1)) inX2 rfl rfl (by decide) q32 dX3_clearBuffer_4 rfl ?_
  obtain ⟨x1, ex1, h⟩ := bd_some h
  refine aw_istore_n (pc := 7) C (x := x1) (lv' := [(1, .int x1), (0, .ref (ad 0))]) dX3_clearBuffer_7 rfl (by decide) ex1 rfl ?_
  refine aw_aload_n (pc := 8) C dX3_clearBuffer_8 rfl 1 rfl ?_
  refine aw_get (pc := 9) C (a := 0) (k := 0) (v := .ref (ad 1)) inX3 rfl rfl (by decide) q160 dX3_clearBuffer_9 rfl ?_
  refine aw_iconst (pc := 12) C (v := 0) dX3_clearBuffer_12 rfl ?_
  obtain ⟨μ2, eμ2, h⟩ := bd_some h
  refine aw_putIN (pc := 13) C (a := 1) (k := 1) (ty := .int) inX2 tyX2 tyX2_ok nmX2 rfl rfl (by decide) q32 rfl (by decide +kernel) rfl rfl (by show 1 < 2; decide) dX3_clearBuffer_13 fl_2_1 eμ2 ?_
  refine aw_iload_n (pc := 16) C dX3_clearBuffer_16 rfl 0 rfl ?_
  cases h
  exact aw_iret (pc := 17) C dX3_clearBuffer_17
/-! ### NameScopes.lossWithout(I)I -/
theorem ok_X3_lossWithout_j118 {l : Launch} {p : Program} {e : Env} {s : State} {m : MethodId} {args : Array Value} {below : List Frame} {meth : Method} {c : Code} {D : va_G} {cI cL : ClassId} {ad : Nat → Nat} (C : CX p l s m args meth c RX3 cX3_lossWithout 4 (some .int) D cI cL (AA ad s.heap.size)) (hex : ∀ x ∈ c.exceptionTable.toList, False) {r : (Int32 × Mm)} {v1 : Int32} {μ : Mm}  (h : X3_lossWithout_j118 v1 μ = some r) : AV l p e s m args below meth c D cI cL ad 4 4 (.inr (some (.int r.1))) r.2 118 [(0, .ref (ad 0)), (1, .int v1)] [] μ := by
  unfold X3_lossWithout_j118 at h
  refine aw_aload_n (pc := 118) C dX3_lossWithout_118 rfl 0 rfl ?_
  refine aw_getNow (pc := 119) C q161 dX3_lossWithout_119 (fun hF3 => ?_)
  refine aw_getN (pc := 122) C (a := (mNow μ)) (k := 16) (v := .ref (ad ((mNow μ) + 13))) inX0 (kdF hF3) rfl (by decide) q120 dX3_lossWithout_122 rfl ?_
  refine aw_iload_n (pc := 125) C dX3_lossWithout_125 rfl 1 rfl ?_
  obtain ⟨g4, h⟩ := ck_some h
  refine aw_iaload (pc := 126) C (a := ((mNow μ) + 13)) ((kdFk (k := 13) hF3 rfl rfl)) g4 dX3_lossWithout_126 ?_
  cases h
  exact aw_iret (pc := 127) C dX3_lossWithout_127
theorem ok_X3_lossWithout_j108 {l : Launch} {p : Program} {e : Env} {s : State} {m : MethodId} {args : Array Value} {below : List Frame} {meth : Method} {c : Code} {D : va_G} {cI cL : ClassId} {ad : Nat → Nat} (C : CX p l s m args meth c RX3 cX3_lossWithout 4 (some .int) D cI cL (AA ad s.heap.size)) (hex : ∀ x ∈ c.exceptionTable.toList, False) {r : (Int32 × Mm)} {v1 : Int32} {v2 : Int32} {μ : Mm}  (h : X3_lossWithout_j108 v1 v2 μ = some r) : AV l p e s m args below meth c D cI cL ad 4 4 (.inr (some (.int r.1))) r.2 108 [(0, .ref (ad 0)), (1, .int v1), (2, .int v2)] [] μ := by
  unfold X3_lossWithout_j108 at h
  refine aw_aload_n (pc := 108) C dX3_lossWithout_108 rfl 0 rfl ?_
  refine aw_getNow (pc := 109) C q161 dX3_lossWithout_109 (fun hF6 => ?_)
  refine aw_getN (pc := 112) C (a := (mNow μ)) (k := 16) (v := .ref (ad ((mNow μ) + 13))) inX0 (kdF hF6) rfl (by decide) q120 dX3_lossWithout_112 rfl ?_
  refine aw_iload_n (pc := 115) C dX3_lossWithout_115 rfl 1 rfl ?_
  refine aw_iload_n (pc := 116) C dX3_lossWithout_116 rfl 2 rfl ?_
  obtain ⟨g7, h⟩ := ck_some h
  obtain ⟨μ8, eμ8, h⟩ := bd_some h
  refine aw_iastore (pc := 117) C (a := ((mNow μ) + 13)) ((kdFk (k := 13) hF6 rfl rfl)) g7 dX3_lossWithout_117 eμ8 ?_
  refine aw_sub [0, 1] rfl ?_
  exact ok_X3_lossWithout_j118 C hex h
theorem ok_X3_lossWithout_l64 {l : Launch} {p : Program} {e : Env} {s : State} {m : MethodId} {args : Array Value} {below : List Frame} {meth : Method} {c : Code} {D : va_G} {cI cL : ClassId} {ad : Nat → Nat} (C : CX p l s m args meth c RX3 cX3_lossWithout 4 (some .int) D cI cL (AA ad s.heap.size)) (hex : ∀ x ∈ c.exceptionTable.toList, False) {r : (Int32 × Mm)} {v1 : Int32} {k64 : Int32 → Int32 → Mm → Option (Int32 × Mm)} (hk64 : ∀ (v2 : Int32) (v3 : Int32) (μ : Mm), k64 v2 v3 μ = some r → AV l p e s m args below meth c D cI cL ad 4 4 (.inr (some (.int r.1))) r.2 64 [(0, .ref (ad 0)), (1, .int v1), (2, .int v2), (3, .int v3)] [] μ) {v2 : Int32} {v3 : Int32} {μ : Mm}  (h : X3_lossWithout_l64 v1 k64 v2 v3 μ = some r) : AV l p e s m args below meth c D cI cL ad 4 4 (.inr (some (.int r.1))) r.2 64 [(0, .ref (ad 0)), (1, .int v1), (2, .int v2), (3, .int v3)] [] μ := by
  unfold X3_lossWithout_l64 at h
  refine aw_iload_n (pc := 64) C dX3_lossWithout_64 rfl 3 rfl ?_
  refine aw_aload_n (pc := 65) C dX3_lossWithout_65 rfl 0 rfl ?_
  refine aw_getNow (pc := 66) C q161 dX3_lossWithout_66 (fun hF25 => ?_)
  refine aw_getN (pc := 69) C (a := (mNow μ)) (k := 13) (v := .int (μ.1 (mNow μ) 13)) inX0 (kdF hF25) rfl (by decide) q114 dX3_lossWithout_69 rfl ?_
  refine aw_icmp_ge (pc := 72) C 108 dX3_lossWithout_72 rfl (fun hc => ?_) (fun hc => ?_)
  · replace h := ite_T h hc
    refine aw_sub [0, 1, 2] rfl ?_
    exact ok_X3_lossWithout_j108 C hex h
  · replace h := ite_F h hc
    refine aw_iload_n (pc := 75) C dX3_lossWithout_75 rfl 2 rfl ?_
    refine aw_aload_n (pc := 76) C dX3_lossWithout_76 rfl 0 rfl ?_
    refine aw_getNow (pc := 77) C q161 dX3_lossWithout_77 (fun hF26 => ?_)
    refine aw_iload_n (pc := 80) C dX3_lossWithout_80 rfl 3 rfl ?_
    obtain ⟨q28, hq27, h⟩ := bi_some h
    refine aw_Vi (pc := 81) (a := (mNow μ)) (Bs := [.int v3]) C (ok_X0_outcome C.tr hF26 hq27) kv_X0_outcome q370 (kdF hF26) rfl rfl rfl dX3_lossWithout_81 ⟨(show 2 ≤ 4 by decide), (show 52 ≤ 124 by decide)⟩ ⟨Nat.zero_le _, Nat.zero_le _⟩ [.int v2] (Nat.le_of_ble_eq_true rfl) rfl ?_
    refine aw_aload_n (pc := 84) C dX3_lossWithout_84 rfl 0 rfl ?_
    refine aw_getOth (pc := 85) C q162 dX3_lossWithout_85 (fun hF29 => ?_)
    refine aw_iload_n (pc := 88) C dX3_lossWithout_88 rfl 3 rfl ?_
    obtain ⟨q31, hq30, h⟩ := bi_some h
    refine aw_Vi (pc := 89) (a := (mOth μ)) (Bs := [.int v3]) C (ok_X0_outcome C.tr hF29 hq30) kv_X0_outcome q370 (kdF hF29) rfl rfl rfl dX3_lossWithout_89 ⟨(show 2 ≤ 4 by decide), (show 52 ≤ 124 by decide)⟩ ⟨Nat.zero_le _, Nat.zero_le _⟩ [.int q28, .int v2] (Nat.le_of_ble_eq_true rfl) rfl ?_
    have kJ : AV l p e s m args below meth c D cI cL ad 4 4 (.inr (some (.int r.1))) r.2 100 [(0, .ref (ad 0)), (1, .int v1), (2, .int v2), (3, .int v3)] [.int (if q28 = q31 then (0 : Int32) else 1), .int v2] μ := by
      refine aw_iadd (pc := 100) C dX3_lossWithout_100 ?_
      obtain ⟨x32, ex32, h⟩ := bd_some h
      refine aw_istore_n (pc := 101) C (x := x32) (lv' := [(2, .int x32), (0, .ref (ad 0)), (1, .int v1), (3, .int v3)]) dX3_lossWithout_101 rfl (by decide) ex32 rfl ?_
      refine aw_iinc (pc := 102) C (v := (v3 + 1)) (lv' := [(3, .int (v3 + 1)), (2, .int x32), (0, .ref (ad 0)), (1, .int v1)]) dX3_lossWithout_102 3 rfl (by decide) rfl rfl ?_
      refine aw_goto (pc := 105) C 64 dX3_lossWithout_105 rfl ?_
      refine aw_sub [2, 3, 1, 0] rfl ?_
      exact hk64 x32 (v3 + 1) μ h
    refine aw_icmp_ne (pc := 92) C 99 dX3_lossWithout_92 rfl (fun hd1 => ?_) (fun hd1 => ?_)
    · refine aw_iconst (pc := 99) C (v := 1) dX3_lossWithout_99 rfl ?_
      rw [if_neg hd1] at kJ
      exact kJ
    · refine aw_iconst (pc := 95) C (v := 0) dX3_lossWithout_95 rfl ?_
      refine aw_goto (pc := 96) C 100 dX3_lossWithout_96 rfl ?_
      rw [if_pos hd1] at kJ
      exact kJ
theorem ok_X3_lossWithout_l64_w {l : Launch} {p : Program} {e : Env} {s : State} {m : MethodId} {args : Array Value} {below : List Frame} {meth : Method} {c : Code} {D : va_G} {cI cL : ClassId} {ad : Nat → Nat} (C : CX p l s m args meth c RX3 cX3_lossWithout 4 (some .int) D cI cL (AA ad s.heap.size)) (hex : ∀ x ∈ c.exceptionTable.toList, False) {r : (Int32 × Mm)} {v1 : Int32} : ∀ (n : Nat) (v2 : Int32) (v3 : Int32) (μ : Mm) , itr (X3_lossWithout_l64 v1) (fun _ _ _ => none) n v2 v3 μ = some r → AV l p e s m args below meth c D cI cL ad 4 4 (.inr (some (.int r.1))) r.2 64 [(0, .ref (ad 0)), (1, .int v1), (2, .int v2), (3, .int v3)] [] μ := by
  intro n
  induction n with
  | zero => intro v2 v3 μ h; exact nomatch (show (none : Option (Int32 × Mm)) = some r from h)
  | succ n ih => intro v2 v3 μ h; exact ok_X3_lossWithout_l64 C hex (v1 := v1) ih h
theorem ok_X3_lossWithout {l : Launch} (htr : l.stackTraces = false) {v1 : Int32} {μ : Mm} {r : (Int32 × Mm)}  (h : X3_lossWithout v1 μ = some r) : MetX l yX3_lossWithout cX3_lossWithout 4 (some .int) 4 (fun ad => [.ref (ad 0), .int v1]) μ (.inr (some (.int r.1))) r.2 := by
  refine MetX.of htr (by decide) rfl (fun ad => Nat.le_of_ble_eq_true rfl) (fun p e s m args below meth c D cI cL ad C hex hw => ?_)
  show AV l p e s m args below meth c D cI cL ad 4 4 (.inr (some (.int r.1))) r.2 0 [(0, .ref (ad 0)), (1, .int v1)] [] μ
  unfold X3_lossWithout at h
  refine aw_aload_n (pc := 0) C dX3_lossWithout_0 rfl 0 rfl ?_
  refine aw_getNow (pc := 1) C q161 dX3_lossWithout_1 (fun hF1 => ?_)
  refine aw_getN (pc := 4) C (a := (mNow μ)) (k := 16) (v := .ref (ad ((mNow μ) + 13))) inX0 (kdF hF1) rfl (by decide) q120 dX3_lossWithout_4 rfl ?_
  refine aw_iload_n (pc := 7) C dX3_lossWithout_7 rfl 1 rfl ?_
  obtain ⟨g2, h⟩ := ck_some h
  refine aw_iaload (pc := 8) C (a := ((mNow μ) + 13)) ((kdFk (k := 13) hF1 rfl rfl)) g2 dX3_lossWithout_8 ?_
  refine aw_iconst (pc := 9) C (v := (-1)) dX3_lossWithout_9 rfl ?_
  refine aw_icmp_ne (pc := 10) C 118 dX3_lossWithout_10 rfl (fun hc => ?_) (fun hc => ?_)
  · replace h := ite_F h hc
    refine aw_sub [0, 1] rfl ?_
    exact ok_X3_lossWithout_j118 C hex h
  · replace h := ite_T h hc
    refine aw_iconst (pc := 13) C (v := 0) dX3_lossWithout_13 rfl ?_
    refine aw_istore_n (pc := 14) C (x := 0) (lv' := [(2, .int 0), (0, .ref (ad 0)), (1, .int v1)]) dX3_lossWithout_14 rfl (by decide) rfl rfl ?_
    refine aw_aload_n (pc := 15) C dX3_lossWithout_15 rfl 1 rfl ?_
    refine aw_getNow (pc := 16) C q161 dX3_lossWithout_16 (fun hF5 => ?_)
    refine aw_getN (pc := 19) C (a := (mNow μ)) (k := 13) (v := .int (μ.1 (mNow μ) 13)) inX0 (kdF hF5) rfl (by decide) q114 dX3_lossWithout_19 rfl ?_
    refine aw_if_le (pc := 22) C 108 dX3_lossWithout_22 rfl (fun hc => ?_) (fun hc => ?_)
    · replace h := ite_T h hc
      refine aw_sub [1, 2, 0] rfl ?_
      exact ok_X3_lossWithout_j108 C hex h
    · replace h := ite_F h hc
      refine aw_aload_n (pc := 25) C dX3_lossWithout_25 rfl 1 rfl ?_
      refine aw_getNow (pc := 26) C q161 dX3_lossWithout_26 (fun hF9 => ?_)
      refine aw_iload_n (pc := 29) C dX3_lossWithout_29 rfl 2 rfl ?_
      obtain ⟨q11, hq10, h⟩ := bi_some h
      refine aw_Vi (pc := 30) (a := (mNow μ)) (Bs := [.int v1]) C (ok_X0_pairsBrought C.tr hF9 hq10) kv_X0_pairsBrought q352 (kdF hF9) rfl rfl rfl dX3_lossWithout_30 ⟨(show 2 ≤ 4 by decide), (show 55 ≤ 124 by decide)⟩ ⟨Nat.zero_le _, Nat.zero_le _⟩ [] (Nat.le_of_ble_eq_true rfl) rfl ?_
      refine aw_if_le (pc := 33) C 108 dX3_lossWithout_33 rfl (fun hc => ?_) (fun hc => ?_)
      · replace h := ite_T h hc
        refine aw_sub [1, 2, 0] rfl ?_
        exact ok_X3_lossWithout_j108 C hex h
      · replace h := ite_F h hc
        refine aw_aload_n (pc := 36) C dX3_lossWithout_36 rfl 1 rfl ?_
        refine aw_getOth (pc := 37) C q162 dX3_lossWithout_37 (fun hF12 => ?_)
        refine aw_aload_n (pc := 40) C dX3_lossWithout_40 rfl 1 rfl ?_
        refine aw_getNow (pc := 41) C q161 dX3_lossWithout_41 (fun hF13 => ?_)
        obtain ⟨μ16, hq14, h⟩ := bi_some h
        refine aw_Vv (pc := 44) (a := (mOth μ)) (Bs := [.ref (ad (mNow μ))]) C (ok_X0_copyFrom C.tr hF12 hF13 hq14) kv_X0_copyFrom q356 (kdF hF12) rfl rfl rfl dX3_lossWithout_44 ⟨(show 3 ≤ 4 by decide), (show 83 ≤ 124 by decide)⟩ ⟨Nat.zero_le _, Nat.zero_le _⟩ [] (Nat.le_of_ble_eq_true rfl) rfl ?_
        refine aw_aload_n (pc := 47) C dX3_lossWithout_47 rfl 1 rfl ?_
        refine aw_getOth (pc := 48) C q162 dX3_lossWithout_48 (fun hF17 => ?_)
        refine aw_iload_n (pc := 51) C dX3_lossWithout_51 rfl 2 rfl ?_
        obtain ⟨μ20, hq18, h⟩ := bi_some h
        refine aw_Vv (pc := 52) (a := (mOth μ16)) (Bs := [.int v1]) C (ok_X0_dropImport C.tr hF17 hq18) kv_X0_dropImport q363 (kdF hF17) rfl rfl rfl dX3_lossWithout_52 ⟨(show 4 ≤ 4 by decide), (show 114 ≤ 124 by decide)⟩ ⟨Nat.zero_le _, Nat.zero_le _⟩ [] (Nat.le_of_ble_eq_true rfl) rfl ?_
        refine aw_aload_n (pc := 55) C dX3_lossWithout_55 rfl 1 rfl ?_
        refine aw_getOth (pc := 56) C q162 dX3_lossWithout_56 (fun hF21 => ?_)
        obtain ⟨μ24, hq22, h⟩ := bi_some h
        refine aw_Vv (pc := 59) (a := (mOth μ20)) (Bs := []) C (ok_X0_settle C.tr hF21 hq22) kv_X0_settle q178 (kdF hF21) rfl rfl rfl dX3_lossWithout_59 ⟨(show 3 ≤ 4 by decide), (show 82 ≤ 124 by decide)⟩ ⟨Nat.zero_le _, Nat.zero_le _⟩ [] (Nat.le_of_ble_eq_true rfl) rfl ?_
        refine aw_iconst (pc := 62) C (v := 0) dX3_lossWithout_62 rfl ?_
        refine aw_istore_n (pc := 63) C (x := 0) (lv' := [(3, .int 0), (2, .int 0), (0, .ref (ad 0)), (1, .int v1)]) dX3_lossWithout_63 rfl (by decide) rfl rfl ?_
        refine aw_sub [2, 3, 1, 0] rfl ?_
        exact ok_X3_lossWithout_l64_w C hex big 0 0 μ24 h
/-! ### NameScopes.importsWithoutLoss()I -/
theorem ok_X3_importsWithoutLoss_l4 {l : Launch} {p : Program} {e : Env} {s : State} {m : MethodId} {args : Array Value} {below : List Frame} {meth : Method} {c : Code} {D : va_G} {cI cL : ClassId} {ad : Nat → Nat} (C : CX p l s m args meth c RX3 cX3_importsWithoutLoss 3 (some .int) D cI cL (AA ad s.heap.size)) (hex : ∀ x ∈ c.exceptionTable.toList, False) {r : (Int32 × Mm)} {k4 : Int32 → Int32 → Mm → Option (Int32 × Mm)} (hk4 : ∀ (v1 : Int32) (v2 : Int32) (μ : Mm), k4 v1 v2 μ = some r → AV l p e s m args below meth c D cI cL ad 5 3 (.inr (some (.int r.1))) r.2 4 [(0, .ref (ad 0)), (1, .int v1), (2, .int v2)] [] μ) {v1 : Int32} {v2 : Int32} {μ : Mm}  (h : X3_importsWithoutLoss_l4 k4 v1 v2 μ = some r) : AV l p e s m args below meth c D cI cL ad 5 3 (.inr (some (.int r.1))) r.2 4 [(0, .ref (ad 0)), (1, .int v1), (2, .int v2)] [] μ := by
  unfold X3_importsWithoutLoss_l4 at h
  refine aw_iload_n (pc := 4) C dX3_importsWithoutLoss_4 rfl 2 rfl ?_
  refine aw_aload_n (pc := 5) C dX3_importsWithoutLoss_5 rfl 0 rfl ?_
  refine aw_getNow (pc := 6) C q161 dX3_importsWithoutLoss_6 (fun hF1 => ?_)
  refine aw_getN (pc := 9) C (a := (mNow μ)) (k := 6) (v := .int (μ.1 (mNow μ) 6)) inX0 (kdF hF1) rfl (by decide) q94 dX3_importsWithoutLoss_9 rfl ?_
  refine aw_icmp_ge (pc := 12) C 37 dX3_importsWithoutLoss_12 rfl (fun hc => ?_) (fun hc => ?_)
  · replace h := ite_T h hc
    refine aw_iload_n (pc := 37) C dX3_importsWithoutLoss_37 rfl 1 rfl ?_
    cases h
    exact aw_iret (pc := 38) C dX3_importsWithoutLoss_38
  · replace h := ite_F h hc
    refine aw_iload_n (pc := 15) C dX3_importsWithoutLoss_15 rfl 1 rfl ?_
    refine aw_aload_n (pc := 16) C dX3_importsWithoutLoss_16 rfl 0 rfl ?_
    refine aw_iload_n (pc := 17) C dX3_importsWithoutLoss_17 rfl 2 rfl ?_
    obtain ⟨q3, μ4, hq2, h⟩ := bn_some h
    refine aw_Vi (pc := 18) (a := 0) (Bs := [.int v2]) C (ok_X3_lossWithout C.tr hq2) kv_X3_lossWithout q348 rfl rfl rfl rfl dX3_importsWithoutLoss_18 ⟨(show 5 ≤ 5 by decide), (show 147 ≤ 155 by decide)⟩ ⟨Nat.zero_le _, Nat.zero_le _⟩ [.int v1] (Nat.le_of_ble_eq_true rfl) rfl ?_
    have kJ : AV l p e s m args below meth c D cI cL ad 5 3 (.inr (some (.int r.1))) r.2 29 [(0, .ref (ad 0)), (1, .int v1), (2, .int v2)] [.int (if q3 = 0 then (1 : Int32) else 0), .int v1] μ4 := by
      refine aw_iadd (pc := 29) C dX3_importsWithoutLoss_29 ?_
      obtain ⟨x5, ex5, h⟩ := bd_some h
      refine aw_istore_n (pc := 30) C (x := x5) (lv' := [(1, .int x5), (0, .ref (ad 0)), (2, .int v2)]) dX3_importsWithoutLoss_30 rfl (by decide) ex5 rfl ?_
      refine aw_iinc (pc := 31) C (v := (v2 + 1)) (lv' := [(2, .int (v2 + 1)), (1, .int x5), (0, .ref (ad 0))]) dX3_importsWithoutLoss_31 2 rfl (by decide) rfl rfl ?_
      refine aw_goto (pc := 34) C 4 dX3_importsWithoutLoss_34 rfl ?_
      refine aw_sub [2, 1, 0] rfl ?_
      exact hk4 x5 (v2 + 1) μ4 h
    refine aw_if_ne (pc := 21) C 28 dX3_importsWithoutLoss_21 rfl (fun hd1 => ?_) (fun hd1 => ?_)
    · refine aw_iconst (pc := 28) C (v := 0) dX3_importsWithoutLoss_28 rfl ?_
      rw [if_neg hd1] at kJ
      exact kJ
    · refine aw_iconst (pc := 24) C (v := 1) dX3_importsWithoutLoss_24 rfl ?_
      refine aw_goto (pc := 25) C 29 dX3_importsWithoutLoss_25 rfl ?_
      rw [if_pos hd1] at kJ
      exact kJ
theorem ok_X3_importsWithoutLoss_l4_w {l : Launch} {p : Program} {e : Env} {s : State} {m : MethodId} {args : Array Value} {below : List Frame} {meth : Method} {c : Code} {D : va_G} {cI cL : ClassId} {ad : Nat → Nat} (C : CX p l s m args meth c RX3 cX3_importsWithoutLoss 3 (some .int) D cI cL (AA ad s.heap.size)) (hex : ∀ x ∈ c.exceptionTable.toList, False) {r : (Int32 × Mm)}  : ∀ (n : Nat) (v1 : Int32) (v2 : Int32) (μ : Mm) , itr (X3_importsWithoutLoss_l4) (fun _ _ _ => none) n v1 v2 μ = some r → AV l p e s m args below meth c D cI cL ad 5 3 (.inr (some (.int r.1))) r.2 4 [(0, .ref (ad 0)), (1, .int v1), (2, .int v2)] [] μ := by
  intro n
  induction n with
  | zero => intro v1 v2 μ h; exact nomatch (show (none : Option (Int32 × Mm)) = some r from h)
  | succ n ih => intro v1 v2 μ h; exact ok_X3_importsWithoutLoss_l4 C hex  ih h
theorem ok_X3_importsWithoutLoss {l : Launch} (htr : l.stackTraces = false) {μ : Mm} {r : (Int32 × Mm)}  (h : X3_importsWithoutLoss μ = some r) : MetX l yX3_importsWithoutLoss cX3_importsWithoutLoss 3 (some .int) 5 (fun ad => [.ref (ad 0)]) μ (.inr (some (.int r.1))) r.2 := by
  refine MetX.of htr (by decide) rfl (fun ad => Nat.le_of_ble_eq_true rfl) (fun p e s m args below meth c D cI cL ad C hex hw => ?_)
  show AV l p e s m args below meth c D cI cL ad 5 3 (.inr (some (.int r.1))) r.2 0 [(0, .ref (ad 0))] [] μ
  unfold X3_importsWithoutLoss at h
  refine aw_iconst (pc := 0) C (v := 0) dX3_importsWithoutLoss_0 rfl ?_
  refine aw_istore_n (pc := 1) C (x := 0) (lv' := [(1, .int 0), (0, .ref (ad 0))]) dX3_importsWithoutLoss_1 rfl (by decide) rfl rfl ?_
  refine aw_iconst (pc := 2) C (v := 0) dX3_importsWithoutLoss_2 rfl ?_
  refine aw_istore_n (pc := 3) C (x := 0) (lv' := [(2, .int 0), (1, .int 0), (0, .ref (ad 0))]) dX3_importsWithoutLoss_3 rfl (by decide) rfl rfl ?_
  refine aw_sub [2, 1, 0] rfl ?_
  exact ok_X3_importsWithoutLoss_l4_w C hex big 0 0 μ h
/-! ### NameScopes.count(I)I -/
theorem ok_X3_count {l : Launch} (htr : l.stackTraces = false) {v1 : Int32} {μ : Mm} {r : ((String ⊕ Int32) × Mm)}  (h : X3_count v1 μ = some r) : MetX l yX3_count cX3_count 2 (some .int) 7 (fun ad => [.ref (ad 0), .int v1]) μ (rsI r.1) r.2 := by
  refine MetX.of htr (by decide) rfl (fun ad => Nat.le_of_ble_eq_true rfl) (fun p e s m args below meth c D cI cL ad C hex hw => ?_)
  show AV l p e s m args below meth c D cI cL ad 7 2 (rsI r.1) r.2 0 [(0, .ref (ad 0)), (1, .int v1)] [] μ
  unfold X3_count at h
  refine aw_iload_n (pc := 0) C dX3_count_0 rfl 1 rfl ?_
  refine aw_bipush (pc := 1) C (v := 11) dX3_count_1 rfl ?_
  obtain ⟨y4, hq1, h⟩ := bi_some h
  rcases y4 with E3 | q2
  · rw [thr_l] at h
    cases h
    exact aw_callST (pc := 3) (Bs := [.int v1, .int 11]) (rest := []) C hex (ok_X3_needBelow C.tr (r := .inl E3) hq1) kv_X3_needBelow q269 rfl rfl (Nat.le_of_ble_eq_true rfl) dX3_count_3 ⟨(show 7 ≤ 7 by decide), (show 207 ≤ 217 by decide)⟩ ⟨Nat.le_refl _, Nat.le_refl _⟩ rfl
  · rw [thr_r] at h
    refine aw_Sv (pc := 3) (Bs := [.int v1, .int 11]) C (ok_X3_needBelow C.tr (r := .inr q2) hq1) kv_X3_needBelow q269 rfl rfl dX3_count_3 ⟨(show 7 ≤ 7 by decide), (show 207 ≤ 217 by decide)⟩ ⟨Nat.zero_le _, Nat.zero_le _⟩ [] (Nat.le_of_ble_eq_true rfl) rfl ?_
    refine aw_iload_n (pc := 6) C dX3_count_6 rfl 1 rfl ?_
    by_cases hs5 : v1 = 0
    · replace h := ite_T h hs5
      refine aw_tableIn (pc := 7) C 60 dX3_count_7 (by rw [hs5]; decide) (by rw [hs5]; decide) (by rw [hs5]; rfl) rfl ?_
      refine aw_aload_n (pc := 60) C dX3_count_60 rfl 0 rfl ?_
      refine aw_getNow (pc := 61) C q161 dX3_count_61 (fun hF6 => ?_)
      refine aw_getN (pc := 64) C (a := (mNow μ)) (k := 0) (v := .int (μ.1 (mNow μ) 0)) inX0 (kdF hF6) rfl (by decide) q77 dX3_count_64 rfl ?_
      cases h
      exact aw_iret (pc := 67) C dX3_count_67
    replace h := ite_F h hs5
    by_cases hs7 : v1 = 1
    · replace h := ite_T h hs7
      refine aw_tableIn (pc := 7) C 68 dX3_count_7 (by rw [hs7]; decide) (by rw [hs7]; decide) (by rw [hs7]; rfl) rfl ?_
      refine aw_aload_n (pc := 68) C dX3_count_68 rfl 0 rfl ?_
      refine aw_getNow (pc := 69) C q161 dX3_count_69 (fun hF8 => ?_)
      refine aw_getN (pc := 72) C (a := (mNow μ)) (k := 2) (v := .int (μ.1 (mNow μ) 2)) inX0 (kdF hF8) rfl (by decide) q82 dX3_count_72 rfl ?_
      cases h
      exact aw_iret (pc := 75) C dX3_count_75
    replace h := ite_F h hs7
    by_cases hs9 : v1 = 2
    · replace h := ite_T h hs9
      refine aw_tableIn (pc := 7) C 76 dX3_count_7 (by rw [hs9]; decide) (by rw [hs9]; decide) (by rw [hs9]; rfl) rfl ?_
      refine aw_aload_n (pc := 76) C dX3_count_76 rfl 0 rfl ?_
      refine aw_getNow (pc := 77) C q161 dX3_count_77 (fun hF10 => ?_)
      refine aw_getN (pc := 80) C (a := (mNow μ)) (k := 6) (v := .int (μ.1 (mNow μ) 6)) inX0 (kdF hF10) rfl (by decide) q94 dX3_count_80 rfl ?_
      cases h
      exact aw_iret (pc := 83) C dX3_count_83
    replace h := ite_F h hs9
    by_cases hs11 : v1 = 3
    · replace h := ite_T h hs11
      refine aw_tableIn (pc := 7) C 84 dX3_count_7 (by rw [hs11]; decide) (by rw [hs11]; decide) (by rw [hs11]; rfl) rfl ?_
      refine aw_aload_n (pc := 84) C dX3_count_84 rfl 0 rfl ?_
      refine aw_getNow (pc := 85) C q161 dX3_count_85 (fun hF12 => ?_)
      refine aw_getN (pc := 88) C (a := (mNow μ)) (k := 13) (v := .int (μ.1 (mNow μ) 13)) inX0 (kdF hF12) rfl (by decide) q114 dX3_count_88 rfl ?_
      cases h
      exact aw_iret (pc := 91) C dX3_count_91
    replace h := ite_F h hs11
    by_cases hs13 : v1 = 4
    · replace h := ite_T h hs13
      refine aw_tableIn (pc := 7) C 92 dX3_count_7 (by rw [hs13]; decide) (by rw [hs13]; decide) (by rw [hs13]; rfl) rfl ?_
      refine aw_aload_n (pc := 92) C dX3_count_92 rfl 0 rfl ?_
      refine aw_getNow (pc := 93) C q161 dX3_count_93 (fun hF14 => ?_)
      refine aw_iconst (pc := 96) C (v := 0) dX3_count_96 rfl ?_
      obtain ⟨q16, hq15, h⟩ := bi_some h
      refine aw_Vi (pc := 97) (a := (mNow μ)) (Bs := [.int 0]) C (ok_X0_usesInState C.tr hF14 hq15) kv_X0_usesInState q229 (kdF hF14) rfl rfl rfl dX3_count_97 ⟨(show 4 ≤ 7 by decide), (show 116 ≤ 217 by decide)⟩ ⟨Nat.zero_le _, Nat.zero_le _⟩ [] (Nat.le_of_ble_eq_true rfl) rfl ?_
      cases h
      exact aw_iret (pc := 100) C dX3_count_100
    replace h := ite_F h hs13
    by_cases hs17 : v1 = 5
    · replace h := ite_T h hs17
      refine aw_tableIn (pc := 7) C 101 dX3_count_7 (by rw [hs17]; decide) (by rw [hs17]; decide) (by rw [hs17]; rfl) rfl ?_
      refine aw_aload_n (pc := 101) C dX3_count_101 rfl 0 rfl ?_
      refine aw_getNow (pc := 102) C q161 dX3_count_102 (fun hF18 => ?_)
      refine aw_iconst (pc := 105) C (v := 2) dX3_count_105 rfl ?_
      obtain ⟨q20, hq19, h⟩ := bi_some h
      refine aw_Vi (pc := 106) (a := (mNow μ)) (Bs := [.int 2]) C (ok_X0_usesInState C.tr hF18 hq19) kv_X0_usesInState q229 (kdF hF18) rfl rfl rfl dX3_count_106 ⟨(show 4 ≤ 7 by decide), (show 116 ≤ 217 by decide)⟩ ⟨Nat.zero_le _, Nat.zero_le _⟩ [] (Nat.le_of_ble_eq_true rfl) rfl ?_
      refine aw_aload_n (pc := 109) C dX3_count_109 rfl 0 rfl ?_
      refine aw_getNow (pc := 110) C q161 dX3_count_110 (fun hF21 => ?_)
      refine aw_iconst (pc := 113) C (v := 3) dX3_count_113 rfl ?_
      obtain ⟨q23, hq22, h⟩ := bi_some h
      refine aw_Vi (pc := 114) (a := (mNow μ)) (Bs := [.int 3]) C (ok_X0_usesInState C.tr hF21 hq22) kv_X0_usesInState q229 (kdF hF21) rfl rfl rfl dX3_count_114 ⟨(show 4 ≤ 7 by decide), (show 116 ≤ 217 by decide)⟩ ⟨Nat.zero_le _, Nat.zero_le _⟩ [.int q20] (Nat.le_of_ble_eq_true rfl) rfl ?_
      refine aw_iadd (pc := 117) C dX3_count_117 ?_
      cases h
      exact aw_iret (pc := 118) C dX3_count_118
    replace h := ite_F h hs17
    by_cases hs24 : v1 = 6
    · replace h := ite_T h hs24
      refine aw_tableIn (pc := 7) C 119 dX3_count_7 (by rw [hs24]; decide) (by rw [hs24]; decide) (by rw [hs24]; rfl) rfl ?_
      refine aw_aload_n (pc := 119) C dX3_count_119 rfl 0 rfl ?_
      refine aw_getNow (pc := 120) C q161 dX3_count_120 (fun hF25 => ?_)
      obtain ⟨q27, hq26, h⟩ := bi_some h
      refine aw_Vi (pc := 123) (a := (mNow μ)) (Bs := []) C (ok_X0_unusedDeclarations C.tr hF25 hq26) kv_X0_unusedDeclarations q340 (kdF hF25) rfl rfl rfl dX3_count_123 ⟨(show 3 ≤ 7 by decide), (show 85 ≤ 217 by decide)⟩ ⟨Nat.zero_le _, Nat.zero_le _⟩ [] (Nat.le_of_ble_eq_true rfl) rfl ?_
      cases h
      exact aw_iret (pc := 126) C dX3_count_126
    replace h := ite_F h hs24
    by_cases hs28 : v1 = 7
    · replace h := ite_T h hs28
      refine aw_tableIn (pc := 7) C 127 dX3_count_7 (by rw [hs28]; decide) (by rw [hs28]; decide) (by rw [hs28]; rfl) rfl ?_
      refine aw_aload_n (pc := 127) C dX3_count_127 rfl 0 rfl ?_
      obtain ⟨q30, μ31, hq29, h⟩ := bn_some h
      refine aw_Vi (pc := 128) (a := 0) (Bs := []) C (ok_X3_importsWithoutLoss C.tr hq29) kv_X3_importsWithoutLoss q344 rfl rfl rfl rfl dX3_count_128 ⟨(show 6 ≤ 7 by decide), (show 177 ≤ 217 by decide)⟩ ⟨Nat.zero_le _, Nat.zero_le _⟩ [] (Nat.le_of_ble_eq_true rfl) rfl ?_
      cases h
      exact aw_iret (pc := 131) C dX3_count_131
    replace h := ite_F h hs28
    by_cases hs32 : v1 = 8
    · replace h := ite_T h hs32
      refine aw_tableIn (pc := 7) C 132 dX3_count_7 (by rw [hs32]; decide) (by rw [hs32]; decide) (by rw [hs32]; rfl) rfl ?_
      refine aw_aload_n (pc := 132) C dX3_count_132 rfl 0 rfl ?_
      refine aw_getNow (pc := 133) C q161 dX3_count_133 (fun hF33 => ?_)
      obtain ⟨q35, hq34, h⟩ := bi_some h
      refine aw_Vi (pc := 136) (a := (mNow μ)) (Bs := []) C (ok_X0_vainSingleImports C.tr hF33 hq34) kv_X0_vainSingleImports q371 (kdF hF33) rfl rfl rfl dX3_count_136 ⟨(show 3 ≤ 7 by decide), (show 84 ≤ 217 by decide)⟩ ⟨Nat.zero_le _, Nat.zero_le _⟩ [] (Nat.le_of_ble_eq_true rfl) rfl ?_
      cases h
      exact aw_iret (pc := 139) C dX3_count_139
    replace h := ite_F h hs32
    by_cases hs36 : v1 = 9
    · replace h := ite_T h hs36
      refine aw_tableIn (pc := 7) C 140 dX3_count_7 (by rw [hs36]; decide) (by rw [hs36]; decide) (by rw [hs36]; rfl) rfl ?_
      refine aw_aload_n (pc := 140) C dX3_count_140 rfl 0 rfl ?_
      refine aw_getNow (pc := 141) C q161 dX3_count_141 (fun hF37 => ?_)
      obtain ⟨q39, hq38, h⟩ := bi_some h
      refine aw_Vi (pc := 144) (a := (mNow μ)) (Bs := []) C (ok_X0_greatestDepth C.tr hF37 hq38) kv_X0_greatestDepth q376 (kdF hF37) rfl rfl rfl dX3_count_144 ⟨(show 2 ≤ 7 by decide), (show 55 ≤ 217 by decide)⟩ ⟨Nat.zero_le _, Nat.zero_le _⟩ [] (Nat.le_of_ble_eq_true rfl) rfl ?_
      cases h
      exact aw_iret (pc := 147) C dX3_count_147
    replace h := ite_F h hs36
    refine aw_tableOut (pc := 7) C 148 dX3_count_7 (by have hs5z := sw_ne hs5 (show Int32.toInt 0 = 0 by decide); have hs7z := sw_ne hs7 (show Int32.toInt 1 = 1 by decide); have hs9z := sw_ne hs9 (show Int32.toInt 2 = 2 by decide); have hs11z := sw_ne hs11 (show Int32.toInt 3 = 3 by decide); have hs13z := sw_ne hs13 (show Int32.toInt 4 = 4 by decide); have hs17z := sw_ne hs17 (show Int32.toInt 5 = 5 by decide); have hs24z := sw_ne hs24 (show Int32.toInt 6 = 6 by decide); have hs28z := sw_ne hs28 (show Int32.toInt 7 = 7 by decide); have hs32z := sw_ne hs32 (show Int32.toInt 8 = 8 by decide); have hs36z := sw_ne hs36 (show Int32.toInt 9 = 9 by decide); omega) rfl ?_
    refine aw_aload_n (pc := 148) C dX3_count_148 rfl 0 rfl ?_
    refine aw_getNow (pc := 149) C q161 dX3_count_149 (fun hF40 => ?_)
    obtain ⟨q42, hq41, h⟩ := bi_some h
    refine aw_Vi (pc := 152) (a := (mNow μ)) (Bs := []) C (ok_X0_pairsOffered C.tr hF40 hq41) kv_X0_pairsOffered q383 (kdF hF40) rfl rfl rfl dX3_count_152 ⟨(show 2 ≤ 7 by decide), (show 53 ≤ 217 by decide)⟩ ⟨Nat.zero_le _, Nat.zero_le _⟩ [] (Nat.le_of_ble_eq_true rfl) rfl ?_
    cases h
    exact aw_iret (pc := 155) C dX3_count_155
/-! ### NameScopes.declaration(II)I -/
theorem ok_X3_declaration {l : Launch} (htr : l.stackTraces = false) {v1 : Int32} {v2 : Int32} {μ : Mm} {r : (String ⊕ Int32)}  (h : X3_declaration v1 v2 μ = some r) : MetX l yX3_declaration cX3_declaration 3 (some .int) 7 (fun ad => [.ref (ad 0), .int v1, .int v2]) μ (rsI r) μ := by
  refine MetX.of htr (by decide) rfl (fun ad => Nat.le_of_ble_eq_true rfl) (fun p e s m args below meth c D cI cL ad C hex hw => ?_)
  show AV l p e s m args below meth c D cI cL ad 7 3 (rsI r) μ 0 [(0, .ref (ad 0)), (1, .int v1), (2, .int v2)] [] μ
  unfold X3_declaration at h
  refine aw_iload_n (pc := 0) C dX3_declaration_0 rfl 1 rfl ?_
  refine aw_aload_n (pc := 1) C dX3_declaration_1 rfl 0 rfl ?_
  refine aw_getNow (pc := 2) C q161 dX3_declaration_2 (fun hF1 => ?_)
  refine aw_getN (pc := 5) C (a := (mNow μ)) (k := 2) (v := .int (μ.1 (mNow μ) 2)) inX0 (kdF hF1) rfl (by decide) q82 dX3_declaration_5 rfl ?_
  obtain ⟨y5, hq2, h⟩ := bi_some h
  rcases y5 with E4 | q3
  · rw [thr_l] at h
    cases h
    exact aw_callST (pc := 8) (Bs := [.int v1, .int (μ.1 (mNow μ) 2)]) (rest := []) C hex (ok_X3_needIndex C.tr (r := .inl E4) hq2) kv_X3_needIndex q391 rfl rfl (Nat.le_of_ble_eq_true rfl) dX3_declaration_8 ⟨(show 7 ≤ 7 by decide), (show 207 ≤ 217 by decide)⟩ ⟨Nat.le_refl _, Nat.le_refl _⟩ rfl
  · rw [thr_r] at h
    refine aw_Sv (pc := 8) (Bs := [.int v1, .int (μ.1 (mNow μ) 2)]) C (ok_X3_needIndex C.tr (r := .inr q3) hq2) kv_X3_needIndex q391 rfl rfl dX3_declaration_8 ⟨(show 7 ≤ 7 by decide), (show 207 ≤ 217 by decide)⟩ ⟨Nat.zero_le _, Nat.zero_le _⟩ [] (Nat.le_of_ble_eq_true rfl) rfl ?_
    refine aw_iload_n (pc := 11) C dX3_declaration_11 rfl 2 rfl ?_
    refine aw_bipush (pc := 12) C (v := 6) dX3_declaration_12 rfl ?_
    obtain ⟨y9, hq6, h⟩ := bi_some h
    rcases y9 with E8 | q7
    · rw [thr_l] at h
      cases h
      exact aw_callST (pc := 14) (Bs := [.int v2, .int 6]) (rest := []) C hex (ok_X3_needBelow C.tr (r := .inl E8) hq6) kv_X3_needBelow q269 rfl rfl (Nat.le_of_ble_eq_true rfl) dX3_declaration_14 ⟨(show 7 ≤ 7 by decide), (show 207 ≤ 217 by decide)⟩ ⟨Nat.le_refl _, Nat.le_refl _⟩ rfl
    · rw [thr_r] at h
      refine aw_Sv (pc := 14) (Bs := [.int v2, .int 6]) C (ok_X3_needBelow C.tr (r := .inr q7) hq6) kv_X3_needBelow q269 rfl rfl dX3_declaration_14 ⟨(show 7 ≤ 7 by decide), (show 207 ≤ 217 by decide)⟩ ⟨Nat.zero_le _, Nat.zero_le _⟩ [] (Nat.le_of_ble_eq_true rfl) rfl ?_
      refine aw_iload_n (pc := 17) C dX3_declaration_17 rfl 2 rfl ?_
      by_cases hs10 : v2 = 0
      · replace h := ite_T h hs10
        refine aw_tableIn (pc := 18) C 52 dX3_declaration_18 (by rw [hs10]; decide) (by rw [hs10]; decide) (by rw [hs10]; rfl) rfl ?_
        refine aw_aload_n (pc := 52) C dX3_declaration_52 rfl 0 rfl ?_
        refine aw_getNow (pc := 53) C q161 dX3_declaration_53 (fun hF11 => ?_)
        refine aw_getN (pc := 56) C (a := (mNow μ)) (k := 3) (v := .ref (ad ((mNow μ) + 2))) inX0 (kdF hF11) rfl (by decide) q85 dX3_declaration_56 rfl ?_
        refine aw_iload_n (pc := 59) C dX3_declaration_59 rfl 1 rfl ?_
        obtain ⟨g12, h⟩ := ck_some h
        refine aw_iaload (pc := 60) C (a := ((mNow μ) + 2)) ((kdFk (k := 2) hF11 rfl rfl)) g12 dX3_declaration_60 ?_
        cases h
        exact aw_iret (pc := 61) C dX3_declaration_61
      replace h := ite_F h hs10
      by_cases hs13 : v2 = 1
      · replace h := ite_T h hs13
        refine aw_tableIn (pc := 18) C 62 dX3_declaration_18 (by rw [hs13]; decide) (by rw [hs13]; decide) (by rw [hs13]; rfl) rfl ?_
        refine aw_aload_n (pc := 62) C dX3_declaration_62 rfl 0 rfl ?_
        refine aw_getNow (pc := 63) C q161 dX3_declaration_63 (fun hF14 => ?_)
        refine aw_getN (pc := 66) C (a := (mNow μ)) (k := 4) (v := .ref (ad ((mNow μ) + 3))) inX0 (kdF hF14) rfl (by decide) q88 dX3_declaration_66 rfl ?_
        refine aw_iload_n (pc := 69) C dX3_declaration_69 rfl 1 rfl ?_
        obtain ⟨g15, h⟩ := ck_some h
        refine aw_iaload (pc := 70) C (a := ((mNow μ) + 3)) ((kdFk (k := 3) hF14 rfl rfl)) g15 dX3_declaration_70 ?_
        cases h
        exact aw_iret (pc := 71) C dX3_declaration_71
      replace h := ite_F h hs13
      by_cases hs16 : v2 = 2
      · replace h := ite_T h hs16
        refine aw_tableIn (pc := 18) C 72 dX3_declaration_18 (by rw [hs16]; decide) (by rw [hs16]; decide) (by rw [hs16]; rfl) rfl ?_
        refine aw_aload_n (pc := 72) C dX3_declaration_72 rfl 0 rfl ?_
        refine aw_getNow (pc := 73) C q161 dX3_declaration_73 (fun hF17 => ?_)
        refine aw_getN (pc := 76) C (a := (mNow μ)) (k := 5) (v := .ref (ad ((mNow μ) + 4))) inX0 (kdF hF17) rfl (by decide) q91 dX3_declaration_76 rfl ?_
        refine aw_iload_n (pc := 79) C dX3_declaration_79 rfl 1 rfl ?_
        obtain ⟨g18, h⟩ := ck_some h
        refine aw_iaload (pc := 80) C (a := ((mNow μ) + 4)) ((kdFk (k := 4) hF17 rfl rfl)) g18 dX3_declaration_80 ?_
        cases h
        exact aw_iret (pc := 81) C dX3_declaration_81
      replace h := ite_F h hs16
      by_cases hs19 : v2 = 3
      · replace h := ite_T h hs19
        refine aw_tableIn (pc := 18) C 82 dX3_declaration_18 (by rw [hs19]; decide) (by rw [hs19]; decide) (by rw [hs19]; rfl) rfl ?_
        refine aw_aload_n (pc := 82) C dX3_declaration_82 rfl 0 rfl ?_
        refine aw_getNow (pc := 83) C q161 dX3_declaration_83 (fun hF20 => ?_)
        refine aw_iload_n (pc := 86) C dX3_declaration_86 rfl 1 rfl ?_
        obtain ⟨q22, hq21, h⟩ := bi_some h
        refine aw_Vi (pc := 87) (a := (mNow μ)) (Bs := [.int v1]) C (ok_X0_usesResolvedTo C.tr hF20 hq21) kv_X0_usesResolvedTo q420 (kdF hF20) rfl rfl rfl dX3_declaration_87 ⟨(show 3 ≤ 7 by decide), (show 85 ≤ 217 by decide)⟩ ⟨Nat.zero_le _, Nat.zero_le _⟩ [] (Nat.le_of_ble_eq_true rfl) rfl ?_
        cases h
        exact aw_iret (pc := 90) C dX3_declaration_90
      replace h := ite_F h hs19
      by_cases hs23 : v2 = 4
      · replace h := ite_T h hs23
        refine aw_tableIn (pc := 18) C 91 dX3_declaration_18 (by rw [hs23]; decide) (by rw [hs23]; decide) (by rw [hs23]; rfl) rfl ?_
        refine aw_aload_n (pc := 91) C dX3_declaration_91 rfl 0 rfl ?_
        refine aw_getNow (pc := 92) C q161 dX3_declaration_92 (fun hF24 => ?_)
        refine aw_iload_n (pc := 95) C dX3_declaration_95 rfl 1 rfl ?_
        obtain ⟨q26, hq25, h⟩ := bi_some h
        refine aw_Vi (pc := 96) (a := (mNow μ)) (Bs := [.int v1]) C (ok_X0_scopesThatOffer C.tr hF24 hq25) kv_X0_scopesThatOffer q424 (kdF hF24) rfl rfl rfl dX3_declaration_96 ⟨(show 1 ≤ 7 by decide), (show 25 ≤ 217 by decide)⟩ ⟨Nat.zero_le _, Nat.zero_le _⟩ [] (Nat.le_of_ble_eq_true rfl) rfl ?_
        cases h
        exact aw_iret (pc := 99) C dX3_declaration_99
      replace h := ite_F h hs23
      refine aw_tableOut (pc := 18) C 100 dX3_declaration_18 (by have hs10z := sw_ne hs10 (show Int32.toInt 0 = 0 by decide); have hs13z := sw_ne hs13 (show Int32.toInt 1 = 1 by decide); have hs16z := sw_ne hs16 (show Int32.toInt 2 = 2 by decide); have hs19z := sw_ne hs19 (show Int32.toInt 3 = 3 by decide); have hs23z := sw_ne hs23 (show Int32.toInt 4 = 4 by decide); omega) rfl ?_
      refine aw_aload_n (pc := 100) C dX3_declaration_100 rfl 0 rfl ?_
      refine aw_getNow (pc := 101) C q161 dX3_declaration_101 (fun hF27 => ?_)
      refine aw_iload_n (pc := 104) C dX3_declaration_104 rfl 1 rfl ?_
      obtain ⟨q29, hq28, h⟩ := bi_some h
      refine aw_Vi (pc := 105) (a := (mNow μ)) (Bs := [.int v1]) C (ok_X0_scopesThatSee C.tr hF27 hq28) kv_X0_scopesThatSee q428 (kdF hF27) rfl rfl rfl dX3_declaration_105 ⟨(show 2 ≤ 7 by decide), (show 54 ≤ 217 by decide)⟩ ⟨Nat.zero_le _, Nat.zero_le _⟩ [] (Nat.le_of_ble_eq_true rfl) rfl ?_
      cases h
      exact aw_iret (pc := 108) C dX3_declaration_108
/-! ### NameScopes.declare(IIZ)I -/
theorem ok_X3_declare {l : Launch} (htr : l.stackTraces = false) {v1 : Int32} {v2 : Int32} {v3 : Int32} {μ : Mm} {r : ((String ⊕ Int32) × Mm)}  (h : X3_declare v1 v2 v3 μ = some r) : MetX l yX3_declare cX3_declare 5 (some .int) 7 (fun ad => [.ref (ad 0), .int v1, .int v2, .int v3]) μ (rsI r.1) r.2 := by
  refine MetX.of htr (by decide) rfl (fun ad => Nat.le_of_ble_eq_true rfl) (fun p e s m args below meth c D cI cL ad C hex hw => ?_)
  show AV l p e s m args below meth c D cI cL ad 7 5 (rsI r.1) r.2 0 [(0, .ref (ad 0)), (1, .int v1), (2, .int v2), (3, .int v3)] [] μ
  unfold X3_declare at h
  refine aw_aload_n (pc := 0) C dX3_declare_0 rfl 0 rfl ?_
  refine aw_getNow (pc := 1) C q161 dX3_declare_1 (fun hF1 => ?_)
  refine aw_iload_n (pc := 4) C dX3_declare_4 rfl 1 rfl ?_
  refine aw_iload_n (pc := 5) C dX3_declare_5 rfl 2 rfl ?_
  obtain ⟨q3, hq2, h⟩ := bi_some h
  refine aw_Vi (pc := 6) (a := (mNow μ)) (Bs := [.int v1, .int v2]) C (ok_X0_refusalOfDeclaration C.tr hF1 hq2) kv_X0_refusalOfDeclaration q498 (kdF hF1) rfl rfl rfl dX3_declare_6 ⟨(show 2 ≤ 7 by decide), (show 53 ≤ 217 by decide)⟩ ⟨Nat.zero_le _, Nat.zero_le _⟩ [] (Nat.le_of_ble_eq_true rfl) rfl ?_
  obtain ⟨y7, hq4, h⟩ := bi_some h
  rcases y7 with E6 | q5
  · rw [thr_l] at h
    cases h
    exact aw_callST (pc := 9) (Bs := [.int q3]) (rest := []) C hex (ok_X3_throwIfRefused C.tr (r := .inl E6) hq4) kv_X3_throwIfRefused q465 rfl rfl (Nat.le_of_ble_eq_true rfl) dX3_declare_9 ⟨(show 7 ≤ 7 by decide), (show 206 ≤ 217 by decide)⟩ ⟨Nat.le_refl _, Nat.le_refl _⟩ rfl
  · rw [thr_r] at h
    refine aw_Sv (pc := 9) (Bs := [.int q3]) C (ok_X3_throwIfRefused C.tr (r := .inr q5) hq4) kv_X3_throwIfRefused q465 rfl rfl dX3_declare_9 ⟨(show 7 ≤ 7 by decide), (show 206 ≤ 217 by decide)⟩ ⟨Nat.zero_le _, Nat.zero_le _⟩ [] (Nat.le_of_ble_eq_true rfl) rfl ?_
    refine aw_aload_n (pc := 12) C dX3_declare_12 rfl 0 rfl ?_
    refine aw_getNow (pc := 13) C q161 dX3_declare_13 (fun hF8 => ?_)
    refine aw_iload_n (pc := 16) C dX3_declare_16 rfl 1 rfl ?_
    refine aw_iload_n (pc := 17) C dX3_declare_17 rfl 2 rfl ?_
    refine aw_iload_n (pc := 18) C dX3_declare_18 rfl 3 rfl ?_
    have kJ : AV l p e s m args below meth c D cI cL ad 7 5 (rsI r.1) r.2 27 [(0, .ref (ad 0)), (1, .int v1), (2, .int v2), (3, .int v3)] [.int (if v3 = 0 then (0 : Int32) else 1), .int v2, .int v1, .ref (ad (mNow μ))] μ := by
      obtain ⟨q10, μ11, hq9, h⟩ := bn_some h
      refine aw_Vi (pc := 27) (a := (mNow μ)) (Bs := [.int v1, .int v2, .int (if v3 = 0 then (0 : Int32) else 1)]) C (ok_X0_putDeclaration C.tr hF8 hq9) kv_X0_putDeclaration q509 (kdF hF8) rfl rfl rfl dX3_declare_27 ⟨(show 1 ≤ 7 by decide), (show 23 ≤ 217 by decide)⟩ ⟨Nat.zero_le _, Nat.zero_le _⟩ [] (Nat.le_of_ble_eq_true rfl) rfl ?_
      refine aw_istore (pc := 30) C (x := q10) (lv' := [(4, .int q10), (0, .ref (ad 0)), (1, .int v1), (2, .int v2), (3, .int v3)]) dX3_declare_30 (by decide) rfl rfl ?_
      refine aw_aload_n (pc := 32) C dX3_declare_32 rfl 1 rfl ?_
      refine aw_getNow (pc := 33) C q161 dX3_declare_33 (fun hF12 => ?_)
      obtain ⟨μ15, hq13, h⟩ := bi_some h
      refine aw_Vv (pc := 36) (a := (mNow μ11)) (Bs := []) C (ok_X0_settle C.tr hF12 hq13) kv_X0_settle q178 (kdF hF12) rfl rfl rfl dX3_declare_36 ⟨(show 3 ≤ 7 by decide), (show 82 ≤ 217 by decide)⟩ ⟨Nat.zero_le _, Nat.zero_le _⟩ [] (Nat.le_of_ble_eq_true rfl) rfl ?_
      refine aw_iload (pc := 39) C dX3_declare_39 0 rfl ?_
      cases h
      exact aw_iret (pc := 41) C dX3_declare_41
    refine aw_if_eq (pc := 19) C 26 dX3_declare_19 rfl (fun hd1 => ?_) (fun hd1 => ?_)
    · refine aw_iconst (pc := 26) C (v := 0) dX3_declare_26 rfl ?_
      rw [if_pos hd1] at kJ
      exact kJ
    · refine aw_iconst (pc := 22) C (v := 1) dX3_declare_22 rfl ?_
      refine aw_goto (pc := 23) C 27 dX3_declare_23 rfl ?_
      rw [if_neg hd1] at kJ
      exact kJ
/-! ### NameScopes.parent(I)I -/
theorem ok_X3_parent {l : Launch} (htr : l.stackTraces = false) {v1 : Int32} {μ : Mm} {r : (String ⊕ Int32)}  (h : X3_parent v1 μ = some r) : MetX l yX3_parent cX3_parent 2 (some .int) 7 (fun ad => [.ref (ad 0), .int v1]) μ (rsI r) μ := by
  refine MetX.of htr (by decide) rfl (fun ad => Nat.le_of_ble_eq_true rfl) (fun p e s m args below meth c D cI cL ad C hex hw => ?_)
  show AV l p e s m args below meth c D cI cL ad 7 2 (rsI r) μ 0 [(0, .ref (ad 0)), (1, .int v1)] [] μ
  unfold X3_parent at h
  refine aw_iload_n (pc := 0) C dX3_parent_0 rfl 1 rfl ?_
  refine aw_aload_n (pc := 1) C dX3_parent_1 rfl 0 rfl ?_
  refine aw_getNow (pc := 2) C q161 dX3_parent_2 (fun hF1 => ?_)
  refine aw_getN (pc := 5) C (a := (mNow μ)) (k := 0) (v := .int (μ.1 (mNow μ) 0)) inX0 (kdF hF1) rfl (by decide) q77 dX3_parent_5 rfl ?_
  obtain ⟨y5, hq2, h⟩ := bi_some h
  rcases y5 with E4 | q3
  · rw [thr_l] at h
    cases h
    exact aw_callST (pc := 8) (Bs := [.int v1, .int (μ.1 (mNow μ) 0)]) (rest := []) C hex (ok_X3_needIndex C.tr (r := .inl E4) hq2) kv_X3_needIndex q391 rfl rfl (Nat.le_of_ble_eq_true rfl) dX3_parent_8 ⟨(show 7 ≤ 7 by decide), (show 207 ≤ 217 by decide)⟩ ⟨Nat.le_refl _, Nat.le_refl _⟩ rfl
  · rw [thr_r] at h
    refine aw_Sv (pc := 8) (Bs := [.int v1, .int (μ.1 (mNow μ) 0)]) C (ok_X3_needIndex C.tr (r := .inr q3) hq2) kv_X3_needIndex q391 rfl rfl dX3_parent_8 ⟨(show 7 ≤ 7 by decide), (show 207 ≤ 217 by decide)⟩ ⟨Nat.zero_le _, Nat.zero_le _⟩ [] (Nat.le_of_ble_eq_true rfl) rfl ?_
    refine aw_aload_n (pc := 11) C dX3_parent_11 rfl 0 rfl ?_
    refine aw_getNow (pc := 12) C q161 dX3_parent_12 (fun hF6 => ?_)
    refine aw_getN (pc := 15) C (a := (mNow μ)) (k := 1) (v := .ref (ad ((mNow μ) + 1))) inX0 (kdF hF6) rfl (by decide) q79 dX3_parent_15 rfl ?_
    refine aw_iload_n (pc := 18) C dX3_parent_18 rfl 1 rfl ?_
    obtain ⟨g7, h⟩ := ck_some h
    refine aw_iaload (pc := 19) C (a := ((mNow μ) + 1)) ((kdFk (k := 1) hF6 rfl rfl)) g7 dX3_parent_19 ?_
    cases h
    exact aw_iret (pc := 20) C dX3_parent_20
/-! ### NameScopes.visible(IZ)I -/
theorem ok_X3_visible_j57 {l : Launch} {p : Program} {e : Env} {s : State} {m : MethodId} {args : Array Value} {below : List Frame} {meth : Method} {c : Code} {D : va_G} {cI cL : ClassId} {ad : Nat → Nat} (C : CX p l s m args meth c RX3 cX3_visible 6 (some .int) D cI cL (AA ad s.heap.size)) (hex : ∀ x ∈ c.exceptionTable.toList, False) {r : (String ⊕ Int32)} {v1 : Int32} {v2 : Int32} {μ : Mm} {k16 : Int32 → Int32 → Option (String ⊕ Int32)} (hk16 : ∀ (v3 : Int32) (v4 : Int32), k16 v3 v4 = some r → AV l p e s m args below meth c D cI cL ad 7 6 (rsI r) μ 16 [(0, .ref (ad 0)), (1, .int v1), (2, .int v2), (3, .int v3), (4, .int v4)] [] μ) {v3 : Int32} {v4 : Int32}  (h : X3_visible_j57 v1 v2 μ k16 v3 v4 = some r) : AV l p e s m args below meth c D cI cL ad 7 6 (rsI r) μ 57 [(0, .ref (ad 0)), (1, .int v1), (2, .int v2), (3, .int v3), (4, .int v4)] [] μ := by
  unfold X3_visible_j57 at h
  refine aw_iload_n (pc := 57) C dX3_visible_57 rfl 3 rfl ?_
  refine aw_iconst (pc := 58) C (v := 1) dX3_visible_58 rfl ?_
  refine aw_iload (pc := 59) C dX3_visible_59 4 rfl ?_
  refine aw_ishl (pc := 61) C dX3_visible_61 ?_
  refine aw_ior (pc := 62) C dX3_visible_62 ?_
  obtain ⟨x11, ex11, h⟩ := bd_some h
  refine aw_istore_n (pc := 63) C (x := x11) (lv' := [(3, .int x11), (0, .ref (ad 0)), (1, .int v1), (2, .int v2), (4, .int v4)]) dX3_visible_63 rfl (by decide) ex11 rfl ?_
  refine aw_iinc (pc := 64) C (v := (v4 + 1)) (lv' := [(4, .int (v4 + 1)), (3, .int x11), (0, .ref (ad 0)), (1, .int v1), (2, .int v2)]) dX3_visible_64 4 rfl (by decide) rfl rfl ?_
  refine aw_goto (pc := 67) C 16 dX3_visible_67 rfl ?_
  refine aw_sub [2, 3, 4, 1, 0] rfl ?_
  exact hk16 x11 (v4 + 1) h
theorem ok_X3_visible_l16 {l : Launch} {p : Program} {e : Env} {s : State} {m : MethodId} {args : Array Value} {below : List Frame} {meth : Method} {c : Code} {D : va_G} {cI cL : ClassId} {ad : Nat → Nat} (C : CX p l s m args meth c RX3 cX3_visible 6 (some .int) D cI cL (AA ad s.heap.size)) (hex : ∀ x ∈ c.exceptionTable.toList, False) {r : (String ⊕ Int32)} {v1 : Int32} {v2 : Int32} {μ : Mm} {k16 : Int32 → Int32 → Option (String ⊕ Int32)} (hk16 : ∀ (v3 : Int32) (v4 : Int32), k16 v3 v4 = some r → AV l p e s m args below meth c D cI cL ad 7 6 (rsI r) μ 16 [(0, .ref (ad 0)), (1, .int v1), (2, .int v2), (3, .int v3), (4, .int v4)] [] μ) {v3 : Int32} {v4 : Int32}  (h : X3_visible_l16 v1 v2 μ k16 v3 v4 = some r) : AV l p e s m args below meth c D cI cL ad 7 6 (rsI r) μ 16 [(0, .ref (ad 0)), (1, .int v1), (2, .int v2), (3, .int v3), (4, .int v4)] [] μ := by
  unfold X3_visible_l16 at h
  refine aw_iload (pc := 16) C dX3_visible_16 4 rfl ?_
  refine aw_bipush (pc := 18) C (v := 26) dX3_visible_18 rfl ?_
  refine aw_icmp_ge (pc := 20) C 70 dX3_visible_20 rfl (fun hc => ?_) (fun hc => ?_)
  · replace h := ite_T h hc
    refine aw_iload_n (pc := 70) C dX3_visible_70 rfl 3 rfl ?_
    cases h
    exact aw_iret (pc := 71) C dX3_visible_71
  · replace h := ite_F h hc
    refine aw_aload_n (pc := 23) C dX3_visible_23 rfl 0 rfl ?_
    refine aw_getNow (pc := 24) C q161 dX3_visible_24 (fun hF6 => ?_)
    refine aw_iload_n (pc := 27) C dX3_visible_27 rfl 1 rfl ?_
    refine aw_iload (pc := 28) C dX3_visible_28 4 rfl ?_
    obtain ⟨q8, hq7, h⟩ := bi_some h
    refine aw_Vi (pc := 30) (a := (mNow μ)) (Bs := [.int v1, .int v4]) C (ok_X0_firstLayer C.tr hF6 hq7) kv_X0_firstLayer q414 (kdF hF6) rfl rfl rfl dX3_visible_30 ⟨(show 1 ≤ 7 by decide), (show 25 ≤ 217 by decide)⟩ ⟨Nat.zero_le _, Nat.zero_le _⟩ [] (Nat.le_of_ble_eq_true rfl) rfl ?_
    obtain ⟨q10, hq9, h⟩ := bi_some h
    refine aw_Si (pc := 33) (Bs := [.int q8]) C (ok_J6_bitCount_0f7a4 C.tr hq9) kv_J6_bitCount_0f7a4 q415 rfl rfl dX3_visible_33 ⟨(show 1 ≤ 7 by decide), (show 20 ≤ 217 by decide)⟩ ⟨Nat.zero_le _, Nat.zero_le _⟩ [] (Nat.le_of_ble_eq_true rfl) rfl ?_
    refine aw_istore (pc := 36) C (x := q10) (lv' := [(5, .int q10), (0, .ref (ad 0)), (1, .int v1), (2, .int v2), (3, .int v3), (4, .int v4)]) dX3_visible_36 (by decide) rfl rfl ?_
    refine aw_iload_n (pc := 38) C dX3_visible_38 rfl 3 rfl ?_
    refine aw_if_eq (pc := 39) C 51 dX3_visible_39 rfl (fun hc => ?_) (fun hc => ?_)
    · replace h := ite_T h hc
      refine aw_iload (pc := 51) C dX3_visible_51 0 rfl ?_
      refine aw_iconst (pc := 53) C (v := 1) dX3_visible_53 rfl ?_
      refine aw_icmp_ne (pc := 54) C 64 dX3_visible_54 rfl (fun hc => ?_) (fun hc => ?_)
      · replace h := ite_F h hc
        refine aw_iinc (pc := 64) C (v := (v4 + 1)) (lv' := [(4, .int (v4 + 1)), (5, .int q10), (0, .ref (ad 0)), (1, .int v1), (2, .int v2), (3, .int v3)]) dX3_visible_64 5 rfl (by decide) rfl rfl ?_
        refine aw_goto (pc := 67) C 16 dX3_visible_67 rfl ?_
        refine aw_sub [2, 3, 4, 5, 0] rfl ?_
        exact hk16 v3 (v4 + 1) h
      · replace h := ite_T h hc
        refine aw_sub [1, 2, 3, 4, 5] rfl ?_
        exact ok_X3_visible_j57 C hex hk16 h
    · replace h := ite_F h hc
      refine aw_iload (pc := 42) C dX3_visible_42 0 rfl ?_
      refine aw_iconst (pc := 44) C (v := 1) dX3_visible_44 rfl ?_
      refine aw_icmp_le (pc := 45) C 64 dX3_visible_45 rfl (fun hc => ?_) (fun hc => ?_)
      · replace h := ite_T h hc
        refine aw_iinc (pc := 64) C (v := (v4 + 1)) (lv' := [(4, .int (v4 + 1)), (5, .int q10), (0, .ref (ad 0)), (1, .int v1), (2, .int v2), (3, .int v3)]) dX3_visible_64 5 rfl (by decide) rfl rfl ?_
        refine aw_goto (pc := 67) C 16 dX3_visible_67 rfl ?_
        refine aw_sub [2, 3, 4, 5, 0] rfl ?_
        exact hk16 v3 (v4 + 1) h
      · replace h := ite_F h hc
        refine aw_goto (pc := 48) C 57 dX3_visible_48 rfl ?_
        refine aw_sub [1, 2, 3, 4, 5] rfl ?_
        exact ok_X3_visible_j57 C hex hk16 h
theorem ok_X3_visible_l16_w {l : Launch} {p : Program} {e : Env} {s : State} {m : MethodId} {args : Array Value} {below : List Frame} {meth : Method} {c : Code} {D : va_G} {cI cL : ClassId} {ad : Nat → Nat} (C : CX p l s m args meth c RX3 cX3_visible 6 (some .int) D cI cL (AA ad s.heap.size)) (hex : ∀ x ∈ c.exceptionTable.toList, False) {r : (String ⊕ Int32)} {v1 : Int32} {v2 : Int32} {μ : Mm} : ∀ (n : Nat) (v3 : Int32) (v4 : Int32) , itr (X3_visible_l16 v1 v2 μ) (fun _ _ => none) n v3 v4 = some r → AV l p e s m args below meth c D cI cL ad 7 6 (rsI r) μ 16 [(0, .ref (ad 0)), (1, .int v1), (2, .int v2), (3, .int v3), (4, .int v4)] [] μ := by
  intro n
  induction n with
  | zero => intro v3 v4 h; exact nomatch (show (none : Option (String ⊕ Int32)) = some r from h)
  | succ n ih => intro v3 v4 h; exact ok_X3_visible_l16 C hex (v1 := v1) (v2 := v2) (μ := μ) ih h
theorem ok_X3_visible {l : Launch} (htr : l.stackTraces = false) {v1 : Int32} {v2 : Int32} {μ : Mm} {r : (String ⊕ Int32)}  (h : X3_visible v1 v2 μ = some r) : MetX l yX3_visible cX3_visible 6 (some .int) 7 (fun ad => [.ref (ad 0), .int v1, .int v2]) μ (rsI r) μ := by
  refine MetX.of htr (by decide) rfl (fun ad => Nat.le_of_ble_eq_true rfl) (fun p e s m args below meth c D cI cL ad C hex hw => ?_)
  show AV l p e s m args below meth c D cI cL ad 7 6 (rsI r) μ 0 [(0, .ref (ad 0)), (1, .int v1), (2, .int v2)] [] μ
  unfold X3_visible at h
  refine aw_iload_n (pc := 0) C dX3_visible_0 rfl 1 rfl ?_
  refine aw_aload_n (pc := 1) C dX3_visible_1 rfl 0 rfl ?_
  refine aw_getNow (pc := 2) C q161 dX3_visible_2 (fun hF1 => ?_)
  refine aw_getN (pc := 5) C (a := (mNow μ)) (k := 0) (v := .int (μ.1 (mNow μ) 0)) inX0 (kdF hF1) rfl (by decide) q77 dX3_visible_5 rfl ?_
  obtain ⟨y5, hq2, h⟩ := bi_some h
  rcases y5 with E4 | q3
  · rw [thr_l] at h
    cases h
    exact aw_callST (pc := 8) (Bs := [.int v1, .int (μ.1 (mNow μ) 0)]) (rest := []) C hex (ok_X3_needIndex C.tr (r := .inl E4) hq2) kv_X3_needIndex q391 rfl rfl (Nat.le_of_ble_eq_true rfl) dX3_visible_8 ⟨(show 7 ≤ 7 by decide), (show 207 ≤ 217 by decide)⟩ ⟨Nat.le_refl _, Nat.le_refl _⟩ rfl
  · rw [thr_r] at h
    refine aw_Sv (pc := 8) (Bs := [.int v1, .int (μ.1 (mNow μ) 0)]) C (ok_X3_needIndex C.tr (r := .inr q3) hq2) kv_X3_needIndex q391 rfl rfl dX3_visible_8 ⟨(show 7 ≤ 7 by decide), (show 207 ≤ 217 by decide)⟩ ⟨Nat.zero_le _, Nat.zero_le _⟩ [] (Nat.le_of_ble_eq_true rfl) rfl ?_
    refine aw_iconst (pc := 11) C (v := 0) dX3_visible_11 rfl ?_
    refine aw_istore_n (pc := 12) C (x := 0) (lv' := [(3, .int 0), (0, .ref (ad 0)), (1, .int v1), (2, .int v2)]) dX3_visible_12 rfl (by decide) rfl rfl ?_
    refine aw_iconst (pc := 13) C (v := 0) dX3_visible_13 rfl ?_
    refine aw_istore (pc := 14) C (x := 0) (lv' := [(4, .int 0), (3, .int 0), (0, .ref (ad 0)), (1, .int v1), (2, .int v2)]) dX3_visible_14 (by decide) rfl rfl ?_
    refine aw_sub [2, 3, 4, 1, 0] rfl ?_
    exact ok_X3_visible_l16_w C hex big 0 0 h
/-! ### NameScopes.imported(II)I -/
theorem ok_X3_imported {l : Launch} (htr : l.stackTraces = false) {v1 : Int32} {v2 : Int32} {μ : Mm} {r : ((String ⊕ Int32) × Mm)}  (h : X3_imported v1 v2 μ = some r) : MetX l yX3_imported cX3_imported 3 (some .int) 7 (fun ad => [.ref (ad 0), .int v1, .int v2]) μ (rsI r.1) r.2 := by
  refine MetX.of htr (by decide) rfl (fun ad => Nat.le_of_ble_eq_true rfl) (fun p e s m args below meth c D cI cL ad C hex hw => ?_)
  show AV l p e s m args below meth c D cI cL ad 7 3 (rsI r.1) r.2 0 [(0, .ref (ad 0)), (1, .int v1), (2, .int v2)] [] μ
  unfold X3_imported at h
  refine aw_iload_n (pc := 0) C dX3_imported_0 rfl 1 rfl ?_
  refine aw_aload_n (pc := 1) C dX3_imported_1 rfl 0 rfl ?_
  refine aw_getNow (pc := 2) C q161 dX3_imported_2 (fun hF1 => ?_)
  refine aw_getN (pc := 5) C (a := (mNow μ)) (k := 6) (v := .int (μ.1 (mNow μ) 6)) inX0 (kdF hF1) rfl (by decide) q94 dX3_imported_5 rfl ?_
  obtain ⟨y5, hq2, h⟩ := bi_some h
  rcases y5 with E4 | q3
  · rw [thr_l] at h
    cases h
    exact aw_callST (pc := 8) (Bs := [.int v1, .int (μ.1 (mNow μ) 6)]) (rest := []) C hex (ok_X3_needIndex C.tr (r := .inl E4) hq2) kv_X3_needIndex q391 rfl rfl (Nat.le_of_ble_eq_true rfl) dX3_imported_8 ⟨(show 7 ≤ 7 by decide), (show 207 ≤ 217 by decide)⟩ ⟨Nat.le_refl _, Nat.le_refl _⟩ rfl
  · rw [thr_r] at h
    refine aw_Sv (pc := 8) (Bs := [.int v1, .int (μ.1 (mNow μ) 6)]) C (ok_X3_needIndex C.tr (r := .inr q3) hq2) kv_X3_needIndex q391 rfl rfl dX3_imported_8 ⟨(show 7 ≤ 7 by decide), (show 207 ≤ 217 by decide)⟩ ⟨Nat.zero_le _, Nat.zero_le _⟩ [] (Nat.le_of_ble_eq_true rfl) rfl ?_
    refine aw_iload_n (pc := 11) C dX3_imported_11 rfl 2 rfl ?_
    refine aw_bipush (pc := 12) C (v := 8) dX3_imported_12 rfl ?_
    obtain ⟨y9, hq6, h⟩ := bi_some h
    rcases y9 with E8 | q7
    · rw [thr_l] at h
      cases h
      exact aw_callST (pc := 14) (Bs := [.int v2, .int 8]) (rest := []) C hex (ok_X3_needBelow C.tr (r := .inl E8) hq6) kv_X3_needBelow q269 rfl rfl (Nat.le_of_ble_eq_true rfl) dX3_imported_14 ⟨(show 7 ≤ 7 by decide), (show 207 ≤ 217 by decide)⟩ ⟨Nat.le_refl _, Nat.le_refl _⟩ rfl
    · rw [thr_r] at h
      refine aw_Sv (pc := 14) (Bs := [.int v2, .int 8]) C (ok_X3_needBelow C.tr (r := .inr q7) hq6) kv_X3_needBelow q269 rfl rfl dX3_imported_14 ⟨(show 7 ≤ 7 by decide), (show 207 ≤ 217 by decide)⟩ ⟨Nat.zero_le _, Nat.zero_le _⟩ [] (Nat.le_of_ble_eq_true rfl) rfl ?_
      refine aw_iload_n (pc := 17) C dX3_imported_17 rfl 2 rfl ?_
      by_cases hs10 : v2 = 0
      · replace h := ite_T h hs10
        refine aw_tableIn (pc := 18) C 60 dX3_imported_18 (by rw [hs10]; decide) (by rw [hs10]; decide) (by rw [hs10]; rfl) rfl ?_
        refine aw_aload_n (pc := 60) C dX3_imported_60 rfl 0 rfl ?_
        refine aw_getNow (pc := 61) C q161 dX3_imported_61 (fun hF11 => ?_)
        refine aw_getN (pc := 64) C (a := (mNow μ)) (k := 7) (v := .ref (ad ((mNow μ) + 5))) inX0 (kdF hF11) rfl (by decide) q97 dX3_imported_64 rfl ?_
        refine aw_iload_n (pc := 67) C dX3_imported_67 rfl 1 rfl ?_
        obtain ⟨g12, h⟩ := ck_some h
        refine aw_iaload (pc := 68) C (a := ((mNow μ) + 5)) ((kdFk (k := 5) hF11 rfl rfl)) g12 dX3_imported_68 ?_
        cases h
        exact aw_iret (pc := 69) C dX3_imported_69
      replace h := ite_F h hs10
      by_cases hs13 : v2 = 1
      · replace h := ite_T h hs13
        refine aw_tableIn (pc := 18) C 70 dX3_imported_18 (by rw [hs13]; decide) (by rw [hs13]; decide) (by rw [hs13]; rfl) rfl ?_
        refine aw_aload_n (pc := 70) C dX3_imported_70 rfl 0 rfl ?_
        refine aw_getNow (pc := 71) C q161 dX3_imported_71 (fun hF14 => ?_)
        refine aw_getN (pc := 74) C (a := (mNow μ)) (k := 8) (v := .ref (ad ((mNow μ) + 6))) inX0 (kdF hF14) rfl (by decide) q100 dX3_imported_74 rfl ?_
        refine aw_iload_n (pc := 77) C dX3_imported_77 rfl 1 rfl ?_
        obtain ⟨g15, h⟩ := ck_some h
        refine aw_iaload (pc := 78) C (a := ((mNow μ) + 6)) ((kdFk (k := 6) hF14 rfl rfl)) g15 dX3_imported_78 ?_
        cases h
        exact aw_iret (pc := 79) C dX3_imported_79
      replace h := ite_F h hs13
      by_cases hs16 : v2 = 2
      · replace h := ite_T h hs16
        refine aw_tableIn (pc := 18) C 80 dX3_imported_18 (by rw [hs16]; decide) (by rw [hs16]; decide) (by rw [hs16]; rfl) rfl ?_
        refine aw_aload_n (pc := 80) C dX3_imported_80 rfl 0 rfl ?_
        refine aw_getNow (pc := 81) C q161 dX3_imported_81 (fun hF17 => ?_)
        refine aw_getN (pc := 84) C (a := (mNow μ)) (k := 9) (v := .ref (ad ((mNow μ) + 7))) inX0 (kdF hF17) rfl (by decide) q103 dX3_imported_84 rfl ?_
        refine aw_iload_n (pc := 87) C dX3_imported_87 rfl 1 rfl ?_
        obtain ⟨g18, h⟩ := ck_some h
        refine aw_iaload (pc := 88) C (a := ((mNow μ) + 7)) ((kdFk (k := 7) hF17 rfl rfl)) g18 dX3_imported_88 ?_
        cases h
        exact aw_iret (pc := 89) C dX3_imported_89
      replace h := ite_F h hs16
      by_cases hs19 : v2 = 3
      · replace h := ite_T h hs19
        refine aw_tableIn (pc := 18) C 90 dX3_imported_18 (by rw [hs19]; decide) (by rw [hs19]; decide) (by rw [hs19]; rfl) rfl ?_
        refine aw_aload_n (pc := 90) C dX3_imported_90 rfl 0 rfl ?_
        refine aw_getNow (pc := 91) C q161 dX3_imported_91 (fun hF20 => ?_)
        refine aw_getN (pc := 94) C (a := (mNow μ)) (k := 10) (v := .ref (ad ((mNow μ) + 8))) inX0 (kdF hF20) rfl (by decide) q106 dX3_imported_94 rfl ?_
        refine aw_iload_n (pc := 97) C dX3_imported_97 rfl 1 rfl ?_
        obtain ⟨g21, h⟩ := ck_some h
        refine aw_iaload (pc := 98) C (a := ((mNow μ) + 8)) ((kdFk (k := 8) hF20 rfl rfl)) g21 dX3_imported_98 ?_
        cases h
        exact aw_iret (pc := 99) C dX3_imported_99
      replace h := ite_F h hs19
      by_cases hs22 : v2 = 4
      · replace h := ite_T h hs22
        refine aw_tableIn (pc := 18) C 100 dX3_imported_18 (by rw [hs22]; decide) (by rw [hs22]; decide) (by rw [hs22]; rfl) rfl ?_
        refine aw_aload_n (pc := 100) C dX3_imported_100 rfl 0 rfl ?_
        refine aw_getNow (pc := 101) C q161 dX3_imported_101 (fun hF23 => ?_)
        refine aw_getN (pc := 104) C (a := (mNow μ)) (k := 11) (v := .ref (ad ((mNow μ) + 9))) inX0 (kdF hF23) rfl (by decide) q109 dX3_imported_104 rfl ?_
        refine aw_iload_n (pc := 107) C dX3_imported_107 rfl 1 rfl ?_
        obtain ⟨g24, h⟩ := ck_some h
        refine aw_iaload (pc := 108) C (a := ((mNow μ) + 9)) ((kdFk (k := 9) hF23 rfl rfl)) g24 dX3_imported_108 ?_
        cases h
        exact aw_iret (pc := 109) C dX3_imported_109
      replace h := ite_F h hs22
      by_cases hs25 : v2 = 5
      · replace h := ite_T h hs25
        refine aw_tableIn (pc := 18) C 110 dX3_imported_18 (by rw [hs25]; decide) (by rw [hs25]; decide) (by rw [hs25]; rfl) rfl ?_
        refine aw_aload_n (pc := 110) C dX3_imported_110 rfl 0 rfl ?_
        refine aw_getNow (pc := 111) C q161 dX3_imported_111 (fun hF26 => ?_)
        refine aw_getN (pc := 114) C (a := (mNow μ)) (k := 12) (v := .ref (ad ((mNow μ) + 10))) inX0 (kdF hF26) rfl (by decide) q112 dX3_imported_114 rfl ?_
        refine aw_iload_n (pc := 117) C dX3_imported_117 rfl 1 rfl ?_
        obtain ⟨g27, h⟩ := ck_some h
        refine aw_iaload (pc := 118) C (a := ((mNow μ) + 10)) ((kdFk (k := 10) hF26 rfl rfl)) g27 dX3_imported_118 ?_
        cases h
        exact aw_iret (pc := 119) C dX3_imported_119
      replace h := ite_F h hs25
      by_cases hs28 : v2 = 6
      · replace h := ite_T h hs28
        refine aw_tableIn (pc := 18) C 120 dX3_imported_18 (by rw [hs28]; decide) (by rw [hs28]; decide) (by rw [hs28]; rfl) rfl ?_
        refine aw_aload_n (pc := 120) C dX3_imported_120 rfl 0 rfl ?_
        refine aw_getNow (pc := 121) C q161 dX3_imported_121 (fun hF29 => ?_)
        refine aw_iload_n (pc := 124) C dX3_imported_124 rfl 1 rfl ?_
        obtain ⟨q31, hq30, h⟩ := bi_some h
        refine aw_Vi (pc := 125) (a := (mNow μ)) (Bs := [.int v1]) C (ok_X0_pairsBrought C.tr hF29 hq30) kv_X0_pairsBrought q352 (kdF hF29) rfl rfl rfl dX3_imported_125 ⟨(show 2 ≤ 7 by decide), (show 55 ≤ 217 by decide)⟩ ⟨Nat.zero_le _, Nat.zero_le _⟩ [] (Nat.le_of_ble_eq_true rfl) rfl ?_
        cases h
        exact aw_iret (pc := 128) C dX3_imported_128
      replace h := ite_F h hs28
      refine aw_tableOut (pc := 18) C 129 dX3_imported_18 (by have hs10z := sw_ne hs10 (show Int32.toInt 0 = 0 by decide); have hs13z := sw_ne hs13 (show Int32.toInt 1 = 1 by decide); have hs16z := sw_ne hs16 (show Int32.toInt 2 = 2 by decide); have hs19z := sw_ne hs19 (show Int32.toInt 3 = 3 by decide); have hs22z := sw_ne hs22 (show Int32.toInt 4 = 4 by decide); have hs25z := sw_ne hs25 (show Int32.toInt 5 = 5 by decide); have hs28z := sw_ne hs28 (show Int32.toInt 6 = 6 by decide); omega) rfl ?_
      refine aw_aload_n (pc := 129) C dX3_imported_129 rfl 0 rfl ?_
      refine aw_iload_n (pc := 130) C dX3_imported_130 rfl 1 rfl ?_
      obtain ⟨q33, μ34, hq32, h⟩ := bn_some h
      refine aw_Vi (pc := 131) (a := 0) (Bs := [.int v1]) C (ok_X3_lossWithout C.tr hq32) kv_X3_lossWithout q348 rfl rfl rfl rfl dX3_imported_131 ⟨(show 5 ≤ 7 by decide), (show 147 ≤ 217 by decide)⟩ ⟨Nat.zero_le _, Nat.zero_le _⟩ [] (Nat.le_of_ble_eq_true rfl) rfl ?_
      cases h
      exact aw_iret (pc := 134) C dX3_imported_134
/-! ### NameScopes.onlyOne(I)I -/
theorem ok_X3_onlyOne {l : Launch} (htr : l.stackTraces = false) {v0 : Int32} {μ : Mm} {r : Int32}  (h : X3_onlyOne v0 = some r) : MetX l yX3_onlyOne cX3_onlyOne 1 (some .int) 1 (fun ad => [.int v0]) μ (.inr (some (.int r))) μ := by
  refine MetX.of htr (by decide) rfl (fun ad => Nat.le_of_ble_eq_true rfl) (fun p e s m args below meth c D cI cL ad C hex hw => ?_)
  show AV l p e s m args below meth c D cI cL ad 1 1 (.inr (some (.int r))) μ 0 [(0, .int v0)] [] μ
  unfold X3_onlyOne at h
  refine aw_iload_n (pc := 0) C dX3_onlyOne_0 rfl 0 rfl ?_
  obtain ⟨q2, hq1, h⟩ := bi_some h
  refine aw_Si (pc := 1) (Bs := [.int v0]) C (ok_J6_bitCount_0f7a4 C.tr hq1) kv_J6_bitCount_0f7a4 q415 rfl rfl dX3_onlyOne_1 ⟨(show 1 ≤ 1 by decide), (show 20 ≤ 31 by decide)⟩ ⟨Nat.zero_le _, Nat.zero_le _⟩ [] (Nat.le_of_ble_eq_true rfl) rfl ?_
  refine aw_iconst (pc := 4) C (v := 1) dX3_onlyOne_4 rfl ?_
  refine aw_icmp_ne (pc := 5) C 17 dX3_onlyOne_5 rfl (fun hc => ?_) (fun hc => ?_)
  · replace h := ite_F h hc
    refine aw_iconst (pc := 17) C (v := (-1)) dX3_onlyOne_17 rfl ?_
    cases h
    exact aw_iret (pc := 18) C dX3_onlyOne_18
  · replace h := ite_T h hc
    refine aw_iload_n (pc := 8) C dX3_onlyOne_8 rfl 0 rfl ?_
    refine aw_iconst (pc := 9) C (v := 1) dX3_onlyOne_9 rfl ?_
    refine aw_isub (pc := 10) C dX3_onlyOne_10 ?_
    obtain ⟨q4, hq3, h⟩ := bi_some h
    refine aw_Si (pc := 11) (Bs := [.int (v0 - 1)]) C (ok_J6_bitCount_0f7a4 C.tr hq3) kv_J6_bitCount_0f7a4 q415 rfl rfl dX3_onlyOne_11 ⟨(show 1 ≤ 1 by decide), (show 20 ≤ 31 by decide)⟩ ⟨Nat.zero_le _, Nat.zero_le _⟩ [] (Nat.le_of_ble_eq_true rfl) rfl ?_
    refine aw_goto (pc := 14) C 18 dX3_onlyOne_14 rfl ?_
    cases h
    exact aw_iret (pc := 18) C dX3_onlyOne_18
/-! ### NameScopes.used(II)I -/
theorem ok_X3_used {l : Launch} (htr : l.stackTraces = false) {v1 : Int32} {v2 : Int32} {μ : Mm} {r : (String ⊕ Int32)}  (h : X3_used v1 v2 μ = some r) : MetX l yX3_used cX3_used 3 (some .int) 7 (fun ad => [.ref (ad 0), .int v1, .int v2]) μ (rsI r) μ := by
  refine MetX.of htr (by decide) rfl (fun ad => Nat.le_of_ble_eq_true rfl) (fun p e s m args below meth c D cI cL ad C hex hw => ?_)
  show AV l p e s m args below meth c D cI cL ad 7 3 (rsI r) μ 0 [(0, .ref (ad 0)), (1, .int v1), (2, .int v2)] [] μ
  unfold X3_used at h
  refine aw_iload_n (pc := 0) C dX3_used_0 rfl 1 rfl ?_
  refine aw_aload_n (pc := 1) C dX3_used_1 rfl 0 rfl ?_
  refine aw_getNow (pc := 2) C q161 dX3_used_2 (fun hF1 => ?_)
  refine aw_getN (pc := 5) C (a := (mNow μ)) (k := 13) (v := .int (μ.1 (mNow μ) 13)) inX0 (kdF hF1) rfl (by decide) q114 dX3_used_5 rfl ?_
  obtain ⟨y5, hq2, h⟩ := bi_some h
  rcases y5 with E4 | q3
  · rw [thr_l] at h
    cases h
    exact aw_callST (pc := 8) (Bs := [.int v1, .int (μ.1 (mNow μ) 13)]) (rest := []) C hex (ok_X3_needIndex C.tr (r := .inl E4) hq2) kv_X3_needIndex q391 rfl rfl (Nat.le_of_ble_eq_true rfl) dX3_used_8 ⟨(show 7 ≤ 7 by decide), (show 207 ≤ 217 by decide)⟩ ⟨Nat.le_refl _, Nat.le_refl _⟩ rfl
  · rw [thr_r] at h
    refine aw_Sv (pc := 8) (Bs := [.int v1, .int (μ.1 (mNow μ) 13)]) C (ok_X3_needIndex C.tr (r := .inr q3) hq2) kv_X3_needIndex q391 rfl rfl dX3_used_8 ⟨(show 7 ≤ 7 by decide), (show 207 ≤ 217 by decide)⟩ ⟨Nat.zero_le _, Nat.zero_le _⟩ [] (Nat.le_of_ble_eq_true rfl) rfl ?_
    refine aw_iload_n (pc := 11) C dX3_used_11 rfl 2 rfl ?_
    refine aw_iconst (pc := 12) C (v := 4) dX3_used_12 rfl ?_
    obtain ⟨y9, hq6, h⟩ := bi_some h
    rcases y9 with E8 | q7
    · rw [thr_l] at h
      cases h
      exact aw_callST (pc := 13) (Bs := [.int v2, .int 4]) (rest := []) C hex (ok_X3_needBelow C.tr (r := .inl E8) hq6) kv_X3_needBelow q269 rfl rfl (Nat.le_of_ble_eq_true rfl) dX3_used_13 ⟨(show 7 ≤ 7 by decide), (show 207 ≤ 217 by decide)⟩ ⟨Nat.le_refl _, Nat.le_refl _⟩ rfl
    · rw [thr_r] at h
      refine aw_Sv (pc := 13) (Bs := [.int v2, .int 4]) C (ok_X3_needBelow C.tr (r := .inr q7) hq6) kv_X3_needBelow q269 rfl rfl dX3_used_13 ⟨(show 7 ≤ 7 by decide), (show 207 ≤ 217 by decide)⟩ ⟨Nat.zero_le _, Nat.zero_le _⟩ [] (Nat.le_of_ble_eq_true rfl) rfl ?_
      refine aw_iload_n (pc := 16) C dX3_used_16 rfl 2 rfl ?_
      by_cases hs10 : v2 = 0
      · replace h := ite_T h hs10
        refine aw_tableIn (pc := 17) C 44 dX3_used_17 (by rw [hs10]; decide) (by rw [hs10]; decide) (by rw [hs10]; rfl) rfl ?_
        refine aw_aload_n (pc := 44) C dX3_used_44 rfl 0 rfl ?_
        refine aw_getNow (pc := 45) C q161 dX3_used_45 (fun hF11 => ?_)
        refine aw_getN (pc := 48) C (a := (mNow μ)) (k := 14) (v := .ref (ad ((mNow μ) + 11))) inX0 (kdF hF11) rfl (by decide) q116 dX3_used_48 rfl ?_
        refine aw_iload_n (pc := 51) C dX3_used_51 rfl 1 rfl ?_
        obtain ⟨g12, h⟩ := ck_some h
        refine aw_iaload (pc := 52) C (a := ((mNow μ) + 11)) ((kdFk (k := 11) hF11 rfl rfl)) g12 dX3_used_52 ?_
        cases h
        exact aw_iret (pc := 53) C dX3_used_53
      replace h := ite_F h hs10
      by_cases hs13 : v2 = 1
      · replace h := ite_T h hs13
        refine aw_tableIn (pc := 17) C 54 dX3_used_17 (by rw [hs13]; decide) (by rw [hs13]; decide) (by rw [hs13]; rfl) rfl ?_
        refine aw_aload_n (pc := 54) C dX3_used_54 rfl 0 rfl ?_
        refine aw_getNow (pc := 55) C q161 dX3_used_55 (fun hF14 => ?_)
        refine aw_getN (pc := 58) C (a := (mNow μ)) (k := 15) (v := .ref (ad ((mNow μ) + 12))) inX0 (kdF hF14) rfl (by decide) q118 dX3_used_58 rfl ?_
        refine aw_iload_n (pc := 61) C dX3_used_61 rfl 1 rfl ?_
        obtain ⟨g15, h⟩ := ck_some h
        refine aw_iaload (pc := 62) C (a := ((mNow μ) + 12)) ((kdFk (k := 12) hF14 rfl rfl)) g15 dX3_used_62 ?_
        cases h
        exact aw_iret (pc := 63) C dX3_used_63
      replace h := ite_F h hs13
      by_cases hs16 : v2 = 2
      · replace h := ite_T h hs16
        refine aw_tableIn (pc := 17) C 64 dX3_used_17 (by rw [hs16]; decide) (by rw [hs16]; decide) (by rw [hs16]; rfl) rfl ?_
        refine aw_aload_n (pc := 64) C dX3_used_64 rfl 0 rfl ?_
        refine aw_getNow (pc := 65) C q161 dX3_used_65 (fun hF17 => ?_)
        refine aw_iload_n (pc := 68) C dX3_used_68 rfl 1 rfl ?_
        obtain ⟨q19, hq18, h⟩ := bi_some h
        refine aw_Vi (pc := 69) (a := (mNow μ)) (Bs := [.int v1]) C (ok_X0_outcome C.tr hF17 hq18) kv_X0_outcome q370 (kdF hF17) rfl rfl rfl dX3_used_69 ⟨(show 2 ≤ 7 by decide), (show 52 ≤ 217 by decide)⟩ ⟨Nat.zero_le _, Nat.zero_le _⟩ [] (Nat.le_of_ble_eq_true rfl) rfl ?_
        obtain ⟨q21, hq20, h⟩ := bi_some h
        refine aw_Si (pc := 72) (Bs := [.int q19]) C (ok_X3_onlyOne C.tr hq20) kv_X3_onlyOne q440 rfl rfl dX3_used_72 ⟨(show 2 ≤ 7 by decide), (show 51 ≤ 217 by decide)⟩ ⟨Nat.zero_le _, Nat.zero_le _⟩ [] (Nat.le_of_ble_eq_true rfl) rfl ?_
        cases h
        exact aw_iret (pc := 75) C dX3_used_75
      replace h := ite_F h hs16
      refine aw_tableOut (pc := 17) C 76 dX3_used_17 (by have hs10z := sw_ne hs10 (show Int32.toInt 0 = 0 by decide); have hs13z := sw_ne hs13 (show Int32.toInt 1 = 1 by decide); have hs16z := sw_ne hs16 (show Int32.toInt 2 = 2 by decide); omega) rfl ?_
      refine aw_aload_n (pc := 76) C dX3_used_76 rfl 0 rfl ?_
      refine aw_getNow (pc := 77) C q161 dX3_used_77 (fun hF22 => ?_)
      refine aw_iload_n (pc := 80) C dX3_used_80 rfl 1 rfl ?_
      obtain ⟨q24, hq23, h⟩ := bi_some h
      refine aw_Vi (pc := 81) (a := (mNow μ)) (Bs := [.int v1]) C (ok_X0_stateOfUse C.tr hF22 hq23) kv_X0_stateOfUse q443 (kdF hF22) rfl rfl rfl dX3_used_81 ⟨(show 3 ≤ 7 by decide), (show 85 ≤ 217 by decide)⟩ ⟨Nat.zero_le _, Nat.zero_le _⟩ [] (Nat.le_of_ble_eq_true rfl) rfl ?_
      cases h
      exact aw_iret (pc := 84) C dX3_used_84
