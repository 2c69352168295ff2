/-! ### java/lang/Integer.bitCount(I)I -/
noncomputable def J6_bitCount_0f7a4 (v0 : Int32) : Option Int32 :=
  bd ((v0 - (((v0).toUInt32 >>> ((1 : Int32).toUInt32 &&& Int32.toUInt32 31)).toInt32 &&& 1431655765)) : Int32) fun x1 =>
  bd (((x1 &&& 858993459) + (((x1).toUInt32 >>> ((2 : Int32).toUInt32 &&& Int32.toUInt32 31)).toInt32 &&& 858993459)) : Int32) fun x2 =>
  bd (((x2 + ((x2).toUInt32 >>> ((4 : Int32).toUInt32 &&& Int32.toUInt32 31)).toInt32) &&& 252645135) : Int32) fun x3 =>
  bd ((x3 + ((x3).toUInt32 >>> ((8 : Int32).toUInt32 &&& Int32.toUInt32 31)).toInt32) : Int32) fun x4 =>
  bd ((x4 + ((x4).toUInt32 >>> ((16 : Int32).toUInt32 &&& Int32.toUInt32 31)).toInt32) : Int32) fun x5 =>
  some ((x5 &&& 63))
/-! ### java/util/Arrays.fill([II)V -/
noncomputable def J7_fill_53178_l5 (a0 : Nat) (v1 : Int32) (k5 : Int32 → Int32 → Mm → Option Mm) (v2 : Int32) (v3 : Int32) (μ : Mm) : Option Mm :=
  (if v3 ≤ v2 then some μ else (ck v2 (alen a0) <|
  bd (setI μ a0 (v2 : Int32).toNatClampNeg v1) fun μ3 =>
  k5 (v2 + 1) v3 μ3))
noncomputable def J7_fill_53178 (a0 : Nat) (v1 : Int32) (μ : Mm) : Option Mm :=
  bd ((nI (alen a0)) : Int32) fun x1 =>
  itr (J7_fill_53178_l5 a0 v1) (fun _ _ _ => none) big 0 x1 μ
/-! ### NameScopes$Facts.closeGap([III)V -/
noncomputable def X0_closeGap (a0 : Nat) (v1 : Int32) (v2 : Int32) (μ : Mm) : Option Mm :=
  cg (v1 + 1) v1 ((v2 - v1) - 1) (alen a0) (alen a0) <|
  bd (setA μ a0 (va_cpy (μ.1 a0) (μ.1 a0) ((v1 + 1) : Int32).toNatClampNeg (v1 : Int32).toNatClampNeg (((v2 - v1) - 1) : Int32).toNatClampNeg)) fun μ2 =>
  some μ2
/-! ### NameScopes$Facts.copyFrom(LNameScopes$Facts;)V -/
noncomputable def X0_copyFrom (a0 : Nat) (a1 : Nat) (μ : Mm) : Option Mm :=
  bd (setI μ a0 0 (μ.1 a1 0)) fun μ1 =>
  cg 0 0 (μ1.1 a0 0) 16 16 <|
  bd (setA μ1 (a0 + 1) (va_cpy (μ1.1 (a1 + 1)) (μ1.1 (a0 + 1)) (0 : Int32).toNatClampNeg (0 : Int32).toNatClampNeg ((μ1.1 a0 0) : Int32).toNatClampNeg)) fun μ3 =>
  bd (setI μ3 a0 2 (μ3.1 a1 2)) fun μ4 =>
  cg 0 0 (μ4.1 a0 2) 30 30 <|
  bd (setA μ4 (a0 + 2) (va_cpy (μ4.1 (a1 + 2)) (μ4.1 (a0 + 2)) (0 : Int32).toNatClampNeg (0 : Int32).toNatClampNeg ((μ4.1 a0 2) : Int32).toNatClampNeg)) fun μ6 =>
  cg 0 0 (μ6.1 a0 2) 30 30 <|
  bd (setA μ6 (a0 + 3) (va_cpy (μ6.1 (a1 + 3)) (μ6.1 (a0 + 3)) (0 : Int32).toNatClampNeg (0 : Int32).toNatClampNeg ((μ6.1 a0 2) : Int32).toNatClampNeg)) fun μ8 =>
  cg 0 0 (μ8.1 a0 2) 30 30 <|
  bd (setA μ8 (a0 + 4) (va_cpy (μ8.1 (a1 + 4)) (μ8.1 (a0 + 4)) (0 : Int32).toNatClampNeg (0 : Int32).toNatClampNeg ((μ8.1 a0 2) : Int32).toNatClampNeg)) fun μ10 =>
  bd (setI μ10 a0 6 (μ10.1 a1 6)) fun μ11 =>
  cg 0 0 (μ11.1 a0 6) 20 20 <|
  bd (setA μ11 (a0 + 5) (va_cpy (μ11.1 (a1 + 5)) (μ11.1 (a0 + 5)) (0 : Int32).toNatClampNeg (0 : Int32).toNatClampNeg ((μ11.1 a0 6) : Int32).toNatClampNeg)) fun μ13 =>
  cg 0 0 (μ13.1 a0 6) 20 20 <|
  bd (setA μ13 (a0 + 6) (va_cpy (μ13.1 (a1 + 6)) (μ13.1 (a0 + 6)) (0 : Int32).toNatClampNeg (0 : Int32).toNatClampNeg ((μ13.1 a0 6) : Int32).toNatClampNeg)) fun μ15 =>
  cg 0 0 (μ15.1 a0 6) 20 20 <|
  bd (setA μ15 (a0 + 7) (va_cpy (μ15.1 (a1 + 7)) (μ15.1 (a0 + 7)) (0 : Int32).toNatClampNeg (0 : Int32).toNatClampNeg ((μ15.1 a0 6) : Int32).toNatClampNeg)) fun μ17 =>
  cg 0 0 (μ17.1 a0 6) 20 20 <|
  bd (setA μ17 (a0 + 8) (va_cpy (μ17.1 (a1 + 8)) (μ17.1 (a0 + 8)) (0 : Int32).toNatClampNeg (0 : Int32).toNatClampNeg ((μ17.1 a0 6) : Int32).toNatClampNeg)) fun μ19 =>
  cg 0 0 (μ19.1 a0 6) 20 20 <|
  bd (setA μ19 (a0 + 9) (va_cpy (μ19.1 (a1 + 9)) (μ19.1 (a0 + 9)) (0 : Int32).toNatClampNeg (0 : Int32).toNatClampNeg ((μ19.1 a0 6) : Int32).toNatClampNeg)) fun μ21 =>
  cg 0 0 (μ21.1 a0 6) 20 20 <|
  bd (setA μ21 (a0 + 10) (va_cpy (μ21.1 (a1 + 10)) (μ21.1 (a0 + 10)) (0 : Int32).toNatClampNeg (0 : Int32).toNatClampNeg ((μ21.1 a0 6) : Int32).toNatClampNeg)) fun μ23 =>
  bd (setI μ23 a0 13 (μ23.1 a1 13)) fun μ24 =>
  cg 0 0 (μ24.1 a0 13) 30 30 <|
  bd (setA μ24 (a0 + 11) (va_cpy (μ24.1 (a1 + 11)) (μ24.1 (a0 + 11)) (0 : Int32).toNatClampNeg (0 : Int32).toNatClampNeg ((μ24.1 a0 13) : Int32).toNatClampNeg)) fun μ26 =>
  cg 0 0 (μ26.1 a0 13) 30 30 <|
  bd (setA μ26 (a0 + 12) (va_cpy (μ26.1 (a1 + 12)) (μ26.1 (a0 + 12)) (0 : Int32).toNatClampNeg (0 : Int32).toNatClampNeg ((μ26.1 a0 13) : Int32).toNatClampNeg)) fun μ28 =>
  some μ28
/-! ### NameScopes$Facts.declares(II)Z -/
noncomputable def X0_declares_l2 (a0 : Nat) (v1 : Int32) (v2 : Int32) (μ : Mm) (k2 : Int32 → Option Int32) (v3 : Int32) : Option Int32 :=
  (if (μ.1 a0 2) ≤ v3 then some 0 else (ck v3 30 <|
  (if (μ.1 (a0 + 2) (v3 : Int32).toNatClampNeg) = v1 then (ck v3 30 <|
  (if (μ.1 (a0 + 3) (v3 : Int32).toNatClampNeg) = v2 then some 1 else k2 (v3 + 1))) else k2 (v3 + 1))))
noncomputable def X0_declares (a0 : Nat) (v1 : Int32) (v2 : Int32) (μ : Mm) : Option Int32 :=
  itr (X0_declares_l2 a0 v1 v2 μ) (fun _ => none) big 0
/-! ### NameScopes$Facts.dropDeclaration(I)V -/
noncomputable def X0_dropDeclaration (a0 : Nat) (v1 : Int32) (μ : Mm) : Option Mm :=
  (X0_closeGap (a0 + 2) v1 (μ.1 a0 2) μ).bind fun μ3 =>
  (X0_closeGap (a0 + 3) v1 (μ3.1 a0 2) μ3).bind fun μ6 =>
  (X0_closeGap (a0 + 4) v1 (μ6.1 a0 2) μ6).bind fun μ9 =>
  bd (setI μ9 a0 2 ((μ9.1 a0 2) - 1)) fun μ10 =>
  some μ10
/-! ### NameScopes$Facts.dropImport(I)V -/
noncomputable def X0_dropImport (a0 : Nat) (v1 : Int32) (μ : Mm) : Option Mm :=
  (X0_closeGap (a0 + 5) v1 (μ.1 a0 6) μ).bind fun μ3 =>
  (X0_closeGap (a0 + 6) v1 (μ3.1 a0 6) μ3).bind fun μ6 =>
  (X0_closeGap (a0 + 7) v1 (μ6.1 a0 6) μ6).bind fun μ9 =>
  (X0_closeGap (a0 + 8) v1 (μ9.1 a0 6) μ9).bind fun μ12 =>
  (X0_closeGap (a0 + 9) v1 (μ12.1 a0 6) μ12).bind fun μ15 =>
  (X0_closeGap (a0 + 10) v1 (μ15.1 a0 6) μ15).bind fun μ18 =>
  bd (setI μ18 a0 6 ((μ18.1 a0 6) - 1)) fun μ19 =>
  some μ19
/-! ### NameScopes$Facts.dropUse(I)V -/
noncomputable def X0_dropUse (a0 : Nat) (v1 : Int32) (μ : Mm) : Option Mm :=
  (X0_closeGap (a0 + 11) v1 (μ.1 a0 13) μ).bind fun μ3 =>
  (X0_closeGap (a0 + 12) v1 (μ3.1 a0 13) μ3).bind fun μ6 =>
  bd (setI μ6 a0 13 ((μ6.1 a0 13) - 1)) fun μ7 =>
  some μ7
/-! ### NameScopes$Facts.firstLayer(II)I -/
noncomputable def X0_firstLayer_l5 (a0 : Nat) (v1 : Int32) (v2 : Int32) (μ : Mm) (k5 : Int32 → Int32 → Option Int32) (v3 : Int32) (v4 : Int32) : Option Int32 :=
  (if 16 ≤ v4 then some 0 else (if v3 = (-1) then some 0 else (bd (((v3 * 26) + v2) : Int32) fun x1 =>
  ck x1 416 <|
  (if (μ.1 ((a0 + 14) + 2) (x1 : Int32).toNatClampNeg) = 0 then (ck x1 416 <|
  (if (μ.1 ((a0 + 14) + 3) (x1 : Int32).toNatClampNeg) = 0 then (ck x1 416 <|
  (if (μ.1 ((a0 + 14) + 4) (x1 : Int32).toNatClampNeg) = 0 then (ck v3 16 <|
  bd ((μ.1 (a0 + 1) (v3 : Int32).toNatClampNeg) : Int32) fun x6 =>
  k5 x6 (v4 + 1)) else (ck x1 416 <|
  some ((μ.1 ((a0 + 14) + 4) (x1 : Int32).toNatClampNeg))))) else (ck x1 416 <|
  some ((μ.1 ((a0 + 14) + 3) (x1 : Int32).toNatClampNeg))))) else (ck x1 416 <|
  some ((μ.1 ((a0 + 14) + 2) (x1 : Int32).toNatClampNeg)))))))
noncomputable def X0_firstLayer (a0 : Nat) (v1 : Int32) (v2 : Int32) (μ : Mm) : Option Int32 :=
  itr (X0_firstLayer_l5 a0 v1 v2 μ) (fun _ _ => none) big v1 0
/-! ### NameScopes$Facts.outcome(I)I -/
noncomputable def X0_outcome (a0 : Nat) (v1 : Int32) (μ : Mm) : Option Int32 :=
  ck v1 30 <|
  ck v1 30 <|
  (X0_firstLayer a0 (μ.1 (a0 + 11) (v1 : Int32).toNatClampNeg) (μ.1 (a0 + 12) (v1 : Int32).toNatClampNeg) μ).bind fun q4 =>
  some q4
/-! ### NameScopes$Facts.followsRenaming(II)Z -/
noncomputable def X0_followsRenaming_j30 (a0 : Nat) (v1 : Int32) (v2 : Int32) (μ : Mm) : Option Int32 :=
  some 0
noncomputable def X0_followsRenaming (a0 : Nat) (v1 : Int32) (v2 : Int32) (μ : Mm) : Option Int32 :=
  ck v1 30 <|
  ck v2 30 <|
  (if (μ.1 (a0 + 12) (v1 : Int32).toNatClampNeg) = (μ.1 (a0 + 3) (v2 : Int32).toNatClampNeg) then ((X0_outcome a0 v1 μ).bind fun q4 =>
  some ((if q4 = (1 <<< (v2 &&& 31)) then (1 : Int32) else 0))) else X0_followsRenaming_j30 a0 v1 v2 μ)
/-! ### NameScopes$Facts.giveName(IILNameScopes$Facts;)V -/
noncomputable def X0_giveName_l155 (a0 : Nat) (v1 : Int32) (v2 : Int32) (a3 : Nat) (k155 : Int32 → Mm → Option Mm) (v5 : Int32) (μ : Mm) : Option Mm :=
  (if (μ.1 a0 13) ≤ v5 then (ck v1 30 <|
  bd (setI μ (a0 + 3) (v1 : Int32).toNatClampNeg v2) fun μ4 =>
  some μ4) else ((X0_followsRenaming a3 v5 v1 μ).bind fun q6 =>
  (if q6 = 0 then k155 (v5 + 1) μ else (ck v5 30 <|
  bd (setI μ (a0 + 12) (v5 : Int32).toNatClampNeg v2) fun μ8 =>
  k155 (v5 + 1) μ8))))
noncomputable def X0_giveName_j113 (a0 : Nat) (v1 : Int32) (v2 : Int32) (a3 : Nat) (k11 : Int32 → Int32 → Mm → Option Mm) (v4 : Int32) (v5 : Int32) (v6 : Int32) (μ : Mm) : Option Mm :=
  (if v6 = 0 then k11 v4 (v5 + 1) μ else (ck v5 20 <|
  (if (((μ.1 (a0 + 9) (v5 : Int32).toNatClampNeg) >>> (v4 &&& 31)) &&& 1) = 0 then k11 v4 (v5 + 1) μ else (ck v5 20 <|
  ck v5 20 <|
  bd (setI μ (a0 + 9) (v5 : Int32).toNatClampNeg ((μ.1 (a0 + 9) (v5 : Int32).toNatClampNeg) ||| (1 <<< (v2 &&& 31)))) fun μ15 =>
  k11 v4 (v5 + 1) μ15))))
noncomputable def X0_giveName_j109 (a0 : Nat) (v1 : Int32) (v2 : Int32) (a3 : Nat) (k11 : Int32 → Int32 → Mm → Option Mm) (v4 : Int32) (v5 : Int32) (s0 : Int32) (s1 : Int32) (s2 : Nat) (μ : Mm) : Option Mm :=
  ck s1 (alen s2) <|
  bd (setI μ s2 (s1 : Int32).toNatClampNeg s0) fun μ22 =>
  k11 v4 (v5 + 1) μ22
noncomputable def X0_giveName_l11 (a0 : Nat) (v1 : Int32) (v2 : Int32) (a3 : Nat) (k11 : Int32 → Int32 → Mm → Option Mm) (v4 : Int32) (v5 : Int32) (μ : Mm) : Option Mm :=
  (if (μ.1 a0 6) ≤ v5 then itr (X0_giveName_l155 a0 v1 v2 a3) (fun _ _ => none) big 0 μ else (ck v5 20 <|
  ck (((μ.1 (a0 + 6) (v5 : Int32).toNatClampNeg) * 26) + v4) 416 <|
  bd ((if (((μ.1 ((a3 + 14) + 1) ((((μ.1 (a0 + 6) (v5 : Int32).toNatClampNeg) * 26) + v4) : Int32).toNatClampNeg) >>> (v1 &&& 31)) &&& 1) = 0 then (0 : Int32) else 1) : Int32) fun x11 =>
  (if x11 = 0 then X0_giveName_j113 a0 v1 v2 a3 k11 v4 v5 x11 μ else (ck v5 20 <|
  (if (μ.1 (a0 + 7) (v5 : Int32).toNatClampNeg) = v4 then (ck v5 20 <|
  bd (setI μ (a0 + 7) (v5 : Int32).toNatClampNeg v2) fun μ18 =>
  ck v5 20 <|
  (if (μ18.1 (a0 + 8) (v5 : Int32).toNatClampNeg) = v4 then X0_giveName_j109 a0 v1 v2 a3 k11 v4 v5 v2 v5 (a0 + 8) μ18 else (ck v5 20 <|
  X0_giveName_j109 a0 v1 v2 a3 k11 v4 v5 (μ18.1 (a0 + 8) (v5 : Int32).toNatClampNeg) v5 (a0 + 8) μ18))) else X0_giveName_j113 a0 v1 v2 a3 k11 v4 v5 x11 μ)))))
noncomputable def X0_giveName (a0 : Nat) (v1 : Int32) (v2 : Int32) (a3 : Nat) (μ : Mm) : Option Mm :=
  ck v1 30 <|
  bd ((μ.1 (a0 + 3) (v1 : Int32).toNatClampNeg) : Int32) fun x2 =>
  itr (X0_giveName_l11 a0 v1 v2 a3) (fun _ _ _ => none) big x2 0 μ
/-! ### NameScopes$Facts.greatestDepth()I -/
noncomputable def X0_greatestDepth_j47 (a0 : Nat) (μ : Mm) (k4 : Int32 → Int32 → Option Int32) (v1 : Int32) (v2 : Int32) (v4 : Int32) : Option Int32 :=
  bd ((if v1 < v4 then v4 else v1) : Int32) fun x3 =>
  k4 x3 (v2 + 1)
noncomputable def X0_greatestDepth_l22 (a0 : Nat) (μ : Mm) (k4 : Int32 → Int32 → Option Int32) (k22 : Int32 → Int32 → Int32 → Int32 → Option Int32) (v1 : Int32) (v2 : Int32) (v3 : Int32) (v4 : Int32) : Option Int32 :=
  (if 16 ≤ v4 then X0_greatestDepth_j47 a0 μ k4 v1 v2 v4 else (if v3 = (-1) then X0_greatestDepth_j47 a0 μ k4 v1 v2 v4 else (ck v3 16 <|
  bd ((μ.1 (a0 + 1) (v3 : Int32).toNatClampNeg) : Int32) fun x5 =>
  k22 v1 v2 x5 (v4 + 1))))
noncomputable def X0_greatestDepth_l4 (a0 : Nat) (μ : Mm) (k4 : Int32 → Int32 → Option Int32) (v1 : Int32) (v2 : Int32) : Option Int32 :=
  (if (μ.1 a0 0) ≤ v2 then some v1 else (ck v2 16 <|
  bd ((μ.1 (a0 + 1) (v2 : Int32).toNatClampNeg) : Int32) fun x2 =>
  itr (X0_greatestDepth_l22 a0 μ k4) (fun _ _ _ _ => none) big v1 v2 x2 0))
noncomputable def X0_greatestDepth (a0 : Nat) (μ : Mm) : Option Int32 :=
  itr (X0_greatestDepth_l4 a0 μ) (fun _ _ => none) big 0 0
/-! ### NameScopes$Facts.hasScope(I)Z -/
noncomputable def X0_hasScope_j16 (a0 : Nat) (v1 : Int32) (μ : Mm) : Option Int32 :=
  some 0
noncomputable def X0_hasScope (a0 : Nat) (v1 : Int32) (μ : Mm) : Option Int32 :=
  (if v1 < 0 then X0_hasScope_j16 a0 v1 μ else some ((if (μ.1 a0 0) ≤ v1 then (0 : Int32) else 1)))
/-! ### NameScopes$Layers.ofSort(II)I -/
noncomputable def X1_ofSort (a0 : Nat) (v1 : Int32) (v2 : Int32) (μ : Mm) : Option Int32 :=
  (if v1 = 0 then (ck v2 416 <|
  some ((μ.1 (a0 + 2) (v2 : Int32).toNatClampNeg))) else (if v1 = 1 then (ck v2 416 <|
  some ((μ.1 (a0 + 3) (v2 : Int32).toNatClampNeg))) else (ck v2 416 <|
  some ((μ.1 (a0 + 4) (v2 : Int32).toNatClampNeg)))))
/-! ### NameScopes$Facts.layerAt(III)I -/
noncomputable def X0_layerAt_j35 (a0 : Nat) (v1 : Int32) (v2 : Int32) (v3 : Int32) (μ : Mm) (v4 : Int32) : Option Int32 :=
  (if v4 = (-1) then some 0 else ((X1_ofSort (a0 + 14) (v3 - v3 / 3 * 3) ((v4 * 26) + v2) μ).bind fun q2 =>
  some q2))
noncomputable def X0_layerAt_l6 (a0 : Nat) (v1 : Int32) (v2 : Int32) (v3 : Int32) (μ : Mm) (k6 : Int32 → Int32 → Option Int32) (v4 : Int32) (v5 : Int32) : Option Int32 :=
  (if (v3 / 3) ≤ v5 then X0_layerAt_j35 a0 v1 v2 v3 μ v4 else (if v4 = (-1) then X0_layerAt_j35 a0 v1 v2 v3 μ v4 else (ck v4 16 <|
  bd ((μ.1 (a0 + 1) (v4 : Int32).toNatClampNeg) : Int32) fun x4 =>
  k6 x4 (v5 + 1))))
noncomputable def X0_layerAt (a0 : Nat) (v1 : Int32) (v2 : Int32) (v3 : Int32) (μ : Mm) : Option Int32 :=
  itr (X0_layerAt_l6 a0 v1 v2 v3 μ) (fun _ _ => none) big v1 0
/-! ### NameScopes$Facts.layersOf(II)I -/
noncomputable def X0_layersOf_l8 (a0 : Nat) (v1 : Int32) (v2 : Int32) (μ : Mm) (k8 : Int32 → Int32 → Int32 → Option Int32) (v3 : Int32) (v4 : Int32) (v5 : Int32) : Option Int32 :=
  (if 48 ≤ v5 then some v3 else (if v4 = (-1) then some v3 else ((X1_ofSort (a0 + 14) (v5 - v5 / 3 * 3) ((v4 * 26) + v2) μ).bind fun q2 =>
  bd ((v3 + (if q2 = 0 then (0 : Int32) else 1)) : Int32) fun x3 =>
  (if (v5 - v5 / 3 * 3) = 2 then (ck v4 16 <|
  bd ((μ.1 (a0 + 1) (v4 : Int32).toNatClampNeg) : Int32) fun x5 =>
  k8 x3 x5 (v5 + 1)) else k8 x3 v4 (v5 + 1)))))
noncomputable def X0_layersOf (a0 : Nat) (v1 : Int32) (v2 : Int32) (μ : Mm) : Option Int32 :=
  itr (X0_layersOf_l8 a0 v1 v2 μ) (fun _ _ _ => none) big 0 v1 0
/-! ### NameScopes$Facts.pairsBrought(I)I -/
noncomputable def X0_pairsBrought_l45 (a0 : Nat) (v1 : Int32) (μ : Mm) (k45 : Int32 → Int32 → Int32 → Option Int32) (v2 : Int32) (v3 : Int32) (v4 : Int32) : Option Int32 :=
  (if 26 ≤ v4 then some v3 else (ck v1 20 <|
  (if (((μ.1 (a0 + 9) (v1 : Int32).toNatClampNeg) >>> (v4 &&& 31)) &&& 1) = 0 then (ck (v2 + v4) 416 <|
  (J6_bitCount_0f7a4 (μ.1 ((a0 + 14) + 1) ((v2 + v4) : Int32).toNatClampNeg)).bind fun q7 =>
  bd ((v3 + q7) : Int32) fun x8 =>
  k45 v2 x8 (v4 + 1)) else k45 v2 v3 (v4 + 1))))
noncomputable def X0_pairsBrought (a0 : Nat) (v1 : Int32) (μ : Mm) : Option Int32 :=
  ck v1 20 <|
  bd (((μ.1 (a0 + 6) (v1 : Int32).toNatClampNeg) * 26) : Int32) fun x2 =>
  ck v1 20 <|
  (if (μ.1 (a0 + 7) (v1 : Int32).toNatClampNeg) = (-1) then itr (X0_pairsBrought_l45 a0 v1 μ) (fun _ _ _ => none) big x2 0 0 else (ck v1 20 <|
  ck (x2 + (μ.1 (a0 + 7) (v1 : Int32).toNatClampNeg)) 416 <|
  (J6_bitCount_0f7a4 (μ.1 ((a0 + 14) + 1) ((x2 + (μ.1 (a0 + 7) (v1 : Int32).toNatClampNeg)) : Int32).toNatClampNeg)).bind fun q12 =>
  some q12))
/-! ### NameScopes$Facts.pairsOffered()I -/
noncomputable def X0_pairsOffered_l4 (a0 : Nat) (μ : Mm) (k4 : Int32 → Int32 → Option Int32) (v1 : Int32) (v2 : Int32) : Option Int32 :=
  (if ((μ.1 a0 0) * 26) ≤ v2 then some v1 else (ck v2 416 <|
  (J6_bitCount_0f7a4 (μ.1 ((a0 + 14) + 1) (v2 : Int32).toNatClampNeg)).bind fun q3 =>
  bd ((v1 + q3) : Int32) fun x4 =>
  k4 x4 (v2 + 1)))
noncomputable def X0_pairsOffered (a0 : Nat) (μ : Mm) : Option Int32 :=
  itr (X0_pairsOffered_l4 a0 μ) (fun _ _ => none) big 0 0
/-! ### NameScopes$Facts.placeOfLayer(III)I -/
noncomputable def X0_placeOfLayer_j55 (a0 : Nat) (v1 : Int32) (v2 : Int32) (v3 : Int32) (μ : Mm) (k9 : Int32 → Int32 → Int32 → Option Int32) (v4 : Int32) (v5 : Int32) (v6 : Int32) : Option Int32 :=
  (if (v6 - v6 / 3 * 3) = 2 then (ck v5 16 <|
  bd ((μ.1 (a0 + 1) (v5 : Int32).toNatClampNeg) : Int32) fun x4 =>
  k9 v4 x4 (v6 + 1)) else k9 v4 v5 (v6 + 1))
noncomputable def X0_placeOfLayer_l9 (a0 : Nat) (v1 : Int32) (v2 : Int32) (v3 : Int32) (μ : Mm) (k9 : Int32 → Int32 → Int32 → Option Int32) (v4 : Int32) (v5 : Int32) (v6 : Int32) : Option Int32 :=
  (if 48 ≤ v6 then some (-1) else (if v5 = (-1) then some (-1) else ((X1_ofSort (a0 + 14) (v6 - v6 / 3 * 3) ((v5 * 26) + v2) μ).bind fun q2 =>
  (if q2 = 0 then X0_placeOfLayer_j55 a0 v1 v2 v3 μ k9 v4 v5 v6 else (if v4 = v3 then some v6 else X0_placeOfLayer_j55 a0 v1 v2 v3 μ k9 (v4 + 1) v5 v6)))))
noncomputable def X0_placeOfLayer (a0 : Nat) (v1 : Int32) (v2 : Int32) (v3 : Int32) (μ : Mm) : Option Int32 :=
  itr (X0_placeOfLayer_l9 a0 v1 v2 v3 μ) (fun _ _ _ => none) big 0 v1 0
/-! ### NameScopes$Facts.putDeclaration(III)I -/
noncomputable def X0_putDeclaration (a0 : Nat) (v1 : Int32) (v2 : Int32) (v3 : Int32) (μ : Mm) : Option (Int32 × Mm) :=
  ck (μ.1 a0 2) 30 <|
  bd (setI μ (a0 + 2) ((μ.1 a0 2) : Int32).toNatClampNeg v1) fun μ2 =>
  ck (μ2.1 a0 2) 30 <|
  bd (setI μ2 (a0 + 3) ((μ2.1 a0 2) : Int32).toNatClampNeg v2) fun μ4 =>
  ck (μ4.1 a0 2) 30 <|
  bd (setI μ4 (a0 + 4) ((μ4.1 a0 2) : Int32).toNatClampNeg v3) fun μ6 =>
  bd (setI μ6 a0 2 ((μ6.1 a0 2) + 1)) fun μ7 =>
  some ((μ6.1 a0 2), μ7)
/-! ### NameScopes$Facts.putImport(IIIIII)I -/
noncomputable def X0_putImport (a0 : Nat) (v1 : Int32) (v2 : Int32) (v3 : Int32) (v4 : Int32) (v5 : Int32) (v6 : Int32) (μ : Mm) : Option (Int32 × Mm) :=
  ck (μ.1 a0 6) 20 <|
  bd (setI μ (a0 + 5) ((μ.1 a0 6) : Int32).toNatClampNeg v1) fun μ2 =>
  ck (μ2.1 a0 6) 20 <|
  bd (setI μ2 (a0 + 6) ((μ2.1 a0 6) : Int32).toNatClampNeg v2) fun μ4 =>
  ck (μ4.1 a0 6) 20 <|
  bd (setI μ4 (a0 + 7) ((μ4.1 a0 6) : Int32).toNatClampNeg v3) fun μ6 =>
  ck (μ6.1 a0 6) 20 <|
  bd (setI μ6 (a0 + 8) ((μ6.1 a0 6) : Int32).toNatClampNeg v4) fun μ8 =>
  ck (μ8.1 a0 6) 20 <|
  bd (setI μ8 (a0 + 9) ((μ8.1 a0 6) : Int32).toNatClampNeg v5) fun μ10 =>
  ck (μ10.1 a0 6) 20 <|
  bd (setI μ10 (a0 + 10) ((μ10.1 a0 6) : Int32).toNatClampNeg v6) fun μ12 =>
  bd (setI μ12 a0 6 ((μ12.1 a0 6) + 1)) fun μ13 =>
  some ((μ12.1 a0 6), μ13)
/-! ### NameScopes$Facts.putScope(I)I -/
noncomputable def X0_putScope (a0 : Nat) (v1 : Int32) (μ : Mm) : Option (Int32 × Mm) :=
  ck (μ.1 a0 0) 16 <|
  bd (setI μ (a0 + 1) ((μ.1 a0 0) : Int32).toNatClampNeg v1) fun μ2 =>
  bd (setI μ2 a0 0 ((μ2.1 a0 0) + 1)) fun μ3 =>
  some ((μ2.1 a0 0), μ3)
/-! ### NameScopes$Facts.putUse(II)I -/
noncomputable def X0_putUse (a0 : Nat) (v1 : Int32) (v2 : Int32) (μ : Mm) : Option (Int32 × Mm) :=
  ck (μ.1 a0 13) 30 <|
  bd (setI μ (a0 + 11) ((μ.1 a0 13) : Int32).toNatClampNeg v1) fun μ2 =>
  ck (μ2.1 a0 13) 30 <|
  bd (setI μ2 (a0 + 12) ((μ2.1 a0 13) : Int32).toNatClampNeg v2) fun μ4 =>
  bd (setI μ4 a0 13 ((μ4.1 a0 13) + 1)) fun μ5 =>
  some ((μ4.1 a0 13), μ5)
/-! ### NameScopes.isName(I)Z -/
noncomputable def X3_isName (v0 : Int32) : Option Int32 :=
  some ((if v0 < 0 then (0 : Int32) else (if 26 ≤ v0 then (0 : Int32) else 1)))
/-! ### NameScopes$Facts.refusalOfDeclaration(II)I -/
noncomputable def X0_refusalOfDeclaration (a0 : Nat) (v1 : Int32) (v2 : Int32) (μ : Mm) : Option Int32 :=
  (X0_hasScope a0 v1 μ).bind fun q2 =>
  (if q2 = 0 then some 1 else ((X3_isName v2).bind fun q4 =>
  (if q4 = 0 then some 2 else ((X0_declares a0 v1 v2 μ).bind fun q6 =>
  (if q6 = 0 then some ((if (μ.1 a0 2) < 30 then (0 : Int32) else 3)) else some 2)))))
/-! ### NameScopes$Facts.refusalOfImport(IIZ)I -/
noncomputable def X0_refusalOfImport (a0 : Nat) (v1 : Int32) (v2 : Int32) (v3 : Int32) (μ : Mm) : Option Int32 :=
  (X0_hasScope a0 v1 μ).bind fun q2 =>
  (if q2 = 0 then some 1 else ((X0_hasScope a0 v2 μ).bind fun q4 =>
  (if q4 = 0 then some 1 else (if v1 = v2 then some 2 else (if v3 = 0 then some 2 else some ((if (μ.1 a0 6) < 20 then (0 : Int32) else 3)))))))
/-! ### NameScopes$Facts.refusalOfScope(I)I -/
noncomputable def X0_refusalOfScope (a0 : Nat) (v1 : Int32) (μ : Mm) : Option Int32 :=
  (X0_hasScope a0 v1 μ).bind fun q2 =>
  (if q2 = 0 then some 1 else some ((if (μ.1 a0 0) < 16 then (0 : Int32) else 3)))
/-! ### NameScopes$Facts.refusalOfUse(II)I -/
noncomputable def X0_refusalOfUse (a0 : Nat) (v1 : Int32) (v2 : Int32) (μ : Mm) : Option Int32 :=
  (X0_hasScope a0 v1 μ).bind fun q2 =>
  (if q2 = 0 then some 1 else ((X3_isName v2).bind fun q4 =>
  (if q4 = 0 then some 2 else some ((if (μ.1 a0 13) < 30 then (0 : Int32) else 3)))))
/-! ### NameScopes$Facts.reset()V -/
noncomputable def X0_reset (a0 : Nat) (μ : Mm) : Option Mm :=
  bd (setI μ a0 0 1) fun μ1 =>
  bd (setI μ1 a0 2 0) fun μ2 =>
  bd (setI μ2 a0 6 0) fun μ3 =>
  bd (setI μ3 a0 13 0) fun μ4 =>
  some μ4
/-! ### NameScopes$Facts.scopesThatOffer(I)I -/
noncomputable def X0_scopesThatOffer_l18 (a0 : Nat) (v1 : Int32) (μ : Mm) (k4 : Int32 → Int32 → Option Int32) (k18 : Int32 → Int32 → Int32 → Int32 → Option Int32) (v2 : Int32) (v3 : Int32) (v4 : Int32) (v5 : Int32) : Option Int32 :=
  (if 26 ≤ v5 then (bd ((v2 + ((v4 >>> (v1 &&& 31)) &&& 1)) : Int32) fun x1 =>
  k4 x1 (v3 + 1)) else (ck ((v3 * 26) + v5) 416 <|
  bd ((v4 ||| (μ.1 ((a0 + 14) + 1) (((v3 * 26) + v5) : Int32).toNatClampNeg)) : Int32) fun x3 =>
  k18 v2 v3 x3 (v5 + 1)))
noncomputable def X0_scopesThatOffer_l4 (a0 : Nat) (v1 : Int32) (μ : Mm) (k4 : Int32 → Int32 → Option Int32) (v2 : Int32) (v3 : Int32) : Option Int32 :=
  (if (μ.1 a0 0) ≤ v3 then some v2 else itr (X0_scopesThatOffer_l18 a0 v1 μ k4) (fun _ _ _ _ => none) big v2 v3 0 0)
noncomputable def X0_scopesThatOffer (a0 : Nat) (v1 : Int32) (μ : Mm) : Option Int32 :=
  itr (X0_scopesThatOffer_l4 a0 v1 μ) (fun _ _ => none) big 0 0
/-! ### NameScopes$Facts.scopesThatSee(I)I -/
noncomputable def X0_scopesThatSee_l4 (a0 : Nat) (v1 : Int32) (μ : Mm) (k4 : Int32 → Int32 → Option Int32) (v2 : Int32) (v3 : Int32) : Option Int32 :=
  (if (μ.1 a0 0) ≤ v3 then some v2 else (ck v1 30 <|
  (X0_firstLayer a0 v3 (μ.1 (a0 + 3) (v1 : Int32).toNatClampNeg) μ).bind fun q3 =>
  bd ((v2 + (if q3 = (1 <<< (v1 &&& 31)) then (1 : Int32) else 0)) : Int32) fun x4 =>
  k4 x4 (v3 + 1)))
noncomputable def X0_scopesThatSee (a0 : Nat) (v1 : Int32) (μ : Mm) : Option Int32 :=
  itr (X0_scopesThatSee_l4 a0 v1 μ) (fun _ _ => none) big 0 0
/-! ### NameScopes$Layers.clear()V -/
noncomputable def X1_clear (a0 : Nat) (μ : Mm) : Option Mm :=
  (J7_fill_53178 (a0 + 1) 0 μ).bind fun μ3 =>
  (J7_fill_53178 (a0 + 2) 0 μ3).bind fun μ6 =>
  (J7_fill_53178 (a0 + 3) 0 μ6).bind fun μ9 =>
  (J7_fill_53178 (a0 + 4) 0 μ9).bind fun μ12 =>
  (J7_fill_53178 (a0 + 5) 0 μ12).bind fun μ15 =>
  (J7_fill_53178 (a0 + 6) 0 μ15).bind fun μ18 =>
  some μ18
/-! ### NameScopes$Layers.placeDeclarations(LNameScopes$Facts;)V -/
noncomputable def X1_placeDeclarations_l2 (a0 : Nat) (a1 : Nat) (k2 : Int32 → Mm → Option Mm) (v2 : Int32) (μ : Mm) : Option Mm :=
  (if (μ.1 a1 2) ≤ v2 then some μ else (ck v2 30 <|
  bd ((μ.1 (a1 + 2) (v2 : Int32).toNatClampNeg) : Int32) fun x2 =>
  ck v2 30 <|
  bd ((μ.1 (a1 + 3) (v2 : Int32).toNatClampNeg) : Int32) fun x4 =>
  ck ((x2 * 26) + x4) 416 <|
  bd (setI μ (a0 + 2) (((x2 * 26) + x4) : Int32).toNatClampNeg (1 <<< (v2 &&& 31))) fun μ6 =>
  ck x2 16 <|
  ck x2 16 <|
  bd (setI μ6 (a0 + 6) (x2 : Int32).toNatClampNeg ((μ6.1 (a0 + 6) (x2 : Int32).toNatClampNeg) ||| (1 <<< (x4 &&& 31)))) fun μ9 =>
  ck v2 30 <|
  (if (μ9.1 (a1 + 4) (v2 : Int32).toNatClampNeg) = 0 then k2 (v2 + 1) μ9 else (ck ((x2 * 26) + x4) 416 <|
  bd (setI μ9 (a0 + 1) (((x2 * 26) + x4) : Int32).toNatClampNeg (1 <<< (v2 &&& 31))) fun μ12 =>
  ck x2 16 <|
  ck x2 16 <|
  bd (setI μ12 (a0 + 5) (x2 : Int32).toNatClampNeg ((μ12.1 (a0 + 5) (x2 : Int32).toNatClampNeg) ||| (1 <<< (x4 &&& 31)))) fun μ15 =>
  k2 (v2 + 1) μ15))))
noncomputable def X1_placeDeclarations (a0 : Nat) (a1 : Nat) (μ : Mm) : Option Mm :=
  itr (X1_placeDeclarations_l2 a0 a1) (fun _ _ => none) big 0 μ
/-! ### NameScopes$Layers.passOn(LNameScopes$Facts;I)Z -/
noncomputable def X1_passOn_j92 (a0 : Nat) (a1 : Nat) (v2 : Int32) (k60 : Int32 → Int32 → Int32 → Int32 → Int32 → Int32 → Mm → Option (Int32 × Mm)) (v3 : Int32) (v4 : Int32) (v5 : Int32) (v6 : Int32) (v7 : Int32) (v8 : Int32) (s0 : Int32) (μ : Mm) : Option (Int32 × Mm) :=
  (if ((v6 >>> (v8 &&& 31)) &&& 1) = 0 then k60 v3 v4 v5 v6 v7 (v8 + 1) μ else (ck v3 16 <|
  (if (((μ.1 (a0 + 6) (v3 : Int32).toNatClampNeg) >>> (s0 &&& 31)) &&& 1) = 0 then (bd (((v3 * 26) + s0) : Int32) fun x13 =>
  ck x13 416 <|
  bd ((μ.1 (a0 + 1) (x13 : Int32).toNatClampNeg) : Int32) fun x15 =>
  ck x13 416 <|
  ck ((v4 * 26) + v8) 416 <|
  ck x13 416 <|
  bd (setI μ (a0 + 1) (x13 : Int32).toNatClampNeg ((μ.1 (a0 + 1) (x13 : Int32).toNatClampNeg) ||| (μ.1 (a0 + 1) (((v4 * 26) + v8) : Int32).toNatClampNeg))) fun μ19 =>
  ck v3 16 <|
  ck v3 16 <|
  bd (setI μ19 (a0 + 5) (v3 : Int32).toNatClampNeg ((μ19.1 (a0 + 5) (v3 : Int32).toNatClampNeg) ||| (1 <<< (s0 &&& 31)))) fun μ22 =>
  ck x13 416 <|
  bd ((v7 ||| (if (μ22.1 (a0 + 1) (x13 : Int32).toNatClampNeg) = x15 then (0 : Int32) else 1)) : Int32) fun x24 =>
  k60 v3 v4 v5 v6 x24 (v8 + 1) μ22) else k60 v3 v4 v5 v6 v7 (v8 + 1) μ)))
noncomputable def X1_passOn_l60 (a0 : Nat) (a1 : Nat) (v2 : Int32) (k60 : Int32 → Int32 → Int32 → Int32 → Int32 → Int32 → Mm → Option (Int32 × Mm)) (v3 : Int32) (v4 : Int32) (v5 : Int32) (v6 : Int32) (v7 : Int32) (v8 : Int32) (μ : Mm) : Option (Int32 × Mm) :=
  (if 26 ≤ v8 then (rz v7 <|
  some (v7, μ)) else (if (v6 >>> (v8 &&& 31)) = 0 then (rz v7 <|
  some (v7, μ)) else (if v5 = (-1) then X1_passOn_j92 a0 a1 v2 k60 v3 v4 v5 v6 v7 v8 v8 μ else (ck v2 20 <|
  X1_passOn_j92 a0 a1 v2 k60 v3 v4 v5 v6 v7 v8 (μ.1 (a1 + 8) (v2 : Int32).toNatClampNeg) μ))))
noncomputable def X1_passOn (a0 : Nat) (a1 : Nat) (v2 : Int32) (μ : Mm) : Option (Int32 × Mm) :=
  ck v2 20 <|
  bd ((μ.1 (a1 + 5) (v2 : Int32).toNatClampNeg) : Int32) fun x2 =>
  ck v2 20 <|
  bd ((μ.1 (a1 + 6) (v2 : Int32).toNatClampNeg) : Int32) fun x4 =>
  ck v2 20 <|
  bd ((μ.1 (a1 + 7) (v2 : Int32).toNatClampNeg) : Int32) fun x6 =>
  ck x4 16 <|
  (if x6 = (-1) then (ck v2 20 <|
  bd (((μ.1 (a0 + 5) (x4 : Int32).toNatClampNeg) &&& ((μ.1 (a1 + 9) (v2 : Int32).toNatClampNeg) ^^^ (-1))) : Int32) fun x9 =>
  itr (X1_passOn_l60 a0 a1 v2) (fun _ _ _ _ _ _ _ => none) big x2 x4 x6 x9 0 0 μ) else (bd (((μ.1 (a0 + 5) (x4 : Int32).toNatClampNeg) &&& (1 <<< (x6 &&& 31))) : Int32) fun x26 =>
  itr (X1_passOn_l60 a0 a1 v2) (fun _ _ _ _ _ _ _ => none) big x2 x4 x6 x26 0 0 μ))
/-! ### NameScopes$Layers.passOnAll(LNameScopes$Facts;)V -/
noncomputable def X1_passOnAll_l22 (a0 : Nat) (a1 : Nat) (k5 : Int32 → Int32 → Mm → Option Mm) (k22 : Int32 → Int32 → Int32 → Int32 → Mm → Option Mm) (v2 : Int32) (v3 : Int32) (v4 : Int32) (v5 : Int32) (μ : Mm) : Option Mm :=
  (if (μ.1 a1 6) ≤ v5 then k5 v4 (v3 + 1) μ else (ck v5 20 <|
  bd ((if (((v2 ||| v4) >>> ((μ.1 (a1 + 6) (v5 : Int32).toNatClampNeg) &&& 31)) &&& 1) = 0 then (0 : Int32) else 1) : Int32) fun x2 =>
  (if x2 = 0 then k22 v2 v3 v4 (v5 + 1) μ else (ck v5 20 <|
  (if (μ.1 (a1 + 10) (v5 : Int32).toNatClampNeg) = 0 then k22 v2 v3 v4 (v5 + 1) μ else (bn (X1_passOn a0 a1 v5 μ) fun q5 μ6 =>
  (if q5 = 0 then k22 v2 v3 v4 (v5 + 1) μ6 else (ck v5 20 <|
  bd ((v4 ||| (1 <<< ((μ6.1 (a1 + 5) (v5 : Int32).toNatClampNeg) &&& 31))) : Int32) fun x8 =>
  k22 v2 v3 x8 (v5 + 1) μ6))))))))
noncomputable def X1_passOnAll_l5 (a0 : Nat) (a1 : Nat) (k5 : Int32 → Int32 → Mm → Option Mm) (v2 : Int32) (v3 : Int32) (μ : Mm) : Option Mm :=
  (if 12480 < v3 then some μ else (if v2 = 0 then some μ else itr (X1_passOnAll_l22 a0 a1 k5) (fun _ _ _ _ _ => none) big v2 v3 0 0 μ))
noncomputable def X1_passOnAll (a0 : Nat) (a1 : Nat) (μ : Mm) : Option Mm :=
  itr (X1_passOnAll_l5 a0 a1) (fun _ _ _ => none) big 65535 0 μ
/-! ### NameScopes$Layers.bringAll(LNameScopes$Facts;)V -/
noncomputable def X1_bringAll_l99 (a0 : Nat) (a1 : Nat) (k2 : Int32 → Mm → Option Mm) (k99 : Int32 → Int32 → Int32 → Int32 → Int32 → Mm → Option Mm) (v2 : Int32) (v3 : Int32) (v4 : Int32) (v5 : Int32) (v6 : Int32) (μ : Mm) : Option Mm :=
  (if 26 ≤ v6 then k2 (v2 + 1) μ else (if (v5 >>> (v6 &&& 31)) = 0 then k2 (v2 + 1) μ else (if ((v5 >>> (v6 &&& 31)) &&& 1) = 0 then k99 v2 v3 v4 v5 (v6 + 1) μ else (ck (v3 + v6) 416 <|
  ck (v4 + v6) 416 <|
  ck (v3 + v6) 416 <|
  bd (setI μ (a0 + 4) ((v3 + v6) : Int32).toNatClampNeg ((μ.1 (a0 + 4) ((v3 + v6) : Int32).toNatClampNeg) ||| (μ.1 (a0 + 1) ((v4 + v6) : Int32).toNatClampNeg))) fun μ13 =>
  k99 v2 v3 v4 v5 (v6 + 1) μ13))))
noncomputable def X1_bringAll_l2 (a0 : Nat) (a1 : Nat) (k2 : Int32 → Mm → Option Mm) (v2 : Int32) (μ : Mm) : Option Mm :=
  (if (μ.1 a1 6) ≤ v2 then some μ else (ck v2 20 <|
  bd (((μ.1 (a1 + 5) (v2 : Int32).toNatClampNeg) * 26) : Int32) fun x2 =>
  ck v2 20 <|
  bd (((μ.1 (a1 + 6) (v2 : Int32).toNatClampNeg) * 26) : Int32) fun x4 =>
  ck v2 20 <|
  (if (μ.1 (a1 + 7) (v2 : Int32).toNatClampNeg) = (-1) then (ck v2 20 <|
  ck (μ.1 (a1 + 6) (v2 : Int32).toNatClampNeg) 16 <|
  ck v2 20 <|
  bd (((μ.1 (a0 + 5) ((μ.1 (a1 + 6) (v2 : Int32).toNatClampNeg) : Int32).toNatClampNeg) &&& ((μ.1 (a1 + 9) (v2 : Int32).toNatClampNeg) ^^^ (-1))) : Int32) fun x9 =>
  itr (X1_bringAll_l99 a0 a1 k2) (fun _ _ _ _ _ _ => none) big v2 x2 x4 x9 0 μ) else (ck v2 20 <|
  ck (x2 + (μ.1 (a1 + 8) (v2 : Int32).toNatClampNeg)) 416 <|
  ck v2 20 <|
  ck (x4 + (μ.1 (a1 + 7) (v2 : Int32).toNatClampNeg)) 416 <|
  ck (x2 + (μ.1 (a1 + 8) (v2 : Int32).toNatClampNeg)) 416 <|
  bd (setI μ (a0 + 3) ((x2 + (μ.1 (a1 + 8) (v2 : Int32).toNatClampNeg)) : Int32).toNatClampNeg ((μ.1 (a0 + 3) ((x2 + (μ.1 (a1 + 8) (v2 : Int32).toNatClampNeg)) : Int32).toNatClampNeg) ||| (μ.1 (a0 + 1) ((x4 + (μ.1 (a1 + 7) (v2 : Int32).toNatClampNeg)) : Int32).toNatClampNeg))) fun μ19 =>
  k2 (v2 + 1) μ19))))
noncomputable def X1_bringAll (a0 : Nat) (a1 : Nat) (μ : Mm) : Option Mm :=
  itr (X1_bringAll_l2 a0 a1) (fun _ _ => none) big 0 μ
/-! ### NameScopes$Facts.settle()V -/
noncomputable def X0_settle (a0 : Nat) (μ : Mm) : Option Mm :=
  (J7_fill_53178 (a0 + 13) (-1) μ).bind fun μ3 =>
  (X1_clear (a0 + 14) μ3).bind fun μ6 =>
  (X1_placeDeclarations (a0 + 14) a0 μ6).bind fun μ9 =>
  (X1_passOnAll (a0 + 14) a0 μ9).bind fun μ12 =>
  (X1_bringAll (a0 + 14) a0 μ12).bind fun μ15 =>
  some μ15
/-! ### NameScopes$Facts.stateOfUse(I)I -/
noncomputable def X0_stateOfUse (a0 : Nat) (v1 : Int32) (μ : Mm) : Option Int32 :=
  (X0_outcome a0 v1 μ).bind fun q2 =>
  (J6_bitCount_0f7a4 q2).bind fun q4 =>
  (if 2 ≤ q4 then (ck v1 30 <|
  ck v1 30 <|
  (X0_placeOfLayer a0 (μ.1 (a0 + 11) (v1 : Int32).toNatClampNeg) (μ.1 (a0 + 12) (v1 : Int32).toNatClampNeg) 0 μ).bind fun q8 =>
  some ((if (q8 - q8 / 3 * 3) = 1 then (2 : Int32) else 3))) else some ((1 - q4)))
/-! ### NameScopes$Facts.unusedDeclarations()I -/
noncomputable def X0_unusedDeclarations_l4 (a0 : Nat) (μ : Mm) (k4 : Int32 → Int32 → Option Int32) (v1 : Int32) (v2 : Int32) : Option Int32 :=
  (if (μ.1 a0 13) ≤ v2 then ((J6_bitCount_0f7a4 v1).bind fun q2 =>
  some (((μ.1 a0 2) - q2))) else ((X0_outcome a0 v2 μ).bind fun q4 =>
  (J6_bitCount_0f7a4 q4).bind fun q6 =>
  bd ((v1 ||| (if q6 = 1 then (q4 : Int32) else 0)) : Int32) fun x7 =>
  k4 x7 (v2 + 1)))
noncomputable def X0_unusedDeclarations (a0 : Nat) (μ : Mm) : Option Int32 :=
  itr (X0_unusedDeclarations_l4 a0 μ) (fun _ _ => none) big 0 0
/-! ### NameScopes$Facts.usesInState(I)I -/
noncomputable def X0_usesInState_l4 (a0 : Nat) (v1 : Int32) (μ : Mm) (k4 : Int32 → Int32 → Option Int32) (v2 : Int32) (v3 : Int32) : Option Int32 :=
  (if (μ.1 a0 13) ≤ v3 then some v2 else ((X0_stateOfUse a0 v3 μ).bind fun q2 =>
  bd ((v2 + (if q2 = v1 then (1 : Int32) else 0)) : Int32) fun x3 =>
  k4 x3 (v3 + 1)))
noncomputable def X0_usesInState (a0 : Nat) (v1 : Int32) (μ : Mm) : Option Int32 :=
  itr (X0_usesInState_l4 a0 v1 μ) (fun _ _ => none) big 0 0
/-! ### NameScopes$Facts.usesResolvedTo(I)I -/
noncomputable def X0_usesResolvedTo_l4 (a0 : Nat) (v1 : Int32) (μ : Mm) (k4 : Int32 → Int32 → Option Int32) (v2 : Int32) (v3 : Int32) : Option Int32 :=
  (if (μ.1 a0 13) ≤ v3 then some v2 else ((X0_outcome a0 v3 μ).bind fun q2 =>
  bd ((v2 + (if q2 = (1 <<< (v1 &&& 31)) then (1 : Int32) else 0)) : Int32) fun x3 =>
  k4 x3 (v3 + 1)))
noncomputable def X0_usesResolvedTo (a0 : Nat) (v1 : Int32) (μ : Mm) : Option Int32 :=
  itr (X0_usesResolvedTo_l4 a0 v1 μ) (fun _ _ => none) big 0 0
/-! ### NameScopes$Facts.vainSingleImports()I -/
noncomputable def X0_vainSingleImports_j35 (a0 : Nat) (μ : Mm) (k4 : Int32 → Int32 → Option Int32) (v2 : Int32) (s0 : Int32) : Option Int32 :=
  bd ((s0 + 0) : Int32) fun x2 =>
  k4 x2 (v2 + 1)
noncomputable def X0_vainSingleImports_l4 (a0 : Nat) (μ : Mm) (k4 : Int32 → Int32 → Option Int32) (v1 : Int32) (v2 : Int32) : Option Int32 :=
  (if (μ.1 a0 6) ≤ v2 then some v1 else (ck v2 20 <|
  (if (μ.1 (a0 + 7) (v2 : Int32).toNatClampNeg) = (-1) then X0_vainSingleImports_j35 a0 μ k4 v2 v1 else ((X0_pairsBrought a0 v2 μ).bind fun q4 =>
  bd ((v1 + (if q4 = 0 then (1 : Int32) else 0)) : Int32) fun x5 =>
  k4 x5 (v2 + 1)))))
noncomputable def X0_vainSingleImports (a0 : Nat) (μ : Mm) : Option Int32 :=
  itr (X0_vainSingleImports_l4 a0 μ) (fun _ _ => none) big 0 0
/-! ### NameScopes$Text.afterScope(I)I -/
noncomputable def X2_afterScope (v0 : Int32) : Option Int32 :=
  (if v0 = 45 then some 3 else (if v0 = 46 then some 3 else (if v0 = 60 then some 5 else (if v0 = 63 then some 3 else (if v0 = 94 then some 4 else some 0)))))
/-! ### NameScopes$Text.after(II)I -/
noncomputable def X2_after (v0 : Int32) (v1 : Int32) : Option Int32 :=
  bd ((if v1 < 65 then (0 : Int32) else (if 80 < v1 then (0 : Int32) else 1)) : Int32) fun x1 =>
  bd ((if v1 < 97 then (0 : Int32) else (if 122 < v1 then (0 : Int32) else 1)) : Int32) fun x2 =>
  (if v0 = 1 then some ((if x1 = 0 then (0 : Int32) else 2)) else (if v0 = 2 then ((X2_afterScope v1).bind fun q6 =>
  some q6) else (if v0 = 3 then some ((if x2 = 0 then (0 : Int32) else 4)) else (if v0 = 4 then some ((if v1 = 44 then (1 : Int32) else 0)) else (if v0 = 5 then some ((if v1 = 60 then (6 : Int32) else (if x1 = 0 then (0 : Int32) else 7))) else (if v0 = 6 then some ((if x1 = 0 then (0 : Int32) else 7)) else (if v0 = 7 then some ((if v1 = 46 then (8 : Int32) else (if v1 = 47 then (10 : Int32) else (if v1 = 44 then (1 : Int32) else 0)))) else (if v0 = 8 then some ((if x2 = 0 then (0 : Int32) else 9)) else (if v0 = 9 then some ((if v1 = 61 then (3 : Int32) else (if v1 = 44 then (1 : Int32) else 0))) else (if v0 = 10 then some ((if x2 = 0 then (0 : Int32) else 11)) else (if v0 = 11 then some ((if x2 = 0 then ((if v1 = 44 then (1 : Int32) else 0) : Int32) else 11)) else some 0)))))))))))
/-! ### NameScopes$Text.codeAt(I)I -/
noncomputable def X2_codeAt_j21 (v1 : Int32) (μ : Mm) : Option Int32 :=
  some 0
noncomputable def X2_codeAt (v1 : Int32) (μ : Mm) : Option Int32 :=
  (if v1 < 0 then X2_codeAt_j21 v1 μ else (if (μ.1 1 1) ≤ v1 then X2_codeAt_j21 v1 μ else (ck v1 50 <|
  some ((μ.1 2 (v1 : Int32).toNatClampNeg)))))
/-! ### NameScopes$Text.exceptedFrom(I)I -/
noncomputable def X2_exceptedFrom_l4 (v1 : Int32) (μ : Mm) (k4 : Int32 → Int32 → Option Int32) (v2 : Int32) (v3 : Int32) : Option Int32 :=
  (if (μ.1 1 1) ≤ v3 then some v2 else ((X2_codeAt v3 μ).bind fun q2 =>
  (if q2 < 97 then some v2 else ((X2_codeAt v3 μ).bind fun q4 =>
  bd ((v2 ||| (1 <<< ((q4 - 97) &&& 31))) : Int32) fun x5 =>
  k4 x5 (v3 + 1)))))
noncomputable def X2_exceptedFrom (v1 : Int32) (μ : Mm) : Option Int32 :=
  itr (X2_exceptedFrom_l4 v1 μ) (fun _ _ => none) big 0 v1
/-! ### NameScopes$Text.firstWrong()I -/
noncomputable def X2_firstWrong_l4 (μ : Mm) (k4 : Int32 → Int32 → Option Int32) (v1 : Int32) (v2 : Int32) : Option Int32 :=
  (if (μ.1 1 1) ≤ v2 then some ((μ.1 1 1)) else (ck v2 50 <|
  (X2_after v1 (μ.1 2 (v2 : Int32).toNatClampNeg)).bind fun q3 =>
  (if q3 = 0 then some v2 else k4 q3 (v2 + 1))))
noncomputable def X2_firstWrong (μ : Mm) : Option Int32 :=
  itr (X2_firstWrong_l4 μ) (fun _ _ => none) big 1 0
/-! ### NameScopes$Text.isComplete()Z -/
noncomputable def X2_isComplete_l4 (μ : Mm) (k4 : Int32 → Int32 → Option Int32) (v1 : Int32) (v2 : Int32) : Option Int32 :=
  (if (μ.1 1 1) ≤ v2 then some ((if v1 = 4 then (1 : Int32) else (if v1 = 7 then (1 : Int32) else (if v1 = 9 then (1 : Int32) else (if v1 = 11 then (1 : Int32) else 0))))) else (ck v2 50 <|
  (X2_after v1 (μ.1 2 (v2 : Int32).toNatClampNeg)).bind fun q3 =>
  k4 q3 (v2 + 1)))
noncomputable def X2_isComplete (μ : Mm) : Option Int32 :=
  itr (X2_isComplete_l4 μ) (fun _ _ => none) big 1 0
/-! ### NameScopes$Text.put(I)I -/
noncomputable def X2_put (v1 : Int32) (μ : Mm) : Option (Int32 × Mm) :=
  (if 50 ≤ (μ.1 1 1) then some ((μ.1 1 1), μ) else (ck (μ.1 1 1) 50 <|
  bd (setI μ 2 ((μ.1 1 1) : Int32).toNatClampNeg v1) fun μ2 =>
  bd (setI μ2 1 1 ((μ2.1 1 1) + 1)) fun μ3 =>
  some ((μ3.1 1 1), μ3)))
/-! ### NameScopes$Text.putImportItem(LNameScopes$Facts;II)I -/
noncomputable def X2_putImportItem_j152 (a1 : Nat) (v2 : Int32) (v3 : Int32) (v4 : Int32) (v6 : Int32) (s0 : Int32) (μ : Mm) : Option (Int32 × Mm) :=
  bn (X0_putImport a1 v2 v6 (-1) (-1) s0 v4 μ) fun q15 μ16 =>
  some (0, μ16)
noncomputable def X2_putImportItem_j107 (a1 : Nat) (v2 : Int32) (v3 : Int32) (v4 : Int32) (v6 : Int32) (v8 : Int32) (s0 : Int32) (μ : Mm) : Option (Int32 × Mm) :=
  bn (X0_putImport a1 v2 v6 v8 s0 0 v4 μ) fun q25 μ26 =>
  some (0, μ26)
noncomputable def X2_putImportItem (a1 : Nat) (v2 : Int32) (v3 : Int32) (μ : Mm) : Option (Int32 × Mm) :=
  (X2_codeAt v3 μ).bind fun q2 =>
  bd ((if q2 = 60 then (1 : Int32) else 0) : Int32) fun x3 =>
  bd ((v3 + x3) : Int32) fun x4 =>
  (X2_codeAt x4 μ).bind fun q6 =>
  bd ((q6 - 65) : Int32) fun x7 =>
  (X0_refusalOfImport a1 v2 x7 1 μ).bind fun q9 =>
  (if q9 = 0 then ((X2_codeAt (x4 + 1) μ).bind fun q11 =>
  (if q11 = 46 then ((X2_codeAt (x4 + 2) μ).bind fun q20 =>
  bd ((q20 - 97) : Int32) fun x21 =>
  (X2_codeAt (x4 + 3) μ).bind fun q23 =>
  (if q23 = 61 then ((X2_codeAt (x4 + 4) μ).bind fun q28 =>
  X2_putImportItem_j107 a1 v2 v3 x3 x7 x21 (q28 - 97) μ) else X2_putImportItem_j107 a1 v2 v3 x3 x7 x21 x21 μ)) else ((X2_codeAt (x4 + 1) μ).bind fun q13 =>
  (if q13 = 47 then ((X2_exceptedFrom (x4 + 2) μ).bind fun q18 =>
  X2_putImportItem_j152 a1 v2 v3 x3 x7 q18 μ) else X2_putImportItem_j152 a1 v2 v3 x3 x7 0 μ)))) else some (q9, μ))
/-! ### NameScopes$Text.putItem(LNameScopes$Facts;I)I -/
noncomputable def X2_putItem_j86 (a1 : Nat) (v2 : Int32) (v3 : Int32) (v4 : Int32) (v5 : Int32) (s0 : Int32) (μ : Mm) : Option (Int32 × Mm) :=
  (if s0 = 0 then (if v4 = 94 then (bn (X0_putScope a1 v3 μ) fun q18 μ19 =>
  some (s0, μ19)) else (if v4 = 63 then (bn (X0_putUse a1 v3 v5 μ) fun q15 μ16 =>
  some (s0, μ16)) else (bn (X0_putDeclaration a1 v3 v5 (if v4 = 46 then (1 : Int32) else 0) μ) fun q12 μ13 =>
  some (s0, μ13)))) else some (s0, μ))
noncomputable def X2_putItem (a1 : Nat) (v2 : Int32) (μ : Mm) : Option (Int32 × Mm) :=
  (X2_codeAt v2 μ).bind fun q2 =>
  bd ((q2 - 65) : Int32) fun x3 =>
  (X2_codeAt (v2 + 1) μ).bind fun q5 =>
  (X2_codeAt (v2 + 2) μ).bind fun q7 =>
  bd ((q7 - 97) : Int32) fun x8 =>
  (if q5 = 60 then (bn (X2_putImportItem a1 x3 (v2 + 2) μ) fun q25 μ26 =>
  some (q25, μ26)) else (if q5 = 94 then ((X0_refusalOfScope a1 x3 μ).bind fun q23 =>
  X2_putItem_j86 a1 v2 x3 q5 x8 q23 μ) else (if q5 = 63 then ((X0_refusalOfUse a1 x3 x8 μ).bind fun q21 =>
  X2_putItem_j86 a1 v2 x3 q5 x8 q21 μ) else ((X0_refusalOfDeclaration a1 x3 x8 μ).bind fun q10 =>
  X2_putItem_j86 a1 v2 x3 q5 x8 q10 μ))))
/-! ### NameScopes$Text.putItems(LNameScopes$Facts;)I -/
noncomputable def X2_putItems_j37 (a1 : Nat) (k7 : Int32 → Int32 → Int32 → Mm → Option (Int32 × Mm)) (v2 : Int32) (v3 : Int32) (v4 : Int32) (μ : Mm) : Option (Int32 × Mm) :=
  bn (X2_putItem a1 v3 μ) fun q2 μ3 =>
  (if q2 = 0 then (bd ((v4 + 1) : Int32) fun x4 =>
  k7 (v2 + 1) x4 (v4 + 1) μ3) else some ((-1), μ3))
noncomputable def X2_putItems_l7 (a1 : Nat) (k7 : Int32 → Int32 → Int32 → Mm → Option (Int32 × Mm)) (v2 : Int32) (v3 : Int32) (v4 : Int32) (μ : Mm) : Option (Int32 × Mm) :=
  (if (μ.1 1 1) < v4 then some (v2, μ) else (if v4 = (μ.1 1 1) then X2_putItems_j37 a1 k7 v2 v3 v4 μ else (ck v4 50 <|
  (if (μ.1 2 (v4 : Int32).toNatClampNeg) = 44 then X2_putItems_j37 a1 k7 v2 v3 v4 μ else k7 v2 v3 (v4 + 1) μ))))
noncomputable def X2_putItems (a1 : Nat) (μ : Mm) : Option (Int32 × Mm) :=
  itr (X2_putItems_l7 a1) (fun _ _ _ _ => none) big 0 0 0 μ
/-! ### NameScopes.throwIfRefused(I)V -/
noncomputable def X3_throwIfRefused (v0 : Int32) : Option (String ⊕ Unit) :=
  (if v0 = 1 then some (.inl xI) else (if v0 = 2 then some (.inl xA) else (if v0 = 3 then some (.inl xS) else some (.inr ()))))
/-! ### NameScopes.addScope(I)I -/
noncomputable def X3_addScope (v1 : Int32) (μ : Mm) : Option ((String ⊕ Int32) × Mm) :=
  (X0_refusalOfScope (mNow μ) v1 μ).bind fun q3 =>
  (X3_throwIfRefused q3).bind fun y7 =>
  thr y7 (fun E6 => some (.inl E6, μ)) fun q5 =>
  bn (X0_putScope (mNow μ) v1 μ) fun q10 μ11 =>
  (X0_settle (mNow μ11) μ11).bind fun μ15 =>
  some (.inr q10, μ15)
/-! ### NameScopes.append(I)I -/
noncomputable def X3_append_j12 (v1 : Int32) (μ : Mm) : Option ((String ⊕ Int32) × Mm) :=
  some (.inl xA, μ)
noncomputable def X3_append (v1 : Int32) (μ : Mm) : Option ((String ⊕ Int32) × Mm) :=
  (if v1 < 33 then X3_append_j12 v1 μ else (if v1 ≤ 126 then (if (μ.1 1 1) < 50 then (bn (X2_put v1 μ) fun q2 μ3 =>
  some (.inr q2, μ3)) else some (.inl xS, μ)) else X3_append_j12 v1 μ))
/-! ### NameScopes.begin()I -/
noncomputable def X3_begin (μ : Mm) : Option (Int32 × Mm) :=
  bd ((μ.1 (mNow μ) 0) : Int32) fun x2 =>
  (X0_reset (mNow μ) μ).bind fun μ6 =>
  (X0_settle (mNow μ6) μ6).bind fun μ10 =>
  some (x2, μ10)
/-! ### NameScopes.needIndex(II)V -/
noncomputable def X3_needIndex_j9 (v0 : Int32) (v1 : Int32) : Option (String ⊕ Unit) :=
  some (.inl xI)
noncomputable def X3_needIndex (v0 : Int32) (v1 : Int32) : Option (String ⊕ Unit) :=
  (if v0 < 0 then X3_needIndex_j9 v0 v1 else (if v0 < v1 then some (.inr ()) else X3_needIndex_j9 v0 v1))
/-! ### NameScopes.needBelow(II)V -/
noncomputable def X3_needBelow_j9 (v0 : Int32) (v1 : Int32) : Option (String ⊕ Unit) :=
  some (.inl xA)
noncomputable def X3_needBelow (v0 : Int32) (v1 : Int32) : Option (String ⊕ Unit) :=
  (if v0 < 0 then X3_needBelow_j9 v0 v1 else (if v0 < v1 then some (.inr ()) else X3_needBelow_j9 v0 v1))
/-! ### NameScopes.nthOf(II)I -/
noncomputable def X3_nthOf_l4 (v0 : Int32) (v1 : Int32) (k4 : Int32 → Int32 → Option Int32) (v2 : Int32) (v3 : Int32) : Option Int32 :=
  (if 30 ≤ v3 then some (-1) else (if ((v0 >>> (v3 &&& 31)) &&& 1) = 0 then k4 v2 (v3 + 1) else (if v2 = v1 then some v3 else k4 (v2 + 1) (v3 + 1))))
noncomputable def X3_nthOf (v0 : Int32) (v1 : Int32) : Option Int32 :=
  itr (X3_nthOf_l4 v0 v1) (fun _ _ => none) big 0 0
/-! ### NameScopes.candidate(IIII)I -/
noncomputable def X3_candidate_j35 (v1 : Int32) (v2 : Int32) (v3 : Int32) (v4 : Int32) (μ : Mm) (s0 : Int32) : Option (String ⊕ Int32) :=
  (if s0 = (-1) then some (.inr (-1)) else ((X0_layerAt (mNow μ) v1 v2 s0 μ).bind fun q15 =>
  (X3_nthOf q15 v4).bind fun q17 =>
  some (.inr q17)))
noncomputable def X3_candidate (v1 : Int32) (v2 : Int32) (v3 : Int32) (v4 : Int32) (μ : Mm) : Option (String ⊕ Int32) :=
  (X3_needIndex v1 (μ.1 (mNow μ) 0)).bind fun y5 =>
  thr y5 (fun E4 => some (.inl E4)) fun q3 =>
  (X3_needBelow v2 26).bind fun y9 =>
  thr y9 (fun E8 => some (.inl E8)) fun q7 =>
  (if 0 ≤ v3 then ((X0_placeOfLayer (mNow μ) v1 v2 v3 μ).bind fun q12 =>
  X3_candidate_j35 v1 v2 v3 v4 μ q12) else X3_candidate_j35 v1 v2 v3 v4 μ (-1))
/-! ### NameScopes.clearBuffer()I -/
noncomputable def X3_clearBuffer (μ : Mm) : Option (Int32 × Mm) :=
  bd ((μ.1 1 1) : Int32) fun x1 =>
  bd (setI μ 1 1 0) fun μ2 =>
  some (x1, μ2)
/-! ### NameScopes.lossWithout(I)I -/
noncomputable def X3_lossWithout_j118 (v1 : Int32) (μ : Mm) : Option (Int32 × Mm) :=
  ck v1 20 <|
  some ((μ.1 ((mNow μ) + 13) (v1 : Int32).toNatClampNeg), μ)
noncomputable def X3_lossWithout_j108 (v1 : Int32) (v2 : Int32) (μ : Mm) : Option (Int32 × Mm) :=
  ck v1 20 <|
  bd (setI μ ((mNow μ) + 13) (v1 : Int32).toNatClampNeg v2) fun μ8 =>
  X3_lossWithout_j118 v1 μ8
noncomputable def X3_lossWithout_l64 (v1 : Int32) (k64 : Int32 → Int32 → Mm → Option (Int32 × Mm)) (v2 : Int32) (v3 : Int32) (μ : Mm) : Option (Int32 × Mm) :=
  (if (μ.1 (mNow μ) 13) ≤ v3 then X3_lossWithout_j108 v1 v2 μ else ((X0_outcome (mNow μ) v3 μ).bind fun q28 =>
  (X0_outcome (mOth μ) v3 μ).bind fun q31 =>
  bd ((v2 + (if q28 = q31 then (0 : Int32) else 1)) : Int32) fun x32 =>
  k64 x32 (v3 + 1) μ))
noncomputable def X3_lossWithout (v1 : Int32) (μ : Mm) : Option (Int32 × Mm) :=
  ck v1 20 <|
  (if (μ.1 ((mNow μ) + 13) (v1 : Int32).toNatClampNeg) = (-1) then (if (μ.1 (mNow μ) 13) ≤ 0 then X3_lossWithout_j108 v1 0 μ else ((X0_pairsBrought (mNow μ) v1 μ).bind fun q11 =>
  (if q11 ≤ 0 then X3_lossWithout_j108 v1 0 μ else ((X0_copyFrom (mOth μ) (mNow μ) μ).bind fun μ16 =>
  (X0_dropImport (mOth μ16) v1 μ16).bind fun μ20 =>
  (X0_settle (mOth μ20) μ20).bind fun μ24 =>
  itr (X3_lossWithout_l64 v1) (fun _ _ _ => none) big 0 0 μ24)))) else X3_lossWithout_j118 v1 μ)
/-! ### NameScopes.importsWithoutLoss()I -/
noncomputable def X3_importsWithoutLoss_l4 (k4 : Int32 → Int32 → Mm → Option (Int32 × Mm)) (v1 : Int32) (v2 : Int32) (μ : Mm) : Option (Int32 × Mm) :=
  (if (μ.1 (mNow μ) 6) ≤ v2 then some (v1, μ) else (bn (X3_lossWithout v2 μ) fun q3 μ4 =>
  bd ((v1 + (if q3 = 0 then (1 : Int32) else 0)) : Int32) fun x5 =>
  k4 x5 (v2 + 1) μ4))
noncomputable def X3_importsWithoutLoss (μ : Mm) : Option (Int32 × Mm) :=
  itr (X3_importsWithoutLoss_l4) (fun _ _ _ => none) big 0 0 μ
/-! ### NameScopes.count(I)I -/
noncomputable def X3_count (v1 : Int32) (μ : Mm) : Option ((String ⊕ Int32) × Mm) :=
  (X3_needBelow v1 11).bind fun y4 =>
  thr y4 (fun E3 => some (.inl E3, μ)) fun q2 =>
  (if v1 = 0 then some (.inr (μ.1 (mNow μ) 0), μ) else (if v1 = 1 then some (.inr (μ.1 (mNow μ) 2), μ) else (if v1 = 2 then some (.inr (μ.1 (mNow μ) 6), μ) else (if v1 = 3 then some (.inr (μ.1 (mNow μ) 13), μ) else (if v1 = 4 then ((X0_usesInState (mNow μ) 0 μ).bind fun q16 =>
  some (.inr q16, μ)) else (if v1 = 5 then ((X0_usesInState (mNow μ) 2 μ).bind fun q20 =>
  (X0_usesInState (mNow μ) 3 μ).bind fun q23 =>
  some (.inr (q20 + q23), μ)) else (if v1 = 6 then ((X0_unusedDeclarations (mNow μ) μ).bind fun q27 =>
  some (.inr q27, μ)) else (if v1 = 7 then (bn (X3_importsWithoutLoss μ) fun q30 μ31 =>
  some (.inr q30, μ31)) else (if v1 = 8 then ((X0_vainSingleImports (mNow μ) μ).bind fun q35 =>
  some (.inr q35, μ)) else (if v1 = 9 then ((X0_greatestDepth (mNow μ) μ).bind fun q39 =>
  some (.inr q39, μ)) else ((X0_pairsOffered (mNow μ) μ).bind fun q42 =>
  some (.inr q42, μ))))))))))))
/-! ### NameScopes.declaration(II)I -/
noncomputable def X3_declaration (v1 : Int32) (v2 : Int32) (μ : Mm) : Option (String ⊕ Int32) :=
  (X3_needIndex v1 (μ.1 (mNow μ) 2)).bind fun y5 =>
  thr y5 (fun E4 => some (.inl E4)) fun q3 =>
  (X3_needBelow v2 6).bind fun y9 =>
  thr y9 (fun E8 => some (.inl E8)) fun q7 =>
  (if v2 = 0 then (ck v1 30 <|
  some (.inr (μ.1 ((mNow μ) + 2) (v1 : Int32).toNatClampNeg))) else (if v2 = 1 then (ck v1 30 <|
  some (.inr (μ.1 ((mNow μ) + 3) (v1 : Int32).toNatClampNeg))) else (if v2 = 2 then (ck v1 30 <|
  some (.inr (μ.1 ((mNow μ) + 4) (v1 : Int32).toNatClampNeg))) else (if v2 = 3 then ((X0_usesResolvedTo (mNow μ) v1 μ).bind fun q22 =>
  some (.inr q22)) else (if v2 = 4 then ((X0_scopesThatOffer (mNow μ) v1 μ).bind fun q26 =>
  some (.inr q26)) else ((X0_scopesThatSee (mNow μ) v1 μ).bind fun q29 =>
  some (.inr q29)))))))
/-! ### NameScopes.declare(IIZ)I -/
noncomputable def X3_declare (v1 : Int32) (v2 : Int32) (v3 : Int32) (μ : Mm) : Option ((String ⊕ Int32) × Mm) :=
  (X0_refusalOfDeclaration (mNow μ) v1 v2 μ).bind fun q3 =>
  (X3_throwIfRefused q3).bind fun y7 =>
  thr y7 (fun E6 => some (.inl E6, μ)) fun q5 =>
  bn (X0_putDeclaration (mNow μ) v1 v2 (if v3 = 0 then (0 : Int32) else 1) μ) fun q10 μ11 =>
  (X0_settle (mNow μ11) μ11).bind fun μ15 =>
  some (.inr q10, μ15)
/-! ### NameScopes.parent(I)I -/
noncomputable def X3_parent (v1 : Int32) (μ : Mm) : Option (String ⊕ Int32) :=
  (X3_needIndex v1 (μ.1 (mNow μ) 0)).bind fun y5 =>
  thr y5 (fun E4 => some (.inl E4)) fun q3 =>
  ck v1 16 <|
  some (.inr (μ.1 ((mNow μ) + 1) (v1 : Int32).toNatClampNeg))
/-! ### NameScopes.visible(IZ)I -/
noncomputable def X3_visible_j57 (v1 : Int32) (v2 : Int32) (μ : Mm) (k16 : Int32 → Int32 → Option (String ⊕ Int32)) (v3 : Int32) (v4 : Int32) : Option (String ⊕ Int32) :=
  bd ((v3 ||| (1 <<< (v4 &&& 31))) : Int32) fun x11 =>
  k16 x11 (v4 + 1)
noncomputable def X3_visible_l16 (v1 : Int32) (v2 : Int32) (μ : Mm) (k16 : Int32 → Int32 → Option (String ⊕ Int32)) (v3 : Int32) (v4 : Int32) : Option (String ⊕ Int32) :=
  (if 26 ≤ v4 then some (.inr v3) else ((X0_firstLayer (mNow μ) v1 v4 μ).bind fun q8 =>
  (J6_bitCount_0f7a4 q8).bind fun q10 =>
  (if v2 = 0 then (if q10 = 1 then X3_visible_j57 v1 v2 μ k16 v3 v4 else k16 v3 (v4 + 1)) else (if q10 ≤ 1 then k16 v3 (v4 + 1) else X3_visible_j57 v1 v2 μ k16 v3 v4))))
noncomputable def X3_visible (v1 : Int32) (v2 : Int32) (μ : Mm) : Option (String ⊕ Int32) :=
  (X3_needIndex v1 (μ.1 (mNow μ) 0)).bind fun y5 =>
  thr y5 (fun E4 => some (.inl E4)) fun q3 =>
  itr (X3_visible_l16 v1 v2 μ) (fun _ _ => none) big 0 0
/-! ### NameScopes.imported(II)I -/
noncomputable def X3_imported (v1 : Int32) (v2 : Int32) (μ : Mm) : Option ((String ⊕ Int32) × Mm) :=
  (X3_needIndex v1 (μ.1 (mNow μ) 6)).bind fun y5 =>
  thr y5 (fun E4 => some (.inl E4, μ)) fun q3 =>
  (X3_needBelow v2 8).bind fun y9 =>
  thr y9 (fun E8 => some (.inl E8, μ)) fun q7 =>
  (if v2 = 0 then (ck v1 20 <|
  some (.inr (μ.1 ((mNow μ) + 5) (v1 : Int32).toNatClampNeg), μ)) else (if v2 = 1 then (ck v1 20 <|
  some (.inr (μ.1 ((mNow μ) + 6) (v1 : Int32).toNatClampNeg), μ)) else (if v2 = 2 then (ck v1 20 <|
  some (.inr (μ.1 ((mNow μ) + 7) (v1 : Int32).toNatClampNeg), μ)) else (if v2 = 3 then (ck v1 20 <|
  some (.inr (μ.1 ((mNow μ) + 8) (v1 : Int32).toNatClampNeg), μ)) else (if v2 = 4 then (ck v1 20 <|
  some (.inr (μ.1 ((mNow μ) + 9) (v1 : Int32).toNatClampNeg), μ)) else (if v2 = 5 then (ck v1 20 <|
  some (.inr (μ.1 ((mNow μ) + 10) (v1 : Int32).toNatClampNeg), μ)) else (if v2 = 6 then ((X0_pairsBrought (mNow μ) v1 μ).bind fun q31 =>
  some (.inr q31, μ)) else (bn (X3_lossWithout v1 μ) fun q33 μ34 =>
  some (.inr q33, μ34)))))))))
/-! ### NameScopes.onlyOne(I)I -/
noncomputable def X3_onlyOne (v0 : Int32) : Option Int32 :=
  (J6_bitCount_0f7a4 v0).bind fun q2 =>
  (if q2 = 1 then ((J6_bitCount_0f7a4 (v0 - 1)).bind fun q4 =>
  some q4) else some (-1))
/-! ### NameScopes.used(II)I -/
noncomputable def X3_used (v1 : Int32) (v2 : Int32) (μ : Mm) : Option (String ⊕ Int32) :=
  (X3_needIndex v1 (μ.1 (mNow μ) 13)).bind fun y5 =>
  thr y5 (fun E4 => some (.inl E4)) fun q3 =>
  (X3_needBelow v2 4).bind fun y9 =>
  thr y9 (fun E8 => some (.inl E8)) fun q7 =>
  (if v2 = 0 then (ck v1 30 <|
  some (.inr (μ.1 ((mNow μ) + 11) (v1 : Int32).toNatClampNeg))) else (if v2 = 1 then (ck v1 30 <|
  some (.inr (μ.1 ((mNow μ) + 12) (v1 : Int32).toNatClampNeg))) else (if v2 = 2 then ((X0_outcome (mNow μ) v1 μ).bind fun q19 =>
  (X3_onlyOne q19).bind fun q21 =>
  some (.inr q21)) else ((X0_stateOfUse (mNow μ) v1 μ).bind fun q24 =>
  some (.inr q24)))))
/-! ### NameScopes.digest()J -/
noncomputable def X3_digest_l256 (k256 : Int64 → Int32 → Mm → Option ((String ⊕ Int64) × Mm)) (v1 : Int64) (v3 : Int32) (μ : Mm) : Option ((String ⊕ Int64) × Mm) :=
  (if (μ.1 1 1) ≤ v3 then some (.inr v1, μ) else ((X2_codeAt v3 μ).bind fun q7 =>
  bd (((31 * v1) + (q7).toInt64) : Int64) fun x8 =>
  k256 x8 (v3 + 1) μ))
noncomputable def X3_digest_l206 (k192 : Int64 → Int32 → Mm → Option ((String ⊕ Int64) × Mm)) (k206 : Int64 → Int32 → Int32 → Mm → Option ((String ⊕ Int64) × Mm)) (v1 : Int64) (v3 : Int32) (v4 : Int32) (μ : Mm) : Option ((String ⊕ Int64) × Mm) :=
  (if 3 < v4 then k192 v1 (v3 + 1) μ else ((X3_used v3 v4 μ).bind fun y12 =>
  thr y12 (fun E11 => some (.inl E11, μ)) fun q10 =>
  bd (((31 * v1) + (q10).toInt64) : Int64) fun x13 =>
  k206 x13 v3 (v4 + 1) μ))
noncomputable def X3_digest_l192 (k192 : Int64 → Int32 → Mm → Option ((String ⊕ Int64) × Mm)) (v1 : Int64) (v3 : Int32) (μ : Mm) : Option ((String ⊕ Int64) × Mm) :=
  (if (μ.1 (mNow μ) 13) ≤ v3 then (bd (((31 * v1) + ((μ.1 1 1)).toInt64) : Int64) fun x5 =>
  itr (X3_digest_l256) (fun _ _ _ => none) big x5 0 μ) else itr (X3_digest_l206 k192) (fun _ _ _ _ => none) big v1 v3 0 μ)
noncomputable def X3_digest_l156 (k142 : Int64 → Int32 → Mm → Option ((String ⊕ Int64) × Mm)) (k156 : Int64 → Int32 → Int32 → Mm → Option ((String ⊕ Int64) × Mm)) (v1 : Int64) (v3 : Int32) (v4 : Int32) (μ : Mm) : Option ((String ⊕ Int64) × Mm) :=
  (if 7 < v4 then k142 v1 (v3 + 1) μ else (bn (X3_imported v3 v4 μ) fun y17 μ18 =>
  thr y17 (fun E16 => some (.inl E16, μ18)) fun q15 =>
  bd (((31 * v1) + (q15).toInt64) : Int64) fun x19 =>
  k156 x19 v3 (v4 + 1) μ18))
noncomputable def X3_digest_l142 (k142 : Int64 → Int32 → Mm → Option ((String ⊕ Int64) × Mm)) (v1 : Int64) (v3 : Int32) (μ : Mm) : Option ((String ⊕ Int64) × Mm) :=
  (if (μ.1 (mNow μ) 6) ≤ v3 then itr (X3_digest_l192) (fun _ _ _ => none) big v1 0 μ else itr (X3_digest_l156 k142) (fun _ _ _ _ => none) big v1 v3 0 μ)
noncomputable def X3_digest_l107 (k93 : Int64 → Int32 → Mm → Option ((String ⊕ Int64) × Mm)) (k107 : Int64 → Int32 → Int32 → Mm → Option ((String ⊕ Int64) × Mm)) (v1 : Int64) (v3 : Int32) (v4 : Int32) (μ : Mm) : Option ((String ⊕ Int64) × Mm) :=
  (if 5 < v4 then k93 v1 (v3 + 1) μ else ((X3_declaration v3 v4 μ).bind fun y23 =>
  thr y23 (fun E22 => some (.inl E22, μ)) fun q21 =>
  bd (((31 * v1) + (q21).toInt64) : Int64) fun x24 =>
  k107 x24 v3 (v4 + 1) μ))
noncomputable def X3_digest_l93 (k93 : Int64 → Int32 → Mm → Option ((String ⊕ Int64) × Mm)) (v1 : Int64) (v3 : Int32) (μ : Mm) : Option ((String ⊕ Int64) × Mm) :=
  (if (μ.1 (mNow μ) 2) ≤ v3 then itr (X3_digest_l142) (fun _ _ _ => none) big v1 0 μ else itr (X3_digest_l107 k93) (fun _ _ _ _ => none) big v1 v3 0 μ)
noncomputable def X3_digest_l33 (k33 : Int64 → Int32 → Mm → Option ((String ⊕ Int64) × Mm)) (v1 : Int64) (v3 : Int32) (μ : Mm) : Option ((String ⊕ Int64) × Mm) :=
  (if (μ.1 (mNow μ) 0) ≤ v3 then itr (X3_digest_l93) (fun _ _ _ => none) big v1 0 μ else ((X3_parent v3 μ).bind fun y28 =>
  thr y28 (fun E27 => some (.inl E27, μ)) fun q26 =>
  bd (((31 * v1) + (q26).toInt64) : Int64) fun x29 =>
  (X3_visible v3 0 μ).bind fun y33 =>
  thr y33 (fun E32 => some (.inl E32, μ)) fun q31 =>
  bd (((31 * x29) + (q31).toInt64) : Int64) fun x34 =>
  (X3_visible v3 1 μ).bind fun y38 =>
  thr y38 (fun E37 => some (.inl E37, μ)) fun q36 =>
  bd (((31 * x34) + (q36).toInt64) : Int64) fun x39 =>
  k33 x39 (v3 + 1) μ))
noncomputable def X3_digest_l6 (k6 : Int64 → Int32 → Mm → Option ((String ⊕ Int64) × Mm)) (v1 : Int64) (v3 : Int32) (μ : Mm) : Option ((String ⊕ Int64) × Mm) :=
  (if 10 < v3 then itr (X3_digest_l33) (fun _ _ _ => none) big v1 0 μ else (bn (X3_count v3 μ) fun y43 μ44 =>
  thr y43 (fun E42 => some (.inl E42, μ44)) fun q41 =>
  bd (((31 * v1) + (q41).toInt64) : Int64) fun x45 =>
  k6 x45 (v3 + 1) μ44))
noncomputable def X3_digest (μ : Mm) : Option ((String ⊕ Int64) × Mm) :=
  itr (X3_digest_l6) (fun _ _ _ => none) big 1997 0 μ
/-! ### NameScopes.exchange()V -/
noncomputable def X3_exchange (μ : Mm) : Option Mm :=
  bd (setNow μ (mOth μ)) fun μ3 =>
  bd (setOth μ3 (mNow μ)) fun μ4 =>
  some μ4
/-! ### NameScopes.firstChanged(IZ)I -/
noncomputable def X3_firstChanged_l2 (v1 : Int32) (v2 : Int32) (μ : Mm) (k2 : Int32 → Option Int32) (v3 : Int32) : Option Int32 :=
  (if (μ.1 (mNow μ) 13) ≤ v3 then some (-1) else ((X0_outcome (mNow μ) v3 μ).bind fun q4 =>
  bd ((if q4 = (1 <<< (v1 &&& 31)) then (1 : Int32) else 0) : Int32) fun x5 =>
  (if x5 = v2 then ((X0_outcome (mOth μ) v3 μ).bind fun q8 =>
  (if q4 = q8 then k2 (v3 + 1) else some v3)) else k2 (v3 + 1))))
noncomputable def X3_firstChanged (v1 : Int32) (v2 : Int32) (μ : Mm) : Option Int32 :=
  itr (X3_firstChanged_l2 v1 v2 μ) (fun _ => none) big 0
/-! ### NameScopes.firstError()I -/
noncomputable def X3_firstError (μ : Mm) : Option Int32 :=
  (X2_firstWrong μ).bind fun q2 =>
  some q2
/-! ### NameScopes.reasonAgainst(II)I -/
noncomputable def X3_reasonAgainst (v1 : Int32) (v2 : Int32) (μ : Mm) : Option (Int32 × Mm) :=
  ck v1 30 <|
  bd ((μ.1 ((mNow μ) + 2) (v1 : Int32).toNatClampNeg) : Int32) fun x3 =>
  ck ((x3 * 26) + v2) 416 <|
  (if (μ.1 (((mNow μ) + 14) + 2) (((x3 * 26) + v2) : Int32).toNatClampNeg) = 0 then ((X0_copyFrom (mOth μ) (mNow μ) μ).bind fun μ10 =>
  (X0_giveName (mOth μ10) v1 v2 (mNow μ10) μ10).bind fun μ15 =>
  (X0_settle (mOth μ15) μ15).bind fun μ19 =>
  (X3_firstChanged v1 1 μ19).bind fun q21 =>
  (if q21 = (-1) then ((X3_firstChanged v1 0 μ19).bind fun q23 =>
  some ((if q23 = (-1) then (0 : Int32) else 3), μ19)) else some (2, μ19))) else some (1, μ))
/-! ### NameScopes.freeName(I)I -/
noncomputable def X3_freeName_l13 (v1 : Int32) (k13 : Int32 → Mm → Option ((String ⊕ Int32) × Mm)) (v2 : Int32) (μ : Mm) : Option ((String ⊕ Int32) × Mm) :=
  (if 26 ≤ v2 then some (.inr (-1), μ) else (bn (X3_reasonAgainst v1 v2 μ) fun q7 μ8 =>
  (if q7 = 0 then some (.inr v2, μ8) else k13 (v2 + 1) μ8)))
noncomputable def X3_freeName (v1 : Int32) (μ : Mm) : Option ((String ⊕ Int32) × Mm) :=
  (X3_needIndex v1 (μ.1 (mNow μ) 2)).bind fun y5 =>
  thr y5 (fun E4 => some (.inl E4, μ)) fun q3 =>
  itr (X3_freeName_l13 v1) (fun _ _ => none) big 0 μ
/-! ### NameScopes.usesToRename(I)I -/
noncomputable def X3_usesToRename_l4 (v1 : Int32) (μ : Mm) (k4 : Int32 → Int32 → Option Int32) (v2 : Int32) (v3 : Int32) : Option Int32 :=
  (if (μ.1 (mNow μ) 13) ≤ v3 then some v2 else ((X0_followsRenaming (mNow μ) v3 v1 μ).bind fun q4 =>
  bd ((v2 + (if q4 = 0 then (0 : Int32) else 1)) : Int32) fun x5 =>
  k4 x5 (v3 + 1)))
noncomputable def X3_usesToRename (v1 : Int32) (μ : Mm) : Option Int32 :=
  itr (X3_usesToRename_l4 v1 μ) (fun _ _ => none) big 0 0
/-! ### NameScopes.ifRenamed(III)I -/
noncomputable def X3_ifRenamed_j60 (v1 : Int32) (v2 : Int32) (v3 : Int32) (v4 : Int32) (μ : Mm) : Option ((String ⊕ Int32) × Mm) :=
  (X3_firstChanged v1 (if v4 = 2 then (1 : Int32) else 0) μ).bind fun q18 =>
  some (.inr q18, μ)
noncomputable def X3_ifRenamed (v1 : Int32) (v2 : Int32) (v3 : Int32) (μ : Mm) : Option ((String ⊕ Int32) × Mm) :=
  (X3_needIndex v1 (μ.1 (mNow μ) 2)).bind fun y5 =>
  thr y5 (fun E4 => some (.inl E4, μ)) fun q3 =>
  (X3_needBelow v2 26).bind fun y9 =>
  thr y9 (fun E8 => some (.inl E8, μ)) fun q7 =>
  (X3_needBelow v3 3).bind fun y13 =>
  thr y13 (fun E12 => some (.inl E12, μ)) fun q11 =>
  (if v3 = 2 then ((X3_usesToRename v1 μ).bind fun q20 =>
  some (.inr q20, μ)) else (bn (X3_reasonAgainst v1 v2 μ) fun q15 μ16 =>
  (if v3 = 0 then some (.inr q15, μ16) else (if q15 = 2 then X3_ifRenamed_j60 v1 v2 v3 q15 μ16 else (if q15 = 3 then X3_ifRenamed_j60 v1 v2 v3 q15 μ16 else some (.inr (-1), μ16))))))
/-! ### NameScopes.importAll(IIIZ)I -/
noncomputable def X3_importAll (v1 : Int32) (v2 : Int32) (v3 : Int32) (v4 : Int32) (μ : Mm) : Option ((String ⊕ Int32) × Mm) :=
  (X0_refusalOfImport (mNow μ) v1 v2 (if v3 < 0 then (0 : Int32) else (if 67108864 ≤ v3 then (0 : Int32) else 1)) μ).bind fun q3 =>
  (X3_throwIfRefused q3).bind fun y7 =>
  thr y7 (fun E6 => some (.inl E6, μ)) fun q5 =>
  bn (X0_putImport (mNow μ) v1 v2 (-1) (-1) v3 (if v4 = 0 then (0 : Int32) else 1) μ) fun q10 μ11 =>
  (X0_settle (mNow μ11) μ11).bind fun μ15 =>
  some (.inr q10, μ15)
/-! ### NameScopes.importOne(IIIIZ)I -/
noncomputable def X3_importOne_j26 (v1 : Int32) (v2 : Int32) (v3 : Int32) (v4 : Int32) (v5 : Int32) (s0 : Int32) (s1 : Int32) (s2 : Int32) (s3 : Nat) (μ : Mm) : Option ((String ⊕ Int32) × Mm) :=
  (X0_refusalOfImport s3 s2 s1 s0 μ).bind fun q5 =>
  (X3_throwIfRefused q5).bind fun y9 =>
  thr y9 (fun E8 => some (.inl E8, μ)) fun q7 =>
  bn (X0_putImport (mNow μ) v1 v2 v3 v4 0 (if v5 = 0 then (0 : Int32) else 1) μ) fun q12 μ13 =>
  (X0_settle (mNow μ13) μ13).bind fun μ17 =>
  some (.inr q12, μ17)
noncomputable def X3_importOne_j25 (v1 : Int32) (v2 : Int32) (v3 : Int32) (v4 : Int32) (v5 : Int32) (s0 : Int32) (s1 : Int32) (s2 : Nat) (μ : Mm) : Option ((String ⊕ Int32) × Mm) :=
  X3_importOne_j26 v1 v2 v3 v4 v5 0 s0 s1 s2 μ
noncomputable def X3_importOne (v1 : Int32) (v2 : Int32) (v3 : Int32) (v4 : Int32) (v5 : Int32) (μ : Mm) : Option ((String ⊕ Int32) × Mm) :=
  (X3_isName v3).bind fun q3 =>
  (if q3 = 0 then X3_importOne_j25 v1 v2 v3 v4 v5 v2 v1 (mNow μ) μ else ((X3_isName v4).bind fun q19 =>
  (X0_refusalOfImport (mNow μ) v1 v2 (if q19 = 0 then (0 : Int32) else 1) μ).bind fun q21 =>
  (X3_throwIfRefused q21).bind fun y25 =>
  thr y25 (fun E24 => some (.inl E24, μ)) fun q23 =>
  bn (X0_putImport (mNow μ) v1 v2 v3 v4 0 (if v5 = 0 then (0 : Int32) else 1) μ) fun q28 μ29 =>
  (X0_settle (mNow μ29) μ29).bind fun μ33 =>
  some (.inr q28, μ33)))
/-! ### NameScopes.load()I -/
noncomputable def X3_load (μ : Mm) : Option ((String ⊕ Int32) × Mm) :=
  (X2_isComplete μ).bind fun q2 =>
  (if q2 = 0 then some (.inl xA, μ) else ((X0_copyFrom (mOth μ) (mNow μ) μ).bind fun μ7 =>
  bn (X2_putItems (mOth μ7) μ7) fun q10 μ11 =>
  (if q10 = (-1) then some (.inl xS, μ11) else ((X0_settle (mOth μ11) μ11).bind fun μ15 =>
  (X3_exchange μ15).bind fun μ18 =>
  bd (setI μ18 1 1 0) fun μ19 =>
  some (.inr q10, μ19)))))
/-! ### NameScopes.offers(II)I -/
noncomputable def X3_offers (v1 : Int32) (v2 : Int32) (μ : Mm) : Option (String ⊕ Int32) :=
  (X3_needIndex v1 (μ.1 (mNow μ) 0)).bind fun y5 =>
  thr y5 (fun E4 => some (.inl E4)) fun q3 =>
  (X3_needBelow v2 26).bind fun y9 =>
  thr y9 (fun E8 => some (.inl E8)) fun q7 =>
  ck ((v1 * 26) + v2) 416 <|
  (J6_bitCount_0f7a4 (μ.1 (((mNow μ) + 14) + 1) (((v1 * 26) + v2) : Int32).toNatClampNeg)).bind fun q13 =>
  some (.inr q13)
/-! ### NameScopes.removeDeclaration(I)I -/
noncomputable def X3_removeDeclaration_j111 (v1 : Int32) (k37 : Int32 → Int32 → Int32 → Mm → Option (Int32 × Mm)) (v3 : Int32) (v4 : Int32) (s0 : Int32) (μ : Mm) : Option (Int32 × Mm) :=
  bd ((s0 + 1) : Int32) fun x24 =>
  k37 x24 v3 (v4 + 1) μ
noncomputable def X3_removeDeclaration_l37 (v1 : Int32) (k37 : Int32 → Int32 → Int32 → Mm → Option (Int32 × Mm)) (v2 : Int32) (v3 : Int32) (v4 : Int32) (μ : Mm) : Option (Int32 × Mm) :=
  (if (μ.1 (mNow μ) 13) ≤ v4 then ((X3_exchange μ).bind fun μ18 =>
  some (v2, μ18)) else ((X0_outcome (mNow μ) v4 μ).bind fun q21 =>
  bd (((q21 &&& v3) ||| ((q21 >>> (1 &&& 31)) &&& (v3 ^^^ (-1)))) : Int32) fun x22 =>
  bd ((if ((q21 >>> (v1 &&& 31)) &&& 1) = 0 then (0 : Int32) else 1) : Int32) fun x23 =>
  (if x23 = 0 then ((X0_outcome (mOth μ) v4 μ).bind fun q27 =>
  bd ((v2 + (if x22 = q27 then (0 : Int32) else 1)) : Int32) fun x28 =>
  k37 x28 v3 (v4 + 1) μ) else X3_removeDeclaration_j111 v1 k37 v3 v4 v2 μ)))
noncomputable def X3_removeDeclaration (v1 : Int32) (μ : Mm) : Option (Int32 × Mm) :=
  (X0_copyFrom (mOth μ) (mNow μ) μ).bind fun μ5 =>
  (X0_dropDeclaration (mOth μ5) v1 μ5).bind fun μ9 =>
  (X0_settle (mOth μ9) μ9).bind fun μ13 =>
  bd (((1 <<< (v1 &&& 31)) - 1) : Int32) fun x14 =>
  itr (X3_removeDeclaration_l37 v1) (fun _ _ _ _ => none) big 0 x14 0 μ13
/-! ### NameScopes.removeImport(I)I -/
noncomputable def X3_removeImport (v1 : Int32) (μ : Mm) : Option (Int32 × Mm) :=
  bn (X3_lossWithout v1 μ) fun q2 μ3 =>
  (X0_dropImport (mNow μ3) v1 μ3).bind fun μ7 =>
  (X0_settle (mNow μ7) μ7).bind fun μ11 =>
  some (q2, μ11)
/-! ### NameScopes.remove(II)I -/
noncomputable def X3_remove_j42 (v1 : Int32) (v2 : Int32) (s0 : Int32) (s1 : Int32) (μ : Mm) : Option ((String ⊕ Int32) × Mm) :=
  (X3_needIndex s1 s0).bind fun y9 =>
  thr y9 (fun E8 => some (.inl E8, μ)) fun q7 =>
  (if v1 = 0 then (bn (X3_removeDeclaration v2 μ) fun q12 μ13 =>
  some (.inr q12, μ13)) else (if v1 = 1 then (bn (X3_removeImport v2 μ) fun q16 μ17 =>
  some (.inr q16, μ17)) else ((X0_dropUse (mNow μ) v2 μ).bind fun μ21 =>
  (X0_settle (mNow μ21) μ21).bind fun μ25 =>
  some (.inr 0, μ25))))
noncomputable def X3_remove (v1 : Int32) (v2 : Int32) (μ : Mm) : Option ((String ⊕ Int32) × Mm) :=
  (X3_needBelow v1 3).bind fun y4 =>
  thr y4 (fun E3 => some (.inl E3, μ)) fun q2 =>
  (if v1 = 0 then X3_remove_j42 v1 v2 (μ.1 (mNow μ) 2) v2 μ else (if v1 = 1 then X3_remove_j42 v1 v2 (μ.1 (mNow μ) 6) v2 μ else X3_remove_j42 v1 v2 (μ.1 (mNow μ) 13) v2 μ))
/-! ### NameScopes.rename(II)I -/
noncomputable def X3_rename (v1 : Int32) (v2 : Int32) (μ : Mm) : Option ((String ⊕ Int32) × Mm) :=
  (X3_needIndex v1 (μ.1 (mNow μ) 2)).bind fun y5 =>
  thr y5 (fun E4 => some (.inl E4, μ)) fun q3 =>
  (X3_needBelow v2 26).bind fun y9 =>
  thr y9 (fun E8 => some (.inl E8, μ)) fun q7 =>
  bn (X3_reasonAgainst v1 v2 μ) fun q11 μ12 =>
  (if q11 = 0 then ((X3_exchange μ12).bind fun μ15 =>
  some (.inr q11, μ15)) else some (.inr q11, μ12))
/-! ### NameScopes.resolve(III)I -/
noncomputable def X3_resolve (v1 : Int32) (v2 : Int32) (v3 : Int32) (μ : Mm) : Option (String ⊕ Int32) :=
  (X3_needIndex v1 (μ.1 (mNow μ) 0)).bind fun y5 =>
  thr y5 (fun E4 => some (.inl E4)) fun q3 =>
  (X3_needBelow v2 26).bind fun y9 =>
  thr y9 (fun E8 => some (.inl E8)) fun q7 =>
  (X3_needBelow v3 5).bind fun y13 =>
  thr y13 (fun E12 => some (.inl E12)) fun q11 =>
  (X0_placeOfLayer (mNow μ) v1 v2 0 μ).bind fun q16 =>
  (if v3 = 0 then ((X0_firstLayer (mNow μ) v1 v2 μ).bind fun q20 =>
  (X3_onlyOne q20).bind fun q22 =>
  some (.inr q22)) else (if v3 = 1 then ((X0_firstLayer (mNow μ) v1 v2 μ).bind fun q26 =>
  (J6_bitCount_0f7a4 q26).bind fun q28 =>
  some (.inr q28)) else (if v3 = 2 then some (.inr (if q16 = (-1) then ((-1) : Int32) else (q16 - q16 / 3 * 3))) else (if v3 = 3 then some (.inr (if q16 = (-1) then ((-1) : Int32) else (q16 / 3))) else ((X0_layersOf (mNow μ) v1 v2 μ).bind fun q33 =>
  some (.inr (if 0 < (q33 - 1) then (q33 - 1) else 0)))))))
/-! ### NameScopes.resolvedShare()D -/
noncomputable def X3_resolvedShare_j32 (μ : Mm) (s0 : UInt64) : Option UInt64 :=
  some s0
noncomputable def X3_resolvedShare (μ : Mm) : Option UInt64 :=
  (if (μ.1 (mNow μ) 13) = 0 then X3_resolvedShare_j32 μ FP.dconst1 else ((X0_usesInState (mNow μ) 0 μ).bind fun q4 =>
  nn (FP.ddiv (FP.i2d q4) (FP.i2d (μ.1 (mNow μ) 13))) <|
  X3_resolvedShare_j32 μ (FP.ddiv (FP.i2d q4) (FP.i2d (μ.1 (mNow μ) 13)))))
/-! ### NameScopes.use(II)I -/
noncomputable def X3_use (v1 : Int32) (v2 : Int32) (μ : Mm) : Option ((String ⊕ Int32) × Mm) :=
  (X0_refusalOfUse (mNow μ) v1 v2 μ).bind fun q3 =>
  (X3_throwIfRefused q3).bind fun y7 =>
  thr y7 (fun E6 => some (.inl E6, μ)) fun q5 =>
  bn (X0_putUse (mNow μ) v1 v2 μ) fun q10 μ11 =>
  (X0_settle (mNow μ11) μ11).bind fun μ15 =>
  some (.inr q10, μ15)
/-! ### NameScopesModel.addImport(IIIIIZ)I -/
noncomputable def X4_addImport (v1 : Int32) (v2 : Int32) (v3 : Int32) (v4 : Int32) (v5 : Int32) (v6 : Int32) (μ : Mm) : Option (Int32 × Mm) :=
  ck 2 290 <|
  bd ((110 + (6 * (μ.1 46 (2 : Int32).toNatClampNeg))) : Int32) fun x2 =>
  ck x2 290 <|
  bd (setI μ 46 (x2 : Int32).toNatClampNeg v1) fun μ4 =>
  ck (x2 + 1) 290 <|
  bd (setI μ4 46 ((x2 + 1) : Int32).toNatClampNeg v2) fun μ6 =>
  ck (x2 + 2) 290 <|
  bd (setI μ6 46 ((x2 + 2) : Int32).toNatClampNeg v3) fun μ8 =>
  ck (x2 + 3) 290 <|
  bd (setI μ8 46 ((x2 + 3) : Int32).toNatClampNeg v4) fun μ10 =>
  ck (x2 + 4) 290 <|
  bd (setI μ10 46 ((x2 + 4) : Int32).toNatClampNeg v5) fun μ12 =>
  ck (x2 + 5) 290 <|
  bd (setI μ12 46 ((x2 + 5) : Int32).toNatClampNeg (if v6 = 0 then (0 : Int32) else 1)) fun μ14 =>
  ck 2 290 <|
  ck 2 290 <|
  bd (setI μ14 46 (2 : Int32).toNatClampNeg ((μ14.1 46 (2 : Int32).toNatClampNeg) + 1)) fun μ17 =>
  bd (setI μ17 45 4 0) fun μ18 =>
  ck 2 290 <|
  some (((μ18.1 46 (2 : Int32).toNatClampNeg) - 1), μ18)
/-! ### NameScopesModel.within(III)Z -/
noncomputable def X4_within (v0 : Int32) (v1 : Int32) (v2 : Int32) : Option Int32 :=
  some ((if v0 < v1 then (0 : Int32) else (if v2 < v0 then (0 : Int32) else 1)))
/-! ### NameScopesModel.isScope(I)Z -/
noncomputable def X4_isScope (v1 : Int32) (μ : Mm) : Option Int32 :=
  ck 0 290 <|
  (X4_within v1 0 ((μ.1 46 (0 : Int32).toNatClampNeg) - 1)).bind fun q3 =>
  rz q3 <|
  some q3
/-! ### NameScopesModel.addScope(I)I -/
noncomputable def X4_addScope_j29 (v1 : Int32) (s0 : Int32) (μ : Mm) : Option (Int32 × Mm) :=
  bd (setI μ 45 0 s0) fun μ13 =>
  (if (μ13.1 45 0) ≤ 0 then (ck 0 290 <|
  ck (4 + (μ13.1 46 (0 : Int32).toNatClampNeg)) 290 <|
  bd (setI μ13 46 ((4 + (μ13.1 46 (0 : Int32).toNatClampNeg)) : Int32).toNatClampNeg v1) fun μ16 =>
  ck 0 290 <|
  ck 0 290 <|
  bd (setI μ16 46 (0 : Int32).toNatClampNeg ((μ16.1 46 (0 : Int32).toNatClampNeg) + 1)) fun μ19 =>
  bd (setI μ19 45 4 0) fun μ20 =>
  ck 0 290 <|
  some (((μ20.1 46 (0 : Int32).toNatClampNeg) - 1), μ20)) else some (0, μ13))
noncomputable def X4_addScope (v1 : Int32) (μ : Mm) : Option (Int32 × Mm) :=
  (X4_isScope v1 μ).bind fun q2 =>
  (if q2 = 0 then X4_addScope_j29 v1 1 μ else (ck 0 290 <|
  bd (setI μ 45 0 (if (μ.1 46 (0 : Int32).toNatClampNeg) = 16 then (2 : Int32) else 0)) fun μ4 =>
  (if (μ4.1 45 0) ≤ 0 then (ck 0 290 <|
  ck (4 + (μ4.1 46 (0 : Int32).toNatClampNeg)) 290 <|
  bd (setI μ4 46 ((4 + (μ4.1 46 (0 : Int32).toNatClampNeg)) : Int32).toNatClampNeg v1) fun μ7 =>
  ck 0 290 <|
  ck 0 290 <|
  bd (setI μ7 46 (0 : Int32).toNatClampNeg ((μ7.1 46 (0 : Int32).toNatClampNeg) + 1)) fun μ10 =>
  bd (setI μ10 45 4 0) fun μ11 =>
  ck 0 290 <|
  some (((μ11.1 46 (0 : Int32).toNatClampNeg) - 1), μ11)) else some (0, μ4))))
/-! ### NameScopesModel.of(II)I -/
noncomputable def X4_of (v1 : Int32) (v2 : Int32) (μ : Mm) : Option Int32 :=
  ck ((20 + (3 * v1)) + v2) 290 <|
  some ((μ.1 46 (((20 + (3 * v1)) + v2) : Int32).toNatClampNeg))
/-! ### NameScopesModel.at(II)I -/
noncomputable def X4_at (v1 : Int32) (v2 : Int32) (μ : Mm) : Option Int32 :=
  ck ((110 + (6 * v1)) + v2) 290 <|
  some ((μ.1 46 (((110 + (6 * v1)) + v2) : Int32).toNatClampNeg))
/-! ### NameScopesModel.declaredIn(II)I -/
noncomputable def X4_declaredIn_j43 (v1 : Int32) (v2 : Int32) (μ : Mm) (k5 : Int32 → Int32 → Option Int32) (v3 : Int32) (v4 : Int32) : Option Int32 :=
  k5 v3 (v4 + 1)
noncomputable def X4_declaredIn_l5 (v1 : Int32) (v2 : Int32) (μ : Mm) (k5 : Int32 → Int32 → Option Int32) (v3 : Int32) (v4 : Int32) : Option Int32 :=
  ck 1 290 <|
  (if (μ.1 46 (1 : Int32).toNatClampNeg) ≤ v4 then some v3 else ((X4_of v4 0 μ).bind fun q3 =>
  (if q3 = v1 then ((X4_of v4 1 μ).bind fun q5 =>
  bd ((if q5 = v2 then (v4 : Int32) else v3) : Int32) fun x6 =>
  k5 x6 (v4 + 1)) else X4_declaredIn_j43 v1 v2 μ k5 v3 v4)))
noncomputable def X4_declaredIn (v1 : Int32) (v2 : Int32) (μ : Mm) : Option Int32 :=
  itr (X4_declaredIn_l5 v1 v2 μ) (fun _ _ => none) big (-1) 0
/-! ### NameScopesModel.isSingle(I)Z -/
noncomputable def X4_isSingle (v1 : Int32) (μ : Mm) : Option Int32 :=
  (X4_at v1 2 μ).bind fun q2 =>
  some ((if q2 = (-1) then (0 : Int32) else 1))
/-! ### NameScopesModel.offer(II)I -/
noncomputable def X4_offer (v1 : Int32) (v2 : Int32) (μ : Mm) : Option Int32 :=
  ck ((26 * v1) + v2) 416 <|
  some ((μ.1 48 (((26 * v1) + v2) : Int32).toNatClampNeg))
/-! ### NameScopesModel.brought(II)I -/
noncomputable def X4_brought (v1 : Int32) (v2 : Int32) (μ : Mm) : Option Int32 :=
  (X4_isSingle v1 μ).bind fun q2 =>
  (if q2 = 0 then ((X4_at v1 4 μ).bind fun q4 =>
  (if ((q4 >>> (v2 &&& 31)) &&& 1) = 1 then some 0 else ((X4_at v1 1 μ).bind fun q6 =>
  (X4_offer q6 v2 μ).bind fun q8 =>
  some q8))) else ((X4_at v1 3 μ).bind fun q10 =>
  (if v2 = q10 then ((X4_at v1 1 μ).bind fun q12 =>
  (X4_at v1 2 μ).bind fun q14 =>
  (X4_offer q12 q14 μ).bind fun q16 =>
  some q16) else some 0)))
/-! ### NameScopesModel.passOn()Z -/
noncomputable def X4_passOn_j101 (k4 : Int32 → Int32 → Mm → Option (Int32 × Mm)) (k16 : Int32 → Int32 → Int32 → Mm → Option (Int32 × Mm)) (v2 : Int32) (v3 : Int32) (v4 : Int32) (v5 : Int32) (s0 : Int32) (μ : Mm) : Option (Int32 × Mm) :=
  ck v4 416 <|
  bd (setI μ 48 (v4 : Int32).toNatClampNeg v5) fun μ15 =>
  k16 s0 v2 (v3 + 1) μ15
noncomputable def X4_passOn_j96 (k4 : Int32 → Int32 → Mm → Option (Int32 × Mm)) (k16 : Int32 → Int32 → Int32 → Mm → Option (Int32 × Mm)) (v2 : Int32) (v3 : Int32) (v4 : Int32) (v5 : Int32) (μ : Mm) : Option (Int32 × Mm) :=
  X4_passOn_j101 k4 k16 v2 v3 v4 v5 1 μ
noncomputable def X4_passOn_j77 (k4 : Int32 → Int32 → Mm → Option (Int32 × Mm)) (k16 : Int32 → Int32 → Int32 → Mm → Option (Int32 × Mm)) (v1 : Int32) (v2 : Int32) (v3 : Int32) (v4 : Int32) (s0 : Int32) (s1 : Int32) (μ : Mm) : Option (Int32 × Mm) :=
  bd ((s1 ||| s0) : Int32) fun x13 =>
  (if v1 = 0 then (ck v4 416 <|
  bd ((if x13 = (μ.1 48 (v4 : Int32).toNatClampNeg) then (0 : Int32) else 1) : Int32) fun x17 =>
  ck v4 416 <|
  bd (setI μ 48 (v4 : Int32).toNatClampNeg x13) fun μ19 =>
  k16 x17 v2 (v3 + 1) μ19) else X4_passOn_j96 k4 k16 v2 v3 v4 x13 μ)
noncomputable def X4_passOn_l16 (k4 : Int32 → Int32 → Mm → Option (Int32 × Mm)) (k16 : Int32 → Int32 → Int32 → Mm → Option (Int32 × Mm)) (v1 : Int32) (v2 : Int32) (v3 : Int32) (μ : Mm) : Option (Int32 × Mm) :=
  (if 26 ≤ v3 then k4 v1 (v2 + 1) μ else ((X4_at v2 5 μ).bind fun q4 =>
  (if q4 = 1 then ((X4_at v2 0 μ).bind fun q6 =>
  bd (((26 * q6) + v3) : Int32) fun x7 =>
  ck x7 416 <|
  (X4_at v2 0 μ).bind fun q10 =>
  (X4_declaredIn q10 v3 μ).bind fun q12 =>
  (if q12 = (-1) then ((X4_brought v2 v3 μ).bind fun q21 =>
  X4_passOn_j77 k4 k16 v1 v2 v3 x7 q21 (μ.1 48 (x7 : Int32).toNatClampNeg) μ) else X4_passOn_j77 k4 k16 v1 v2 v3 x7 0 (μ.1 48 (x7 : Int32).toNatClampNeg) μ)) else k4 v1 (v2 + 1) μ)))
noncomputable def X4_passOn_l4 (k4 : Int32 → Int32 → Mm → Option (Int32 × Mm)) (v1 : Int32) (v2 : Int32) (μ : Mm) : Option (Int32 × Mm) :=
  ck 2 290 <|
  (if (μ.1 46 (2 : Int32).toNatClampNeg) ≤ v2 then (rz v1 <|
  some (v1, μ)) else itr (X4_passOn_l16 k4) (fun _ _ _ _ => none) big v1 v2 0 μ)
noncomputable def X4_passOn (μ : Mm) : Option (Int32 × Mm) :=
  itr (X4_passOn_l4) (fun _ _ _ => none) big 0 0 μ
/-! ### NameScopesModel.lay()V -/
noncomputable def X4_lay_l91 (k91 : Int32 → Mm → Option Mm) (v1 : Int32) (μ : Mm) : Option Mm :=
  (if v1 = 0 then (bd (setI μ 45 4 1) fun μ2 =>
  some μ2) else (bn (X4_passOn μ) fun q4 μ5 =>
  k91 q4 μ5))
noncomputable def X4_lay_l32 (k32 : Int32 → Mm → Option Mm) (v1 : Int32) (μ : Mm) : Option Mm :=
  ck 1 290 <|
  (if (μ.1 46 (1 : Int32).toNatClampNeg) ≤ v1 then itr (X4_lay_l91) (fun _ _ => none) big 1 μ else ((X4_of v1 0 μ).bind fun q7 =>
  (X4_of v1 1 μ).bind fun q9 =>
  ck ((26 * q7) + q9) 416 <|
  (X4_of v1 2 μ).bind fun q12 =>
  ck ((26 * q7) + q9) 416 <|
  bd (setI μ 48 (((26 * q7) + q9) : Int32).toNatClampNeg ((μ.1 48 (((26 * q7) + q9) : Int32).toNatClampNeg) ||| (if q12 = 1 then ((1 <<< (v1 &&& 31)) : Int32) else 0))) fun μ14 =>
  k32 (v1 + 1) μ14))
noncomputable def X4_lay_l10 (k10 : Int32 → Mm → Option Mm) (v1 : Int32) (μ : Mm) : Option Mm :=
  (if 416 ≤ v1 then itr (X4_lay_l32) (fun _ _ => none) big 0 μ else (ck v1 416 <|
  bd (setI μ 48 (v1 : Int32).toNatClampNeg 0) fun μ16 =>
  k10 (v1 + 1) μ16))
noncomputable def X4_lay (μ : Mm) : Option Mm :=
  (if (μ.1 45 4) = 0 then itr (X4_lay_l10) (fun _ _ => none) big 0 μ else some μ)
/-! ### NameScopesModel.bits(I)I -/
noncomputable def X4_bits_l4 (v0 : Int32) (k4 : Int32 → Int32 → Option Int32) (v1 : Int32) (v2 : Int32) : Option Int32 :=
  (if 30 ≤ v2 then some v1 else (bd ((v1 + ((v0 >>> (v2 &&& 31)) &&& 1)) : Int32) fun x1 =>
  k4 x1 (v2 + 1)))
noncomputable def X4_bits (v0 : Int32) : Option Int32 :=
  itr (X4_bits_l4 v0) (fun _ _ => none) big 0 0
/-! ### NameScopesModel.allPairs()I -/
noncomputable def X4_allPairs_l8 (k8 : Int32 → Int32 → Mm → Option (Int32 × Mm)) (v1 : Int32) (v2 : Int32) (μ : Mm) : Option (Int32 × Mm) :=
  (if 416 ≤ v2 then some (v1, μ) else (ck v2 416 <|
  (X4_bits (μ.1 48 (v2 : Int32).toNatClampNeg)).bind fun q6 =>
  bd ((v1 + q6) : Int32) fun x7 =>
  k8 x7 (v2 + 1) μ))
noncomputable def X4_allPairs (μ : Mm) : Option (Int32 × Mm) :=
  (X4_lay μ).bind fun μ3 =>
  itr (X4_allPairs_l8) (fun _ _ _ => none) big 0 0 μ3
/-! ### NameScopesModel.append(I)I -/
noncomputable def X4_append_j30 (v1 : Int32) (s0 : Int32) (μ : Mm) : Option (Int32 × Mm) :=
  bd (setI μ 45 0 s0) fun μ7 =>
  (if (μ7.1 45 0) ≤ 0 then (ck (μ7.1 45 5) 50 <|
  bd (setI μ7 49 ((μ7.1 45 5) : Int32).toNatClampNeg v1) fun μ9 =>
  bd (setI μ9 45 5 ((μ9.1 45 5) + 1)) fun μ10 =>
  some ((μ10.1 45 5), μ10)) else some (0, μ7))
noncomputable def X4_append (v1 : Int32) (μ : Mm) : Option (Int32 × Mm) :=
  (X4_within v1 33 126).bind fun q2 =>
  (if q2 = 0 then X4_append_j30 v1 1 μ else (bd (setI μ 45 0 (if (μ.1 45 5) = 50 then (2 : Int32) else 0)) fun μ3 =>
  (if (μ3.1 45 0) ≤ 0 then (ck (μ3.1 45 5) 50 <|
  bd (setI μ3 49 ((μ3.1 45 5) : Int32).toNatClampNeg v1) fun μ5 =>
  bd (setI μ5 45 5 ((μ5.1 45 5) + 1)) fun μ6 =>
  some ((μ6.1 45 5), μ6)) else some (0, μ3))))
/-! ### NameScopesModel.fresh()V -/
noncomputable def X4_fresh_l2 (k2 : Int32 → Mm → Option Mm) (v1 : Int32) (μ : Mm) : Option Mm :=
  (if 290 ≤ v1 then (ck 0 290 <|
  bd (setI μ 46 (0 : Int32).toNatClampNeg 1) fun μ2 =>
  ck 4 290 <|
  bd (setI μ2 46 (4 : Int32).toNatClampNeg (-1)) fun μ4 =>
  bd (setI μ4 45 4 0) fun μ5 =>
  some μ5) else (ck v1 290 <|
  bd (setI μ 46 (v1 : Int32).toNatClampNeg 0) fun μ7 =>
  k2 (v1 + 1) μ7))
noncomputable def X4_fresh (μ : Mm) : Option Mm :=
  itr (X4_fresh_l2) (fun _ _ => none) big 0 μ
/-! ### NameScopesModel.begin()I -/
noncomputable def X4_begin (μ : Mm) : Option (Int32 × Mm) :=
  bd (setI μ 45 0 0) fun μ1 =>
  ck 0 290 <|
  bd ((μ1.1 46 (0 : Int32).toNatClampNeg) : Int32) fun x3 =>
  (X4_fresh μ1).bind fun μ6 =>
  some (x3, μ6)
/-! ### NameScopesModel.canEnd()Z -/
noncomputable def X4_canEnd_j26 (μ : Mm) : Option Int32 :=
  some 1
noncomputable def X4_canEnd (μ : Mm) : Option Int32 :=
  (if (μ.1 45 12) = 5 then X4_canEnd_j26 μ else (if (μ.1 45 12) = 7 then X4_canEnd_j26 μ else some ((if (μ.1 45 12) < 10 then (0 : Int32) else 1))))
/-! ### NameScopesModel.isName(I)Z -/
noncomputable def X4_isName (v0 : Int32) : Option Int32 :=
  (X4_within v0 0 25).bind fun q2 =>
  rz q2 <|
  some q2
/-! ### NameScopesModel.layer(III)I -/
noncomputable def X4_layer_j79 (v1 : Int32) (v2 : Int32) (v3 : Int32) (μ : Mm) (k33 : Int32 → Int32 → Option Int32) (v4 : Int32) (v5 : Int32) (s0 : Int32) : Option Int32 :=
  (if s0 = 0 then (bd ((v4 ||| 0) : Int32) fun x4 =>
  k33 x4 (v5 + 1)) else ((X4_brought v5 v2 μ).bind fun q6 =>
  bd ((v4 ||| q6) : Int32) fun x7 =>
  k33 x7 (v5 + 1)))
noncomputable def X4_layer_j78 (v1 : Int32) (v2 : Int32) (v3 : Int32) (μ : Mm) (k33 : Int32 → Int32 → Option Int32) (v4 : Int32) (v5 : Int32) : Option Int32 :=
  X4_layer_j79 v1 v2 v3 μ k33 v4 v5 0
noncomputable def X4_layer_l33 (v1 : Int32) (v2 : Int32) (v3 : Int32) (μ : Mm) (k33 : Int32 → Int32 → Option Int32) (v4 : Int32) (v5 : Int32) : Option Int32 :=
  ck 2 290 <|
  (if (μ.1 46 (2 : Int32).toNatClampNeg) ≤ v5 then some v4 else ((X4_at v5 0 μ).bind fun q3 =>
  (if q3 = v1 then ((X4_isSingle v5 μ).bind fun q9 =>
  bd ((if q9 = (if v3 = 1 then (1 : Int32) else 0) then (1 : Int32) else 0) : Int32) fun x10 =>
  (if x10 = 0 then (bd ((v4 ||| 0) : Int32) fun x11 =>
  k33 x11 (v5 + 1)) else ((X4_brought v5 v2 μ).bind fun q13 =>
  bd ((v4 ||| q13) : Int32) fun x14 =>
  k33 x14 (v5 + 1)))) else X4_layer_j78 v1 v2 v3 μ k33 v4 v5)))
noncomputable def X4_layer (v1 : Int32) (v2 : Int32) (v3 : Int32) (μ : Mm) : Option Int32 :=
  (if v3 = 0 then ((X4_declaredIn v1 v2 μ).bind fun q16 =>
  some ((if q16 = (-1) then (0 : Int32) else (1 <<< (q16 &&& 31))))) else itr (X4_layer_l33 v1 v2 v3 μ) (fun _ _ => none) big 0 0)
/-! ### NameScopesModel.layLayers(II)V -/
noncomputable def X4_layLayers_l23 (v1 : Int32) (v2 : Int32) (k14 : Int32 → Int32 → Mm → Option Mm) (k23 : Int32 → Int32 → Int32 → Mm → Option Mm) (v3 : Int32) (v4 : Int32) (v5 : Int32) (μ : Mm) : Option Mm :=
  (if 3 ≤ v5 then (ck (4 + v4) 290 <|
  bd ((μ.1 46 ((4 + v4) : Int32).toNatClampNeg) : Int32) fun x6 =>
  k14 (v3 + 1) x6 μ) else ((X4_layer v4 v2 v5 μ).bind fun q8 =>
  ck (μ.1 45 7) 48 <|
  bd (setI μ 50 ((μ.1 45 7) : Int32).toNatClampNeg q8) fun μ10 =>
  ck (μ10.1 45 7) 48 <|
  bd (setI μ10 51 ((μ10.1 45 7) : Int32).toNatClampNeg v5) fun μ12 =>
  ck (μ12.1 45 7) 48 <|
  bd (setI μ12 52 ((μ12.1 45 7) : Int32).toNatClampNeg v3) fun μ14 =>
  bd (setI μ14 45 7 ((μ14.1 45 7) + (if q8 = 0 then (0 : Int32) else 1))) fun μ15 =>
  k23 v3 v4 (v5 + 1) μ15))
noncomputable def X4_layLayers_l14 (v1 : Int32) (v2 : Int32) (k14 : Int32 → Int32 → Mm → Option Mm) (v3 : Int32) (v4 : Int32) (μ : Mm) : Option Mm :=
  (if v4 = (-1) then some μ else itr (X4_layLayers_l23 v1 v2 k14) (fun _ _ _ _ => none) big v3 v4 0 μ)
noncomputable def X4_layLayers (v1 : Int32) (v2 : Int32) (μ : Mm) : Option Mm :=
  (X4_lay μ).bind fun μ3 =>
  bd (setI μ3 45 7 0) fun μ4 =>
  itr (X4_layLayers_l14 v1 v2) (fun _ _ _ => none) big 0 v1 μ4
/-! ### NameScopesModel.candidateOf(IIII)I -/
noncomputable def X4_candidateOf_l37 (v1 : Int32) (v2 : Int32) (v3 : Int32) (v4 : Int32) (k37 : Int32 → Int32 → Int32 → Mm → Option (Int32 × Mm)) (v5 : Int32) (v6 : Int32) (v7 : Int32) (μ : Mm) : Option (Int32 × Mm) :=
  ck 1 290 <|
  (if (μ.1 46 (1 : Int32).toNatClampNeg) ≤ v7 then some (v6, μ) else (ck v3 48 <|
  (if (((μ.1 50 (v3 : Int32).toNatClampNeg) >>> (v7 &&& 31)) &&& 1) = 1 then (bd ((if v5 = 0 then (v7 : Int32) else v6) : Int32) fun x8 =>
  k37 (v5 + (-1)) x8 (v7 + 1) μ) else k37 v5 v6 (v7 + 1) μ)))
noncomputable def X4_candidateOf (v1 : Int32) (v2 : Int32) (v3 : Int32) (v4 : Int32) (μ : Mm) : Option (Int32 × Mm) :=
  (X4_layLayers v1 v2 μ).bind fun μ3 =>
  (X4_within v3 0 ((μ3.1 45 7) - 1)).bind fun q5 =>
  (if q5 = 0 then some ((-1), μ3) else (if 0 ≤ v4 then itr (X4_candidateOf_l37 v1 v2 v3 v4) (fun _ _ _ _ => none) big v4 (-1) 0 μ3 else some ((-1), μ3)))
/-! ### NameScopesModel.candidate(IIII)I -/
noncomputable def X4_candidate_j25 (v1 : Int32) (v2 : Int32) (v3 : Int32) (v4 : Int32) (s0 : Int32) (μ : Mm) : Option (Int32 × Mm) :=
  bd (setI μ 45 0 s0) fun μ9 =>
  (if (μ9.1 45 0) ≤ 0 then (bn (X4_candidateOf v1 v2 v3 v4 μ9) fun q11 μ12 =>
  some (q11, μ12)) else some (0, μ9))
noncomputable def X4_candidate (v1 : Int32) (v2 : Int32) (v3 : Int32) (v4 : Int32) (μ : Mm) : Option (Int32 × Mm) :=
  (X4_isScope v1 μ).bind fun q2 =>
  (if q2 = 0 then X4_candidate_j25 v1 v2 v3 v4 1 μ else ((X4_isName v2).bind fun q4 =>
  bd (setI μ 45 0 (if q4 = 0 then (2 : Int32) else 0)) fun μ5 =>
  (if (μ5.1 45 0) ≤ 0 then (bn (X4_candidateOf v1 v2 v3 v4 μ5) fun q7 μ8 =>
  some (q7, μ8)) else some (0, μ5))))
/-! ### NameScopesModel.useName(I)I -/
noncomputable def X4_useName (v1 : Int32) (μ : Mm) : Option Int32 :=
  ck ((230 + (2 * v1)) + 1) 290 <|
  some ((μ.1 46 (((230 + (2 * v1)) + 1) : Int32).toNatClampNeg))
/-! ### NameScopesModel.changeNames(II)V -/
noncomputable def X4_changeNames_j258 (v1 : Int32) (v2 : Int32) (k188 : Int32 → Int32 → Mm → Option Mm) (v3 : Int32) (v4 : Int32) (s0 : Int32) (s1 : Int32) (s2 : Nat) (μ : Mm) : Option Mm :=
  ck s1 (alen s2) <|
  bd (setI μ s2 (s1 : Int32).toNatClampNeg s0) fun μ16 =>
  k188 v3 (v4 + 1) μ16
noncomputable def X4_changeNames_j227 (v1 : Int32) (v2 : Int32) (k188 : Int32 → Int32 → Mm → Option Mm) (v3 : Int32) (v4 : Int32) (s0 : Int32) (μ : Mm) : Option Mm :=
  (if s0 = 0 then ((X4_useName v4 μ).bind fun q14 =>
  X4_changeNames_j258 v1 v2 k188 v3 v4 q14 ((230 + (2 * v4)) + 1) 46 μ) else X4_changeNames_j258 v1 v2 k188 v3 v4 v2 ((230 + (2 * v4)) + 1) 46 μ)
noncomputable def X4_changeNames_j226 (v1 : Int32) (v2 : Int32) (k188 : Int32 → Int32 → Mm → Option Mm) (v3 : Int32) (v4 : Int32) (μ : Mm) : Option Mm :=
  X4_changeNames_j227 v1 v2 k188 v3 v4 0 μ
noncomputable def X4_changeNames_l188 (v1 : Int32) (v2 : Int32) (k188 : Int32 → Int32 → Mm → Option Mm) (v3 : Int32) (v4 : Int32) (μ : Mm) : Option Mm :=
  ck 3 290 <|
  (if (μ.1 46 (3 : Int32).toNatClampNeg) ≤ v4 then (ck ((20 + (3 * v1)) + 1) 290 <|
  bd (setI μ 46 (((20 + (3 * v1)) + 1) : Int32).toNatClampNeg v2) fun μ9 =>
  bd (setI μ9 45 4 0) fun μ10 =>
  some μ10) else ((X4_useName v4 μ).bind fun q12 =>
  (if q12 = v3 then (ck v4 30 <|
  bd ((if (μ.1 53 (v4 : Int32).toNatClampNeg) = (1 <<< (v1 &&& 31)) then (1 : Int32) else 0) : Int32) fun x18 =>
  (if x18 = 0 then ((X4_useName v4 μ).bind fun q20 =>
  X4_changeNames_j258 v1 v2 k188 v3 v4 q20 ((230 + (2 * v4)) + 1) 46 μ) else X4_changeNames_j258 v1 v2 k188 v3 v4 v2 ((230 + (2 * v4)) + 1) 46 μ)) else X4_changeNames_j226 v1 v2 k188 v3 v4 μ)))
noncomputable def X4_changeNames_j135 (v1 : Int32) (v2 : Int32) (k14 : Int32 → Int32 → Mm → Option Mm) (v3 : Int32) (v4 : Int32) (v5 : Int32) (v6 : Int32) (μ : Mm) : Option Mm :=
  (if v5 = 0 then k14 v3 (v4 + 1) μ else ((X4_isSingle v4 μ).bind fun q28 =>
  (if q28 = 0 then ((X4_at v4 4 μ).bind fun q30 =>
  (if ((q30 >>> (v3 &&& 31)) &&& 1) = 1 then (ck (v6 + 4) 290 <|
  ck (v6 + 4) 290 <|
  bd (setI μ 46 ((v6 + 4) : Int32).toNatClampNeg ((μ.1 46 ((v6 + 4) : Int32).toNatClampNeg) ||| (1 <<< (v2 &&& 31)))) fun μ33 =>
  k14 v3 (v4 + 1) μ33) else k14 v3 (v4 + 1) μ)) else k14 v3 (v4 + 1) μ)))
noncomputable def X4_changeNames_j131 (v1 : Int32) (v2 : Int32) (k14 : Int32 → Int32 → Mm → Option Mm) (v3 : Int32) (v4 : Int32) (s0 : Int32) (s1 : Int32) (s2 : Nat) (μ : Mm) : Option Mm :=
  ck s1 (alen s2) <|
  bd (setI μ s2 (s1 : Int32).toNatClampNeg s0) fun μ43 =>
  k14 v3 (v4 + 1) μ43
noncomputable def X4_changeNames_l14 (v1 : Int32) (v2 : Int32) (k14 : Int32 → Int32 → Mm → Option Mm) (v3 : Int32) (v4 : Int32) (μ : Mm) : Option Mm :=
  ck 2 290 <|
  (if (μ.1 46 (2 : Int32).toNatClampNeg) ≤ v4 then itr (X4_changeNames_l188 v1 v2) (fun _ _ _ => none) big v3 0 μ else ((X4_at v4 1 μ).bind fun q22 =>
  (X4_offer q22 v3 μ).bind fun q24 =>
  bd ((if ((q24 >>> (v1 &&& 31)) &&& 1) = 1 then (1 : Int32) else 0) : Int32) fun x25 =>
  bd ((110 + (6 * v4)) : Int32) fun x26 =>
  (if x25 = 0 then X4_changeNames_j135 v1 v2 k14 v3 v4 x25 x26 μ else ((X4_isSingle v4 μ).bind fun q35 =>
  (if q35 = 0 then X4_changeNames_j135 v1 v2 k14 v3 v4 x25 x26 μ else ((X4_at v4 2 μ).bind fun q37 =>
  (if q37 = v3 then (ck (x26 + 2) 290 <|
  bd (setI μ 46 ((x26 + 2) : Int32).toNatClampNeg v2) fun μ39 =>
  ck (x26 + 3) 290 <|
  (if (μ39.1 46 ((x26 + 3) : Int32).toNatClampNeg) = v3 then X4_changeNames_j131 v1 v2 k14 v3 v4 v2 (x26 + 3) 46 μ39 else (ck (x26 + 3) 290 <|
  X4_changeNames_j131 v1 v2 k14 v3 v4 (μ39.1 46 ((x26 + 3) : Int32).toNatClampNeg) (x26 + 3) 46 μ39))) else X4_changeNames_j135 v1 v2 k14 v3 v4 x25 x26 μ)))))))
noncomputable def X4_changeNames (v1 : Int32) (v2 : Int32) (μ : Mm) : Option Mm :=
  (X4_lay μ).bind fun μ3 =>
  (X4_of v1 1 μ3).bind fun q5 =>
  itr (X4_changeNames_l14 v1 v2) (fun _ _ _ => none) big q5 0 μ3
/-! ### NameScopesModel.clearBuffer()I -/
noncomputable def X4_clearBuffer (μ : Mm) : Option (Int32 × Mm) :=
  bd (setI μ 45 0 0) fun μ1 =>
  bd ((μ1.1 45 5) : Int32) fun x2 =>
  bd (setI μ1 45 5 0) fun μ3 =>
  some (x2, μ3)
/-! ### NameScopesModel.copy([I[I)V -/
noncomputable def X4_copy_l2 (a1 : Nat) (a2 : Nat) (k2 : Int32 → Mm → Option Mm) (v3 : Int32) (μ : Mm) : Option Mm :=
  (if 290 ≤ v3 then (bd (setI μ 45 4 0) fun μ1 =>
  some μ1) else (ck v3 (alen a1) <|
  ck v3 (alen a2) <|
  bd (setI μ a2 (v3 : Int32).toNatClampNeg (μ.1 a1 (v3 : Int32).toNatClampNeg)) fun μ4 =>
  k2 (v3 + 1) μ4))
noncomputable def X4_copy (a1 : Nat) (a2 : Nat) (μ : Mm) : Option Mm :=
  itr (X4_copy_l2 a1 a2) (fun _ _ => none) big 0 μ
/-! ### NameScopesModel.useScope(I)I -/
noncomputable def X4_useScope (v1 : Int32) (μ : Mm) : Option Int32 :=
  ck (230 + (2 * v1)) 290 <|
  some ((μ.1 46 ((230 + (2 * v1)) : Int32).toNatClampNeg))
/-! ### NameScopesModel.outcome(II)I -/
noncomputable def X4_outcome (v1 : Int32) (v2 : Int32) (μ : Mm) : Option (Int32 × Mm) :=
  (X4_layLayers v1 v2 μ).bind fun μ3 =>
  (if (μ3.1 45 7) = 0 then some (0, μ3) else (ck 0 48 <|
  some ((μ3.1 50 (0 : Int32).toNatClampNeg), μ3)))
/-! ### NameScopesModel.outcomeOf(I)I -/
noncomputable def X4_outcomeOf (v1 : Int32) (μ : Mm) : Option (Int32 × Mm) :=
  (X4_useScope v1 μ).bind fun q2 =>
  (X4_useName v1 μ).bind fun q4 =>
  bn (X4_outcome q2 q4 μ) fun q6 μ7 =>
  some (q6, μ7)
/-! ### NameScopesModel.usesWith(II)I -/
noncomputable def X4_usesWith_l5 (v1 : Int32) (v2 : Int32) (k5 : Int32 → Int32 → Mm → Option (Int32 × Mm)) (v3 : Int32) (v4 : Int32) (μ : Mm) : Option (Int32 × Mm) :=
  ck 3 290 <|
  (if (μ.1 46 (3 : Int32).toNatClampNeg) ≤ v4 then some (v3, μ) else (bn (X4_outcomeOf v4 μ) fun q3 μ4 =>
  (X4_bits q3).bind fun q6 =>
  (X4_within q6 v1 v2).bind fun q8 =>
  bd ((v3 + (if q8 = 0 then (0 : Int32) else 1)) : Int32) fun x9 =>
  k5 x9 (v4 + 1) μ4))
noncomputable def X4_usesWith (v1 : Int32) (v2 : Int32) (μ : Mm) : Option (Int32 × Mm) :=
  itr (X4_usesWith_l5 v1 v2) (fun _ _ _ => none) big 0 0 μ
/-! ### NameScopesModel.usesOf(I)I -/
noncomputable def X4_usesOf_l4 (v1 : Int32) (k4 : Int32 → Int32 → Mm → Option (Int32 × Mm)) (v2 : Int32) (v3 : Int32) (μ : Mm) : Option (Int32 × Mm) :=
  ck 3 290 <|
  (if (μ.1 46 (3 : Int32).toNatClampNeg) ≤ v3 then some (v2, μ) else (bn (X4_outcomeOf v3 μ) fun q3 μ4 =>
  bd ((v2 + (if q3 = (1 <<< (v1 &&& 31)) then (1 : Int32) else 0)) : Int32) fun x5 =>
  k4 x5 (v3 + 1) μ4))
noncomputable def X4_usesOf (v1 : Int32) (μ : Mm) : Option (Int32 × Mm) :=
  itr (X4_usesOf_l4 v1) (fun _ _ _ => none) big 0 0 μ
/-! ### NameScopesModel.unused()I -/
noncomputable def X4_unused_l4 (k4 : Int32 → Int32 → Mm → Option (Int32 × Mm)) (v1 : Int32) (v2 : Int32) (μ : Mm) : Option (Int32 × Mm) :=
  ck 1 290 <|
  (if (μ.1 46 (1 : Int32).toNatClampNeg) ≤ v2 then some (v1, μ) else (bn (X4_usesOf v2 μ) fun q3 μ4 =>
  bd ((v1 + (if q3 = 0 then (1 : Int32) else 0)) : Int32) fun x5 =>
  k4 x5 (v2 + 1) μ4))
noncomputable def X4_unused (μ : Mm) : Option (Int32 × Mm) :=
  itr (X4_unused_l4) (fun _ _ _ => none) big 0 0 μ
/-! ### NameScopesModel.pairsOf(I)I -/
noncomputable def X4_pairsOf_l8 (v1 : Int32) (k8 : Int32 → Int32 → Mm → Option (Int32 × Mm)) (v2 : Int32) (v3 : Int32) (μ : Mm) : Option (Int32 × Mm) :=
  (if 26 ≤ v3 then some (v2, μ) else ((X4_brought v1 v3 μ).bind fun q5 =>
  (X4_bits q5).bind fun q7 =>
  bd ((v2 + q7) : Int32) fun x8 =>
  k8 x8 (v3 + 1) μ))
noncomputable def X4_pairsOf (v1 : Int32) (μ : Mm) : Option (Int32 × Mm) :=
  (X4_lay μ).bind fun μ3 =>
  itr (X4_pairsOf_l8 v1) (fun _ _ _ => none) big 0 0 μ3
/-! ### NameScopesModel.layOutcomes()V -/
noncomputable def X4_layOutcomes_l2 (k2 : Int32 → Mm → Option Mm) (v1 : Int32) (μ : Mm) : Option Mm :=
  ck 3 290 <|
  (if (μ.1 46 (3 : Int32).toNatClampNeg) ≤ v1 then some μ else (bn (X4_outcomeOf v1 μ) fun q3 μ4 =>
  ck v1 30 <|
  bd (setI μ4 53 (v1 : Int32).toNatClampNeg q3) fun μ6 =>
  k2 (v1 + 1) μ6))
noncomputable def X4_layOutcomes (μ : Mm) : Option Mm :=
  itr (X4_layOutcomes_l2) (fun _ _ => none) big 0 μ
/-! ### NameScopesModel.cut(IIII)V -/
noncomputable def X4_cut_l18 (v1 : Int32) (v2 : Int32) (v3 : Int32) (v4 : Int32) (k18 : Int32 → Mm → Option Mm) (v5 : Int32) (μ : Mm) : Option Mm :=
  ck v4 290 <|
  (if (v1 + (v2 * (μ.1 46 (v4 : Int32).toNatClampNeg))) ≤ v5 then (bd (setI μ 45 4 0) fun μ6 =>
  some μ6) else (ck (v5 + v2) 290 <|
  ck v5 290 <|
  bd (setI μ 46 (v5 : Int32).toNatClampNeg (μ.1 46 ((v5 + v2) : Int32).toNatClampNeg)) fun μ9 =>
  k18 (v5 + 1) μ9))
noncomputable def X4_cut (v1 : Int32) (v2 : Int32) (v3 : Int32) (v4 : Int32) (μ : Mm) : Option Mm :=
  ck v4 290 <|
  ck v4 290 <|
  bd (setI μ 46 (v4 : Int32).toNatClampNeg ((μ.1 46 (v4 : Int32).toNatClampNeg) - 1)) fun μ3 =>
  bd ((v1 + (v2 * v3)) : Int32) fun x4 =>
  itr (X4_cut_l18 v1 v2 v3 v4) (fun _ _ => none) big x4 μ3
/-! ### NameScopesModel.otherOutcomes()I -/
noncomputable def X4_otherOutcomes_l4 (k4 : Int32 → Int32 → Mm → Option (Int32 × Mm)) (v1 : Int32) (v2 : Int32) (μ : Mm) : Option (Int32 × Mm) :=
  ck 3 290 <|
  (if (μ.1 46 (3 : Int32).toNatClampNeg) ≤ v2 then some (v1, μ) else (bn (X4_outcomeOf v2 μ) fun q3 μ4 =>
  ck v2 30 <|
  bd ((v1 + (if q3 = (μ4.1 53 (v2 : Int32).toNatClampNeg) then (0 : Int32) else 1)) : Int32) fun x6 =>
  k4 x6 (v2 + 1) μ4))
noncomputable def X4_otherOutcomes (μ : Mm) : Option (Int32 × Mm) :=
  itr (X4_otherOutcomes_l4) (fun _ _ _ => none) big 0 0 μ
/-! ### NameScopesModel.without(I)I -/
noncomputable def X4_without (v1 : Int32) (μ : Mm) : Option (Int32 × Mm) :=
  (X4_layOutcomes μ).bind fun μ3 =>
  (X4_copy 46 47 μ3).bind fun μ6 =>
  (X4_cut 110 6 v1 2 μ6).bind fun μ9 =>
  bn (X4_otherOutcomes μ9) fun q11 μ12 =>
  (X4_copy 47 46 μ12).bind fun μ15 =>
  some (q11, μ15)
/-! ### NameScopesModel.needless(Z)I -/
noncomputable def X4_needless_j50 (v1 : Int32) (k4 : Int32 → Int32 → Mm → Option (Int32 × Mm)) (v3 : Int32) (s0 : Int32) (μ : Mm) : Option (Int32 × Mm) :=
  bd ((s0 + 0) : Int32) fun x8 =>
  k4 x8 (v3 + 1) μ
noncomputable def X4_needless_l4 (v1 : Int32) (k4 : Int32 → Int32 → Mm → Option (Int32 × Mm)) (v2 : Int32) (v3 : Int32) (μ : Mm) : Option (Int32 × Mm) :=
  ck 2 290 <|
  (if (μ.1 46 (2 : Int32).toNatClampNeg) ≤ v3 then some (v2, μ) else (if v1 = 0 then (bn (X4_without v3 μ) fun q3 μ4 =>
  bd ((v2 + (if q3 = 0 then (1 : Int32) else 0)) : Int32) fun x5 =>
  k4 x5 (v3 + 1) μ4) else ((X4_isSingle v3 μ).bind fun q7 =>
  (if q7 = 0 then X4_needless_j50 v1 k4 v3 v2 μ else (bn (X4_pairsOf v3 μ) fun q10 μ11 =>
  bd ((v2 + (if q10 = 0 then (1 : Int32) else 0)) : Int32) fun x12 =>
  k4 x12 (v3 + 1) μ11)))))
noncomputable def X4_needless (v1 : Int32) (μ : Mm) : Option (Int32 × Mm) :=
  itr (X4_needless_l4 v1) (fun _ _ _ => none) big 0 0 μ
/-! ### NameScopesModel.depth(I)I -/
noncomputable def X4_depth_l4 (v1 : Int32) (μ : Mm) (k4 : Int32 → Int32 → Option Int32) (v2 : Int32) (v3 : Int32) : Option Int32 :=
  (if v3 ≤ 0 then some v2 else (ck (4 + v3) 290 <|
  bd ((μ.1 46 ((4 + v3) : Int32).toNatClampNeg) : Int32) fun x2 =>
  k4 (v2 + 1) x2))
noncomputable def X4_depth (v1 : Int32) (μ : Mm) : Option Int32 :=
  itr (X4_depth_l4 v1 μ) (fun _ _ => none) big 0 v1
/-! ### NameScopesModel.deepest()I -/
noncomputable def X4_deepest_l4 (μ : Mm) (k4 : Int32 → Int32 → Option Int32) (v1 : Int32) (v2 : Int32) : Option Int32 :=
  ck 0 290 <|
  (if (μ.1 46 (0 : Int32).toNatClampNeg) ≤ v2 then some v1 else ((X4_depth v2 μ).bind fun q3 =>
  (if q3 ≤ v1 then k4 v1 (v2 + 1) else ((X4_depth v2 μ).bind fun q5 =>
  k4 q5 (v2 + 1)))))
noncomputable def X4_deepest (μ : Mm) : Option Int32 :=
  itr (X4_deepest_l4 μ) (fun _ _ => none) big 0 0
/-! ### NameScopesModel.counted(I)I -/
noncomputable def X4_counted (v1 : Int32) (μ : Mm) : Option (Int32 × Mm) :=
  (if v1 = 4 then (bn (X4_usesWith 1 1 μ) fun q3 μ4 =>
  some (q3, μ4)) else (if v1 = 5 then (bn (X4_usesWith 2 30 μ) fun q7 μ8 =>
  some (q7, μ8)) else (if v1 = 6 then (bn (X4_unused μ) fun q11 μ12 =>
  some (q11, μ12)) else (if v1 = 7 then (bn (X4_needless 0 μ) fun q15 μ16 =>
  some (q15, μ16)) else (if v1 = 8 then (bn (X4_needless 1 μ) fun q19 μ20 =>
  some (q19, μ20)) else (if v1 = 9 then ((X4_deepest μ).bind fun q23 =>
  some (q23, μ)) else (if v1 = 10 then (bn (X4_allPairs μ) fun q26 μ27 =>
  some (q26, μ27)) else (ck v1 290 <|
  some ((μ.1 46 (v1 : Int32).toNatClampNeg), μ)))))))))
/-! ### NameScopesModel.count(I)I -/
noncomputable def X4_count (v1 : Int32) (μ : Mm) : Option (Int32 × Mm) :=
  (X4_within v1 0 10).bind fun q2 =>
  bd (setI μ 45 0 (if q2 = 0 then (1 : Int32) else 0)) fun μ3 =>
  (if (μ3.1 45 0) ≤ 0 then (bn (X4_counted v1 μ3) fun q5 μ6 =>
  some (q5, μ6)) else some (0, μ3))
/-! ### NameScopesModel.isDeclaration(I)Z -/
noncomputable def X4_isDeclaration (v1 : Int32) (μ : Mm) : Option Int32 :=
  ck 1 290 <|
  (X4_within v1 0 ((μ.1 46 (1 : Int32).toNatClampNeg) - 1)).bind fun q3 =>
  rz q3 <|
  some q3
/-! ### NameScopesModel.offering(I)I -/
noncomputable def X4_offering_l24 (v1 : Int32) (k8 : Int32 → Int32 → Mm → Option (Int32 × Mm)) (k24 : Int32 → Int32 → Int32 → Int32 → Mm → Option (Int32 × Mm)) (v2 : Int32) (v3 : Int32) (v4 : Int32) (v5 : Int32) (μ : Mm) : Option (Int32 × Mm) :=
  (if 26 ≤ v5 then (bd ((v2 + ((v4 >>> (v1 &&& 31)) &&& 1)) : Int32) fun x5 =>
  k8 x5 (v3 + 1) μ) else ((X4_offer v3 v5 μ).bind fun q7 =>
  bd ((v4 ||| q7) : Int32) fun x8 =>
  k24 v2 v3 x8 (v5 + 1) μ))
noncomputable def X4_offering_l8 (v1 : Int32) (k8 : Int32 → Int32 → Mm → Option (Int32 × Mm)) (v2 : Int32) (v3 : Int32) (μ : Mm) : Option (Int32 × Mm) :=
  ck 0 290 <|
  (if (μ.1 46 (0 : Int32).toNatClampNeg) ≤ v3 then some (v2, μ) else itr (X4_offering_l24 v1 k8) (fun _ _ _ _ _ => none) big v2 v3 0 0 μ)
noncomputable def X4_offering (v1 : Int32) (μ : Mm) : Option (Int32 × Mm) :=
  (X4_lay μ).bind fun μ3 =>
  itr (X4_offering_l8 v1) (fun _ _ _ => none) big 0 0 μ3
/-! ### NameScopesModel.reaching(I)I -/
noncomputable def X4_reaching_l4 (v1 : Int32) (k4 : Int32 → Int32 → Mm → Option (Int32 × Mm)) (v2 : Int32) (v3 : Int32) (μ : Mm) : Option (Int32 × Mm) :=
  ck 0 290 <|
  (if (μ.1 46 (0 : Int32).toNatClampNeg) ≤ v3 then some (v2, μ) else ((X4_of v1 1 μ).bind fun q3 =>
  bn (X4_outcome v3 q3 μ) fun q5 μ6 =>
  bd ((v2 + (if q5 = (1 <<< (v1 &&& 31)) then (1 : Int32) else 0)) : Int32) fun x7 =>
  k4 x7 (v3 + 1) μ6))
noncomputable def X4_reaching (v1 : Int32) (μ : Mm) : Option (Int32 × Mm) :=
  itr (X4_reaching_l4 v1) (fun _ _ _ => none) big 0 0 μ
/-! ### NameScopesModel.declarationNow(II)I -/
noncomputable def X4_declarationNow (v1 : Int32) (v2 : Int32) (μ : Mm) : Option (Int32 × Mm) :=
  (if 3 ≤ v2 then (if v2 = 3 then (bn (X4_usesOf v1 μ) fun q8 μ9 =>
  some (q8, μ9)) else (if v2 = 4 then (bn (X4_offering v1 μ) fun q5 μ6 =>
  some (q5, μ6)) else (bn (X4_reaching v1 μ) fun q2 μ3 =>
  some (q2, μ3)))) else ((X4_of v1 v2 μ).bind fun q11 =>
  some (q11, μ)))
/-! ### NameScopesModel.declaration(II)I -/
noncomputable def X4_declaration_j27 (v1 : Int32) (v2 : Int32) (s0 : Int32) (μ : Mm) : Option (Int32 × Mm) :=
  bd (setI μ 45 0 s0) fun μ9 =>
  (if (μ9.1 45 0) ≤ 0 then (bn (X4_declarationNow v1 v2 μ9) fun q11 μ12 =>
  some (q11, μ12)) else some (0, μ9))
noncomputable def X4_declaration (v1 : Int32) (v2 : Int32) (μ : Mm) : Option (Int32 × Mm) :=
  (X4_isDeclaration v1 μ).bind fun q2 =>
  (if q2 = 0 then X4_declaration_j27 v1 v2 1 μ else ((X4_within v2 0 5).bind fun q4 =>
  bd (setI μ 45 0 (if q4 = 0 then (2 : Int32) else 0)) fun μ5 =>
  (if (μ5.1 45 0) ≤ 0 then (bn (X4_declarationNow v1 v2 μ5) fun q7 μ8 =>
  some (q7, μ8)) else some (0, μ5))))
/-! ### NameScopesModel.declare(IIZ)I -/
noncomputable def X4_declare_j50 (v1 : Int32) (v2 : Int32) (v3 : Int32) (s0 : Int32) (μ : Mm) : Option (Int32 × Mm) :=
  bd (setI μ 45 0 s0) fun μ5 =>
  (if (μ5.1 45 0) ≤ 0 then (ck 1 290 <|
  bd ((μ5.1 46 (1 : Int32).toNatClampNeg) : Int32) fun x7 =>
  ck (20 + (3 * x7)) 290 <|
  bd (setI μ5 46 ((20 + (3 * x7)) : Int32).toNatClampNeg v1) fun μ9 =>
  ck ((20 + (3 * x7)) + 1) 290 <|
  bd (setI μ9 46 (((20 + (3 * x7)) + 1) : Int32).toNatClampNeg v2) fun μ11 =>
  ck ((20 + (3 * x7)) + 2) 290 <|
  bd (setI μ11 46 (((20 + (3 * x7)) + 2) : Int32).toNatClampNeg (if v3 = 0 then (0 : Int32) else 1)) fun μ13 =>
  ck 1 290 <|
  ck 1 290 <|
  bd (setI μ13 46 (1 : Int32).toNatClampNeg ((μ13.1 46 (1 : Int32).toNatClampNeg) + 1)) fun μ16 =>
  bd (setI μ16 45 4 0) fun μ17 =>
  some (x7, μ17)) else some (0, μ5))
noncomputable def X4_declare_j30 (v1 : Int32) (v2 : Int32) (v3 : Int32) (μ : Mm) : Option (Int32 × Mm) :=
  X4_declare_j50 v1 v2 v3 2 μ
noncomputable def X4_declare (v1 : Int32) (v2 : Int32) (v3 : Int32) (μ : Mm) : Option (Int32 × Mm) :=
  (X4_isScope v1 μ).bind fun q2 =>
  (if q2 = 0 then X4_declare_j50 v1 v2 v3 1 μ else ((X4_isName v2).bind fun q4 =>
  (if q4 = 0 then X4_declare_j30 v1 v2 v3 μ else ((X4_declaredIn v1 v2 μ).bind fun q19 =>
  (if q19 = (-1) then (ck 1 290 <|
  bd (setI μ 45 0 (if (μ.1 46 (1 : Int32).toNatClampNeg) = 30 then (3 : Int32) else 0)) fun μ21 =>
  (if (μ21.1 45 0) ≤ 0 then (ck 1 290 <|
  bd ((μ21.1 46 (1 : Int32).toNatClampNeg) : Int32) fun x23 =>
  ck (20 + (3 * x23)) 290 <|
  bd (setI μ21 46 ((20 + (3 * x23)) : Int32).toNatClampNeg v1) fun μ25 =>
  ck ((20 + (3 * x23)) + 1) 290 <|
  bd (setI μ25 46 (((20 + (3 * x23)) + 1) : Int32).toNatClampNeg v2) fun μ27 =>
  ck ((20 + (3 * x23)) + 2) 290 <|
  bd (setI μ27 46 (((20 + (3 * x23)) + 2) : Int32).toNatClampNeg (if v3 = 0 then (0 : Int32) else 1)) fun μ29 =>
  ck 1 290 <|
  ck 1 290 <|
  bd (setI μ29 46 (1 : Int32).toNatClampNeg ((μ29.1 46 (1 : Int32).toNatClampNeg) + 1)) fun μ32 =>
  bd (setI μ32 45 4 0) fun μ33 =>
  some (x23, μ33)) else some (0, μ21))) else X4_declare_j30 v1 v2 v3 μ)))))
/-! ### NameScopesModel.mix(J)V -/
noncomputable def X4_mix (v1 : Int64) (μ : Mm) : Option Mm :=
  bd (setH μ ((31 * (mH μ)) + v1)) fun μ1 =>
  some μ1
/-! ### NameScopesModel.seen(IZ)I -/
noncomputable def X4_seen_l5 (v1 : Int32) (v2 : Int32) (k5 : Int32 → Int32 → Mm → Option (Int32 × Mm)) (v3 : Int32) (v4 : Int32) (μ : Mm) : Option (Int32 × Mm) :=
  (if 26 ≤ v4 then some (v3, μ) else (bn (X4_outcome v1 v4 μ) fun q2 μ3 =>
  (X4_bits q2).bind fun q5 =>
  bd ((v3 ||| (if v2 = 0 then ((if q5 = 1 then ((1 <<< (v4 &&& 31)) : Int32) else 0) : Int32) else (if q5 ≤ 1 then (0 : Int32) else (1 <<< (v4 &&& 31))))) : Int32) fun x6 =>
  k5 x6 (v4 + 1) μ3))
noncomputable def X4_seen (v1 : Int32) (v2 : Int32) (μ : Mm) : Option (Int32 × Mm) :=
  itr (X4_seen_l5 v1 v2) (fun _ _ _ => none) big 0 0 μ
/-! ### NameScopesModel.importNow(II)I -/
noncomputable def X4_importNow (v1 : Int32) (v2 : Int32) (μ : Mm) : Option (Int32 × Mm) :=
  (if 6 ≤ v2 then (if v2 = 6 then (bn (X4_pairsOf v1 μ) fun q5 μ6 =>
  some (q5, μ6)) else (bn (X4_without v1 μ) fun q2 μ3 =>
  some (q2, μ3))) else ((X4_at v1 v2 μ).bind fun q8 =>
  some (q8, μ)))
/-! ### NameScopesModel.lowest(I)I -/
noncomputable def X4_lowest_l2 (v0 : Int32) (k2 : Int32 → Option Int32) (v1 : Int32) : Option Int32 :=
  (if ((v0 >>> (v1 &&& 31)) &&& 1) = 0 then k2 (v1 + 1) else some v1)
noncomputable def X4_lowest (v0 : Int32) : Option Int32 :=
  itr (X4_lowest_l2 v0) (fun _ => none) big 0
/-! ### NameScopesModel.only(I)I -/
noncomputable def X4_only (v0 : Int32) : Option Int32 :=
  (X4_bits v0).bind fun q2 =>
  (if q2 = 1 then ((X4_lowest v0).bind fun q4 =>
  some q4) else some (-1))
/-! ### NameScopesModel.useNow(II)I -/
noncomputable def X4_useNow (v1 : Int32) (v2 : Int32) (μ : Mm) : Option (Int32 × Mm) :=
  (if 2 ≤ v2 then (bn (X4_outcomeOf v1 μ) fun q2 μ3 =>
  (if v2 = 2 then ((X4_only q2).bind fun q8 =>
  some (q8, μ3)) else ((X4_bits q2).bind fun q5 =>
  (if q5 = 1 then some (0, μ3) else (if q2 = 0 then some (1, μ3) else (ck 0 48 <|
  some (((μ3.1 51 (0 : Int32).toNatClampNeg) + 1), μ3))))))) else (ck ((230 + (2 * v1)) + v2) 290 <|
  some ((μ.1 46 (((230 + (2 * v1)) + v2) : Int32).toNatClampNeg), μ)))
/-! ### NameScopesModel.mixParts()V -/
noncomputable def X4_mixParts_l78 (k78 : Int32 → Mm → Option Mm) (v1 : Int32) (μ : Mm) : Option Mm :=
  ck 3 290 <|
  (if (4 * (μ.1 46 (3 : Int32).toNatClampNeg)) ≤ v1 then some μ else (bn (X4_useNow (v1 / 4) (v1 - v1 / 4 * 4) μ) fun q5 μ6 =>
  (X4_mix (q5).toInt64 μ6).bind fun μ9 =>
  k78 (v1 + 1) μ9))
noncomputable def X4_mixParts_l40 (k40 : Int32 → Mm → Option Mm) (v1 : Int32) (μ : Mm) : Option Mm :=
  ck 2 290 <|
  (if (8 * (μ.1 46 (2 : Int32).toNatClampNeg)) ≤ v1 then itr (X4_mixParts_l78) (fun _ _ => none) big 0 μ else (bn (X4_importNow (v1 / 8) (v1 - v1 / 8 * 8) μ) fun q11 μ12 =>
  (X4_mix (q11).toInt64 μ12).bind fun μ15 =>
  k40 (v1 + 1) μ15))
noncomputable def X4_mixParts_l2 (k2 : Int32 → Mm → Option Mm) (v1 : Int32) (μ : Mm) : Option Mm :=
  ck 1 290 <|
  (if (6 * (μ.1 46 (1 : Int32).toNatClampNeg)) ≤ v1 then itr (X4_mixParts_l40) (fun _ _ => none) big 0 μ else (bn (X4_declarationNow (v1 / 6) (v1 - v1 / 6 * 6) μ) fun q17 μ18 =>
  (X4_mix (q17).toInt64 μ18).bind fun μ21 =>
  k2 (v1 + 1) μ21))
noncomputable def X4_mixParts (μ : Mm) : Option Mm :=
  itr (X4_mixParts_l2) (fun _ _ => none) big 0 μ
/-! ### NameScopesModel.digest()J -/
noncomputable def X4_digest_l104 (k104 : Int32 → Mm → Option (Int64 × Mm)) (v1 : Int32) (μ : Mm) : Option (Int64 × Mm) :=
  (if (μ.1 45 5) ≤ v1 then some ((mH μ), μ) else (ck v1 50 <|
  (X4_mix ((μ.1 49 (v1 : Int32).toNatClampNeg)).toInt64 μ).bind fun μ13 =>
  k104 (v1 + 1) μ13))
noncomputable def X4_digest_l38 (k38 : Int32 → Mm → Option (Int64 × Mm)) (v1 : Int32) (μ : Mm) : Option (Int64 × Mm) :=
  ck 0 290 <|
  (if (μ.1 46 (0 : Int32).toNatClampNeg) ≤ v1 then ((X4_mixParts μ).bind fun μ6 =>
  (X4_mix ((μ6.1 45 5)).toInt64 μ6).bind fun μ9 =>
  itr (X4_digest_l104) (fun _ _ => none) big 0 μ9) else (ck (4 + v1) 290 <|
  (X4_mix ((μ.1 46 ((4 + v1) : Int32).toNatClampNeg)).toInt64 μ).bind fun μ17 =>
  bn (X4_seen v1 0 μ17) fun q19 μ20 =>
  (X4_mix (q19).toInt64 μ20).bind fun μ23 =>
  bn (X4_seen v1 1 μ23) fun q25 μ26 =>
  (X4_mix (q25).toInt64 μ26).bind fun μ29 =>
  k38 (v1 + 1) μ29))
noncomputable def X4_digest_l14 (k14 : Int32 → Mm → Option (Int64 × Mm)) (v1 : Int32) (μ : Mm) : Option (Int64 × Mm) :=
  (if 11 ≤ v1 then itr (X4_digest_l38) (fun _ _ => none) big 0 μ else (bn (X4_counted v1 μ) fun q31 μ32 =>
  (X4_mix (q31).toInt64 μ32).bind fun μ35 =>
  k14 (v1 + 1) μ35))
noncomputable def X4_digest (μ : Mm) : Option (Int64 × Mm) :=
  bd (setI μ 45 0 0) fun μ1 =>
  bd (setH μ1 1997) fun μ2 =>
  itr (X4_digest_l14) (fun _ _ => none) big 0 μ2
/-! ### NameScopesModel.use(II)I -/
noncomputable def X4_use_j40 (v1 : Int32) (v2 : Int32) (s0 : Int32) (μ : Mm) : Option (Int32 × Mm) :=
  bd (setI μ 45 0 s0) fun μ17 =>
  (if (μ17.1 45 0) ≤ 0 then (ck 3 290 <|
  ck (230 + (2 * (μ17.1 46 (3 : Int32).toNatClampNeg))) 290 <|
  bd (setI μ17 46 ((230 + (2 * (μ17.1 46 (3 : Int32).toNatClampNeg))) : Int32).toNatClampNeg v1) fun μ20 =>
  ck 3 290 <|
  ck ((230 + (2 * (μ20.1 46 (3 : Int32).toNatClampNeg))) + 1) 290 <|
  bd (setI μ20 46 (((230 + (2 * (μ20.1 46 (3 : Int32).toNatClampNeg))) + 1) : Int32).toNatClampNeg v2) fun μ23 =>
  ck 3 290 <|
  ck 3 290 <|
  bd (setI μ23 46 (3 : Int32).toNatClampNeg ((μ23.1 46 (3 : Int32).toNatClampNeg) + 1)) fun μ26 =>
  ck 3 290 <|
  some (((μ26.1 46 (3 : Int32).toNatClampNeg) - 1), μ26)) else some (0, μ17))
noncomputable def X4_use (v1 : Int32) (v2 : Int32) (μ : Mm) : Option (Int32 × Mm) :=
  (X4_isScope v1 μ).bind fun q2 =>
  (if q2 = 0 then X4_use_j40 v1 v2 1 μ else ((X4_isName v2).bind fun q4 =>
  (if q4 = 0 then X4_use_j40 v1 v2 2 μ else (ck 3 290 <|
  bd (setI μ 45 0 (if (μ.1 46 (3 : Int32).toNatClampNeg) = 30 then (3 : Int32) else 0)) fun μ6 =>
  (if (μ6.1 45 0) ≤ 0 then (ck 3 290 <|
  ck (230 + (2 * (μ6.1 46 (3 : Int32).toNatClampNeg))) 290 <|
  bd (setI μ6 46 ((230 + (2 * (μ6.1 46 (3 : Int32).toNatClampNeg))) : Int32).toNatClampNeg v1) fun μ9 =>
  ck 3 290 <|
  ck ((230 + (2 * (μ9.1 46 (3 : Int32).toNatClampNeg))) + 1) 290 <|
  bd (setI μ9 46 (((230 + (2 * (μ9.1 46 (3 : Int32).toNatClampNeg))) + 1) : Int32).toNatClampNeg v2) fun μ12 =>
  ck 3 290 <|
  ck 3 290 <|
  bd (setI μ12 46 (3 : Int32).toNatClampNeg ((μ12.1 46 (3 : Int32).toNatClampNeg) + 1)) fun μ15 =>
  ck 3 290 <|
  some (((μ15.1 46 (3 : Int32).toNatClampNeg) - 1), μ15)) else some (0, μ6))))))
/-! ### NameScopesModel.wrongImport(IIZ)I -/
noncomputable def X4_wrongImport_j16 (v1 : Int32) (v2 : Int32) (v3 : Int32) (μ : Mm) : Option Int32 :=
  some 1
noncomputable def X4_wrongImport_j29 (v1 : Int32) (v2 : Int32) (v3 : Int32) (μ : Mm) : Option Int32 :=
  some 2
noncomputable def X4_wrongImport (v1 : Int32) (v2 : Int32) (v3 : Int32) (μ : Mm) : Option Int32 :=
  (X4_isScope v1 μ).bind fun q2 =>
  (if q2 = 0 then X4_wrongImport_j16 v1 v2 v3 μ else ((X4_isScope v2 μ).bind fun q4 =>
  (if q4 = 0 then X4_wrongImport_j16 v1 v2 v3 μ else (if v1 = v2 then X4_wrongImport_j29 v1 v2 v3 μ else (if v3 = 0 then X4_wrongImport_j29 v1 v2 v3 μ else (ck 2 290 <|
  some ((if (μ.1 46 (2 : Int32).toNatClampNeg) = 20 then (3 : Int32) else 0))))))))
/-! ### NameScopesModel.importOne(IIIIZ)I -/
noncomputable def X4_importOne_j24 (v1 : Int32) (v2 : Int32) (v3 : Int32) (v4 : Int32) (v5 : Int32) (s0 : Int32) (s1 : Int32) (s2 : Int32) (μ : Mm) : Option (Int32 × Mm) :=
  (X4_wrongImport s2 s1 s0 μ).bind fun q4 =>
  bd (setI μ 45 0 q4) fun μ5 =>
  (if (μ5.1 45 0) ≤ 0 then (bn (X4_addImport v1 v2 v3 v4 0 v5 μ5) fun q7 μ8 =>
  some (q7, μ8)) else some (0, μ5))
noncomputable def X4_importOne_j23 (v1 : Int32) (v2 : Int32) (v3 : Int32) (v4 : Int32) (v5 : Int32) (s0 : Int32) (s1 : Int32) (μ : Mm) : Option (Int32 × Mm) :=
  X4_importOne_j24 v1 v2 v3 v4 v5 0 s0 s1 μ
noncomputable def X4_importOne (v1 : Int32) (v2 : Int32) (v3 : Int32) (v4 : Int32) (v5 : Int32) (μ : Mm) : Option (Int32 × Mm) :=
  (X4_isName v3).bind fun q2 =>
  (if q2 = 0 then X4_importOne_j23 v1 v2 v3 v4 v5 v2 v1 μ else ((X4_isName v4).bind fun q10 =>
  (X4_wrongImport v1 v2 (if q10 = 0 then (0 : Int32) else 1) μ).bind fun q12 =>
  bd (setI μ 45 0 q12) fun μ13 =>
  (if (μ13.1 45 0) ≤ 0 then (bn (X4_addImport v1 v2 v3 v4 0 v5 μ13) fun q15 μ16 =>
  some (q15, μ16)) else some (0, μ13))))
/-! ### NameScopesModel.importAll(IIIZ)I -/
noncomputable def X4_importAll (v1 : Int32) (v2 : Int32) (v3 : Int32) (v4 : Int32) (μ : Mm) : Option (Int32 × Mm) :=
  (X4_within v3 0 67108863).bind fun q2 =>
  (X4_wrongImport v1 v2 q2 μ).bind fun q4 =>
  bd (setI μ 45 0 q4) fun μ5 =>
  (if (μ5.1 45 0) ≤ 0 then (bn (X4_addImport v1 v2 (-1) (-1) v3 v4 μ5) fun q7 μ8 =>
  some (q7, μ8)) else some (0, μ5))
/-! ### NameScopesModel.endItem()V -/
noncomputable def X4_endItem_j196 (μ : Mm) : Option Mm :=
  bd (setI μ 45 21 (if (μ.1 45 0) ≤ 0 then (0 : Int32) else 1)) fun μ6 =>
  some μ6
noncomputable def X4_endItem_j69 (μ : Mm) : Option Mm :=
  bn (X4_declare (μ.1 45 14) (μ.1 45 16) (if (μ.1 45 13) = 46 then (1 : Int32) else 0) μ) fun q4 μ5 =>
  X4_endItem_j196 μ5
noncomputable def X4_endItem_j164 (s0 : Int32) (s1 : Int32) (s2 : Int32) (s3 : Int32) (μ : Mm) : Option Mm :=
  bn (X4_importOne s3 s2 s1 s0 (μ.1 45 19) μ) fun q11 μ12 =>
  X4_endItem_j196 μ12
noncomputable def X4_endItem (μ : Mm) : Option Mm :=
  bd (setI μ 45 22 ((μ.1 45 22) + 1)) fun μ1 =>
  bd (setI μ1 45 12 0) fun μ2 =>
  (if (μ2.1 45 20) = 0 then some μ2 else (if (μ2.1 45 21) = 0 then (if (μ2.1 45 13) = 94 then (bn (X4_addScope (μ2.1 45 14) μ2) fun q17 μ18 =>
  X4_endItem_j196 μ18) else (if (μ2.1 45 13) = 46 then X4_endItem_j69 μ2 else (if (μ2.1 45 13) = 45 then X4_endItem_j69 μ2 else (if (μ2.1 45 13) = 63 then (bn (X4_use (μ2.1 45 14) (μ2.1 45 16) μ2) fun q14 μ15 =>
  X4_endItem_j196 μ15) else (if (μ2.1 45 16) = (-1) then (bn (X4_importAll (μ2.1 45 14) (μ2.1 45 15) (μ2.1 45 18) (μ2.1 45 19) μ2) fun q8 μ9 =>
  X4_endItem_j196 μ9) else (if (μ2.1 45 17) = (-1) then X4_endItem_j164 (μ2.1 45 16) (μ2.1 45 16) (μ2.1 45 15) (μ2.1 45 14) μ2 else X4_endItem_j164 (μ2.1 45 17) (μ2.1 45 16) (μ2.1 45 15) (μ2.1 45 14) μ2)))))) else some μ2))
/-! ### NameScopesModel.isScopeLetter(I)Z -/
noncomputable def X4_isScopeLetter (v0 : Int32) : Option Int32 :=
  (X4_within v0 65 80).bind fun q2 =>
  rz q2 <|
  some q2
/-! ### NameScopesModel.goes(ZI)Z -/
noncomputable def X4_goes_j13 (v1 : Int32) (v2 : Int32) (s0 : Int32) (μ : Mm) : Option (Int32 × Mm) :=
  bd (setI μ 45 12 s0) fun μ1 =>
  rz v1 <|
  some (v1, μ1)
noncomputable def X4_goes (v1 : Int32) (v2 : Int32) (μ : Mm) : Option (Int32 × Mm) :=
  (if v1 = 0 then X4_goes_j13 v1 v2 (μ.1 45 12) μ else X4_goes_j13 v1 v2 v2 μ)
/-! ### NameScopesModel.takesSign(I)Z -/
noncomputable def X4_takesSign (v1 : Int32) (μ : Mm) : Option (Int32 × Mm) :=
  bd ((if v1 = 94 then (1 : Int32) else (if v1 = 46 then (1 : Int32) else (if v1 = 45 then (1 : Int32) else (if v1 = 63 then (1 : Int32) else (if v1 = 60 then (1 : Int32) else 0))))) : Int32) fun x1 =>
  (if x1 = 0 then some (x1, μ) else (bd (setI μ 45 13 v1) fun μ2 =>
  bd (setI μ2 45 19 0) fun μ3 =>
  bd (setI μ3 45 16 (-1)) fun μ4 =>
  bd (setI μ4 45 17 (-1)) fun μ5 =>
  bd (setI μ5 45 18 0) fun μ6 =>
  bd (setI μ6 45 12 (if v1 = 94 then (11 : Int32) else (if v1 = 60 then (3 : Int32) else 2))) fun μ7 =>
  some (x1, μ7)))
/-! ### NameScopesModel.takesFrom(I)Z -/
noncomputable def X4_takesFrom_j45 (v1 : Int32) (s0 : Int32) (μ : Mm) : Option (Int32 × Mm) :=
  bd (setI μ 45 15 s0) fun μ3 =>
  (X4_isScopeLetter v1).bind fun q5 =>
  bn (X4_goes q5 5 μ3) fun q7 μ8 =>
  rz q7 <|
  some (q7, μ8)
noncomputable def X4_takesFrom_j26 (v1 : Int32) (μ : Mm) : Option (Int32 × Mm) :=
  (X4_isScopeLetter v1).bind fun q2 =>
  (if q2 = 0 then X4_takesFrom_j45 v1 (μ.1 45 15) μ else X4_takesFrom_j45 v1 (v1 - 65) μ)
noncomputable def X4_takesFrom (v1 : Int32) (μ : Mm) : Option (Int32 × Mm) :=
  (if (μ.1 45 12) = 3 then (if v1 = 60 then (bd (setI μ 45 19 1) fun μ10 =>
  bn (X4_goes 1 4 μ10) fun q12 μ13 =>
  rz q12 <|
  some (q12, μ13)) else X4_takesFrom_j26 v1 μ) else X4_takesFrom_j26 v1 μ)
/-! ### NameScopesModel.isNameLetter(I)Z -/
noncomputable def X4_isNameLetter (v0 : Int32) : Option Int32 :=
  (X4_within v0 97 122).bind fun q2 =>
  rz q2 <|
  some q2
/-! ### NameScopesModel.takesName(I)Z -/
noncomputable def X4_takesName_j104 (v1 : Int32) (s0 : Int32) (s1 : Int32) (μ : Mm) : Option (Int32 × Mm) :=
  bn (X4_goes s1 s0 μ) fun q8 μ9 =>
  rz q8 <|
  some (q8, μ9)
noncomputable def X4_takesName_j72 (v1 : Int32) (v2 : Int32) (μ : Mm) : Option (Int32 × Mm) :=
  (if (μ.1 45 12) = 6 then X4_takesName_j104 v1 7 v2 μ else (bn (X4_goes v2 (if (μ.1 45 12) < 9 then (11 : Int32) else 10) μ) fun q4 μ5 =>
  rz q4 <|
  some (q4, μ5)))
noncomputable def X4_takesName_j60 (v1 : Int32) (v2 : Int32) (μ : Mm) : Option (Int32 × Mm) :=
  (if v2 = 0 then X4_takesName_j72 v1 v2 μ else (bd (setI μ 45 16 (v1 - 97)) fun μ11 =>
  X4_takesName_j72 v1 v2 μ11))
noncomputable def X4_takesName_j29 (v1 : Int32) (v2 : Int32) (μ : Mm) : Option (Int32 × Mm) :=
  (if v2 = 0 then X4_takesName_j60 v1 v2 μ else (if (μ.1 45 12) < 9 then X4_takesName_j60 v1 v2 μ else (bd (setI μ 45 18 ((μ.1 45 18) ||| (1 <<< ((v1 - 97) &&& 31)))) fun μ12 =>
  X4_takesName_j72 v1 v2 μ12)))
noncomputable def X4_takesName (v1 : Int32) (μ : Mm) : Option (Int32 × Mm) :=
  (X4_isNameLetter v1).bind fun q2 =>
  (if q2 = 0 then X4_takesName_j29 v1 q2 μ else (if (μ.1 45 12) = 8 then (bd (setI μ 45 17 (v1 - 97)) fun μ13 =>
  X4_takesName_j72 v1 q2 μ13) else X4_takesName_j29 v1 q2 μ))
/-! ### NameScopesModel.takes(I)Z -/
noncomputable def X4_takes_j103 (v1 : Int32) (s0 : Int32) (μ : Mm) : Option (Int32 × Mm) :=
  bd (setI μ 45 14 s0) fun μ4 =>
  (X4_isScopeLetter v1).bind fun q6 =>
  bn (X4_goes q6 1 μ4) fun q8 μ9 =>
  rz q8 <|
  some (q8, μ9)
noncomputable def X4_takes_j168 (v1 : Int32) (μ : Mm) : Option (Int32 × Mm) :=
  some (1, μ)
noncomputable def X4_takes_j19 (v1 : Int32) (μ : Mm) : Option (Int32 × Mm) :=
  (if (μ.1 45 12) = 0 then ((X4_isScopeLetter v1).bind fun q3 =>
  (if q3 = 0 then X4_takes_j103 v1 (μ.1 45 14) μ else X4_takes_j103 v1 (v1 - 65) μ)) else (if (μ.1 45 12) = 1 then (bn (X4_takesSign v1 μ) fun q13 μ14 =>
  rz q13 <|
  some (q13, μ14)) else (if (μ.1 45 12) = 2 then (bn (X4_takesName v1 μ) fun q18 μ19 =>
  rz q18 <|
  some (q18, μ19)) else (if (μ.1 45 12) = 3 then (bn (X4_takesFrom v1 μ) fun q23 μ24 =>
  rz q23 <|
  some (q23, μ24)) else (if (μ.1 45 12) = 4 then (bn (X4_takesFrom v1 μ) fun q28 μ29 =>
  rz q28 <|
  some (q28, μ29)) else (if (μ.1 45 12) = 5 then (bn (X4_goes (if v1 = 46 then (1 : Int32) else 0) 6 μ) fun q33 μ34 =>
  (if q33 = 0 then (bn (X4_goes (if v1 = 47 then (1 : Int32) else 0) 9 μ34) fun q36 μ37 =>
  some ((if q36 = 0 then (0 : Int32) else 1), μ37)) else X4_takes_j168 v1 μ34)) else (if (μ.1 45 12) = 6 then (bn (X4_takesName v1 μ) fun q40 μ41 =>
  rz q40 <|
  some (q40, μ41)) else (if (μ.1 45 12) = 7 then (bn (X4_goes (if v1 = 61 then (1 : Int32) else 0) 8 μ) fun q45 μ46 =>
  rz q45 <|
  some (q45, μ46)) else (if (μ.1 45 12) = 8 then (bn (X4_takesName v1 μ) fun q50 μ51 =>
  rz q50 <|
  some (q50, μ51)) else (if (μ.1 45 12) = 9 then (bn (X4_takesName v1 μ) fun q55 μ56 =>
  rz q55 <|
  some (q55, μ56)) else (if (μ.1 45 12) = 10 then (bn (X4_takesName v1 μ) fun q60 μ61 =>
  rz q60 <|
  some (q60, μ61)) else (if (μ.1 45 12) = 11 then some (0, μ) else (bn (X4_takesName v1 μ) fun q65 μ66 =>
  rz q65 <|
  some (q65, μ66))))))))))))))
noncomputable def X4_takes (v1 : Int32) (μ : Mm) : Option (Int32 × Mm) :=
  (if v1 = 44 then ((X4_canEnd μ).bind fun q69 =>
  (if q69 = 0 then X4_takes_j19 v1 μ else ((X4_endItem μ).bind fun μ72 =>
  some (1, μ72)))) else X4_takes_j19 v1 μ)
/-! ### NameScopesModel.read(Z)I -/
noncomputable def X4_read_l22 (v1 : Int32) (k22 : Int32 → Mm → Option (Int32 × Mm)) (v2 : Int32) (μ : Mm) : Option (Int32 × Mm) :=
  (if (μ.1 45 5) ≤ v2 then some (v2, μ) else (ck v2 50 <|
  bn (X4_takes (μ.1 49 (v2 : Int32).toNatClampNeg) μ) fun q8 μ9 =>
  (if q8 = 0 then some (v2, μ9) else k22 (v2 + 1) μ9)))
noncomputable def X4_read (v1 : Int32) (μ : Mm) : Option (Int32 × Mm) :=
  bd (setI μ 45 12 0) fun μ1 =>
  bd (setI μ1 45 22 0) fun μ2 =>
  rz v1 <|
  bd (setI μ2 45 20 v1) fun μ3 =>
  bd (setI μ3 45 21 0) fun μ5 =>
  itr (X4_read_l22 v1) (fun _ _ => none) big 0 μ5
/-! ### NameScopesModel.firstError()I -/
noncomputable def X4_firstError (μ : Mm) : Option (Int32 × Mm) :=
  bd (setI μ 45 0 0) fun μ1 =>
  bn (X4_read 0 μ1) fun q3 μ4 =>
  some (q3, μ4)
/-! ### NameScopesModel.renames(IIZ)I -/
noncomputable def X4_renames_j274 (v1 : Int32) (v2 : Int32) (v3 : Int32) (v6 : Int32) (μ : Mm) : Option (Int32 × Mm) :=
  (X4_copy 47 46 μ).bind fun μ25 =>
  some (v6, μ25)
noncomputable def X4_renames_j215 (v1 : Int32) (v2 : Int32) (v3 : Int32) (k137 : Int32 → Int32 → Int32 → Mm → Option (Int32 × Mm)) (v4 : Int32) (v5 : Int32) (v6 : Int32) (μ : Mm) : Option (Int32 × Mm) :=
  k137 v4 v5 (v6 + (-1)) μ
noncomputable def X4_renames_j190 (v1 : Int32) (v2 : Int32) (v3 : Int32) (k137 : Int32 → Int32 → Int32 → Mm → Option (Int32 × Mm)) (v5 : Int32) (v6 : Int32) (v7 : Int32) (s0 : Int32) (μ : Mm) : Option (Int32 × Mm) :=
  (if v7 = 0 then X4_renames_j215 v1 v2 v3 k137 s0 v5 v6 μ else (ck v6 30 <|
  bd ((if (μ.1 53 (v6 : Int32).toNatClampNeg) = (1 <<< (v1 &&& 31)) then (v5 : Int32) else v6) : Int32) fun x32 =>
  k137 s0 x32 (v6 + (-1)) μ))
noncomputable def X4_renames_j188 (v1 : Int32) (v2 : Int32) (v3 : Int32) (k137 : Int32 → Int32 → Int32 → Mm → Option (Int32 × Mm)) (v4 : Int32) (v5 : Int32) (v6 : Int32) (v7 : Int32) (μ : Mm) : Option (Int32 × Mm) :=
  X4_renames_j190 v1 v2 v3 k137 v5 v6 v7 v4 μ
noncomputable def X4_renames_l137 (v1 : Int32) (v2 : Int32) (v3 : Int32) (k137 : Int32 → Int32 → Int32 → Mm → Option (Int32 × Mm)) (v4 : Int32) (v5 : Int32) (v6 : Int32) (μ : Mm) : Option (Int32 × Mm) :=
  (if v6 < 0 then (bd ((if v4 = (-1) then ((if v5 = (-1) then (0 : Int32) else 3) : Int32) else 2) : Int32) fun x21 =>
  bd (setI μ 45 23 (if v4 = (-1) then (v5 : Int32) else v4)) fun μ22 =>
  (if v3 = 0 then (if x21 ≤ 0 then some (x21, μ22) else X4_renames_j274 v1 v2 v3 x21 μ22) else X4_renames_j274 v1 v2 v3 x21 μ22)) else (bn (X4_outcomeOf v6 μ) fun q27 μ28 =>
  ck v6 30 <|
  bd ((if q27 = (μ28.1 53 (v6 : Int32).toNatClampNeg) then (0 : Int32) else 1) : Int32) fun x30 =>
  (if x30 = 0 then X4_renames_j188 v1 v2 v3 k137 v4 v5 v6 x30 μ28 else (ck v6 30 <|
  bd ((if (μ28.1 53 (v6 : Int32).toNatClampNeg) = (1 <<< (v1 &&& 31)) then (v6 : Int32) else v4) : Int32) fun x34 =>
  (if x30 = 0 then X4_renames_j215 v1 v2 v3 k137 x34 v5 v6 μ28 else (ck v6 30 <|
  bd ((if (μ28.1 53 (v6 : Int32).toNatClampNeg) = (1 <<< (v1 &&& 31)) then (v5 : Int32) else v6) : Int32) fun x36 =>
  k137 x34 x36 (v6 + (-1)) μ28))))))
noncomputable def X4_renames_j66 (v1 : Int32) (v2 : Int32) (v3 : Int32) (k17 : Int32 → Mm → Option (Int32 × Mm)) (v4 : Int32) (s0 : Int32) (s1 : Int32) (μ : Mm) : Option (Int32 × Mm) :=
  bd (setI μ 45 24 (s1 + s0)) fun μ41 =>
  k17 (v4 + 1) μ41
noncomputable def X4_renames_j65 (v1 : Int32) (v2 : Int32) (v3 : Int32) (k17 : Int32 → Mm → Option (Int32 × Mm)) (v4 : Int32) (s0 : Int32) (μ : Mm) : Option (Int32 × Mm) :=
  X4_renames_j66 v1 v2 v3 k17 v4 0 s0 μ
noncomputable def X4_renames_l17 (v1 : Int32) (v2 : Int32) (v3 : Int32) (k17 : Int32 → Mm → Option (Int32 × Mm)) (v4 : Int32) (μ : Mm) : Option (Int32 × Mm) :=
  ck 3 290 <|
  (if (μ.1 46 (3 : Int32).toNatClampNeg) ≤ v4 then ((X4_of v1 1 μ).bind fun q8 =>
  (if v2 = q8 then some (1, μ) else ((X4_of v1 0 μ).bind fun q10 =>
  (X4_declaredIn q10 v2 μ).bind fun q12 =>
  (if q12 = (-1) then ((X4_copy 46 47 μ).bind fun μ15 =>
  (X4_changeNames v1 v2 μ15).bind fun μ18 =>
  ck 3 290 <|
  bd (((μ18.1 46 (3 : Int32).toNatClampNeg) - 1) : Int32) fun x20 =>
  itr (X4_renames_l137 v1 v2 v3) (fun _ _ _ _ => none) big (-1) (-1) x20 μ18) else some (1, μ))))) else ((X4_useName v4 μ).bind fun q38 =>
  (X4_of v1 1 μ).bind fun q40 =>
  (if q38 = q40 then (ck v4 30 <|
  bd (setI μ 45 24 ((μ.1 45 24) + (if (μ.1 53 (v4 : Int32).toNatClampNeg) = (1 <<< (v1 &&& 31)) then (1 : Int32) else 0))) fun μ43 =>
  k17 (v4 + 1) μ43) else X4_renames_j65 v1 v2 v3 k17 v4 (μ.1 45 24) μ)))
noncomputable def X4_renames (v1 : Int32) (v2 : Int32) (v3 : Int32) (μ : Mm) : Option (Int32 × Mm) :=
  (X4_layOutcomes μ).bind fun μ3 =>
  bd (setI μ3 45 23 (-1)) fun μ4 =>
  bd (setI μ4 45 24 0) fun μ5 =>
  itr (X4_renames_l17 v1 v2 v3) (fun _ _ => none) big 0 μ5
/-! ### NameScopesModel.freeName(I)I -/
noncomputable def X4_freeName_j50 (v1 : Int32) (v2 : Int32) (μ : Mm) : Option (Int32 × Mm) :=
  some ((if 26 ≤ v2 then ((-1) : Int32) else v2), μ)
noncomputable def X4_freeName_l28 (v1 : Int32) (k28 : Int32 → Mm → Option (Int32 × Mm)) (v2 : Int32) (μ : Mm) : Option (Int32 × Mm) :=
  (if 26 ≤ v2 then X4_freeName_j50 v1 v2 μ else (bn (X4_renames v1 v2 1 μ) fun q5 μ6 =>
  (if q5 ≤ 0 then X4_freeName_j50 v1 v2 μ6 else k28 (v2 + 1) μ6)))
noncomputable def X4_freeName (v1 : Int32) (μ : Mm) : Option (Int32 × Mm) :=
  (X4_isDeclaration v1 μ).bind fun q2 =>
  bd (setI μ 45 0 (if q2 = 0 then (1 : Int32) else 0)) fun μ3 =>
  (if (μ3.1 45 0) ≤ 0 then itr (X4_freeName_l28 v1) (fun _ _ => none) big 0 μ3 else some (0, μ3))
/-! ### NameScopesModel.ifRenamed(III)I -/
noncomputable def X4_ifRenamed_j34 (v1 : Int32) (v2 : Int32) (v3 : Int32) (s0 : Int32) (μ : Mm) : Option (Int32 × Mm) :=
  bd (setI μ 45 0 s0) fun μ5 =>
  (if (μ5.1 45 0) ≤ 0 then (bn (X4_renames v1 v2 1 μ5) fun q7 μ8 =>
  (if v3 = 0 then some (q7, μ8) else (if v3 = 1 then some ((μ8.1 45 23), μ8) else some ((μ8.1 45 24), μ8)))) else some (0, μ5))
noncomputable def X4_ifRenamed_j33 (v1 : Int32) (v2 : Int32) (v3 : Int32) (μ : Mm) : Option (Int32 × Mm) :=
  X4_ifRenamed_j34 v1 v2 v3 2 μ
noncomputable def X4_ifRenamed (v1 : Int32) (v2 : Int32) (v3 : Int32) (μ : Mm) : Option (Int32 × Mm) :=
  (X4_isDeclaration v1 μ).bind fun q2 =>
  (if q2 = 0 then X4_ifRenamed_j34 v1 v2 v3 1 μ else ((X4_isName v2).bind fun q4 =>
  (if q4 = 0 then X4_ifRenamed_j33 v1 v2 v3 μ else ((X4_within v3 0 2).bind fun q10 =>
  bd (setI μ 45 0 (if q10 = 0 then (2 : Int32) else 0)) fun μ11 =>
  (if (μ11.1 45 0) ≤ 0 then (bn (X4_renames v1 v2 1 μ11) fun q13 μ14 =>
  (if v3 = 0 then some (q13, μ14) else (if v3 = 1 then some ((μ14.1 45 23), μ14) else some ((μ14.1 45 24), μ14)))) else some (0, μ11))))))
/-! ### NameScopesModel.imported(II)I -/
noncomputable def X4_imported_j36 (v1 : Int32) (v2 : Int32) (s0 : Int32) (μ : Mm) : Option (Int32 × Mm) :=
  bd (setI μ 45 0 s0) fun μ10 =>
  (if (μ10.1 45 0) ≤ 0 then (bn (X4_importNow v1 v2 μ10) fun q12 μ13 =>
  some (q12, μ13)) else some (0, μ10))
noncomputable def X4_imported (v1 : Int32) (v2 : Int32) (μ : Mm) : Option (Int32 × Mm) :=
  ck 2 290 <|
  (X4_within v1 0 ((μ.1 46 (2 : Int32).toNatClampNeg) - 1)).bind fun q3 =>
  (if q3 = 0 then X4_imported_j36 v1 v2 1 μ else ((X4_within v2 0 7).bind fun q5 =>
  bd (setI μ 45 0 (if q5 = 0 then (2 : Int32) else 0)) fun μ6 =>
  (if (μ6.1 45 0) ≤ 0 then (bn (X4_importNow v1 v2 μ6) fun q8 μ9 =>
  some (q8, μ9)) else some (0, μ6))))
/-! ### NameScopesModel.load()I -/
noncomputable def X4_load_j24 (s0 : Int32) (μ : Mm) : Option (Int32 × Mm) :=
  bd (setI μ 45 0 (if s0 = 0 then (1 : Int32) else 0)) fun μ4 =>
  (if (μ4.1 45 0) ≤ 0 then ((X4_copy 46 47 μ4).bind fun μ7 =>
  bn (X4_read 1 μ7) fun q9 μ10 =>
  (X4_endItem μ10).bind fun μ13 =>
  (if (μ13.1 45 21) = 0 then (bd (setI μ13 45 0 0) fun μ14 =>
  bd (setI μ14 45 5 0) fun μ15 =>
  some ((μ15.1 45 22), μ15)) else ((X4_copy 47 46 μ13).bind fun μ18 =>
  bd (setI μ18 45 0 2) fun μ19 =>
  some (0, μ19)))) else some (0, μ4))
noncomputable def X4_load_j23 (μ : Mm) : Option (Int32 × Mm) :=
  X4_load_j24 0 μ
noncomputable def X4_load (μ : Mm) : Option (Int32 × Mm) :=
  bn (X4_read 0 μ) fun q2 μ3 =>
  (if q2 = (μ3.1 45 5) then ((X4_canEnd μ3).bind fun q21 =>
  bd ((if q21 = 0 then (0 : Int32) else 1) : Int32) fun x22 =>
  bd (setI μ3 45 0 (if x22 = 0 then (1 : Int32) else 0)) fun μ23 =>
  (if (μ23.1 45 0) ≤ 0 then ((X4_copy 46 47 μ23).bind fun μ26 =>
  bn (X4_read 1 μ26) fun q28 μ29 =>
  (X4_endItem μ29).bind fun μ32 =>
  (if (μ32.1 45 21) = 0 then (bd (setI μ32 45 0 0) fun μ33 =>
  bd (setI μ33 45 5 0) fun μ34 =>
  some ((μ34.1 45 22), μ34)) else ((X4_copy 47 46 μ32).bind fun μ37 =>
  bd (setI μ37 45 0 2) fun μ38 =>
  some (0, μ38)))) else some (0, μ23))) else X4_load_j23 μ3)
/-! ### NameScopesModel.lowered(II)I -/
noncomputable def X4_lowered (v0 : Int32) (v1 : Int32) : Option Int32 :=
  (if ((v0 >>> (v1 &&& 31)) &&& 1) = 1 then some (-1) else (bd ((v0 &&& ((1 <<< (v1 &&& 31)) - 1)) : Int32) fun x1 =>
  some ((x1 ||| ((v0 >>> ((v1 + 1) &&& 31)) <<< (v1 &&& 31))))))
/-! ### NameScopesModel.offers(II)I -/
noncomputable def X4_offers_j25 (v1 : Int32) (v2 : Int32) (s0 : Int32) (μ : Mm) : Option (Int32 × Mm) :=
  bd (setI μ 45 0 s0) fun μ13 =>
  (if (μ13.1 45 0) ≤ 0 then ((X4_lay μ13).bind fun μ16 =>
  (X4_offer v1 v2 μ16).bind fun q18 =>
  (X4_bits q18).bind fun q20 =>
  some (q20, μ16)) else some (0, μ13))
noncomputable def X4_offers (v1 : Int32) (v2 : Int32) (μ : Mm) : Option (Int32 × Mm) :=
  (X4_isScope v1 μ).bind fun q2 =>
  (if q2 = 0 then X4_offers_j25 v1 v2 1 μ else ((X4_isName v2).bind fun q4 =>
  bd (setI μ 45 0 (if q4 = 0 then (2 : Int32) else 0)) fun μ5 =>
  (if (μ5.1 45 0) ≤ 0 then ((X4_lay μ5).bind fun μ8 =>
  (X4_offer v1 v2 μ8).bind fun q10 =>
  (X4_bits q10).bind fun q12 =>
  some (q12, μ8)) else some (0, μ5))))
/-! ### NameScopesModel.parent(I)I -/
noncomputable def X4_parent (v1 : Int32) (μ : Mm) : Option (Int32 × Mm) :=
  (X4_isScope v1 μ).bind fun q2 =>
  bd (setI μ 45 0 (if q2 = 0 then (1 : Int32) else 0)) fun μ3 =>
  (if (μ3.1 45 0) ≤ 0 then (ck (4 + v1) 290 <|
  some ((μ3.1 46 ((4 + v1) : Int32).toNatClampNeg), μ3)) else some (0, μ3))
/-! ### NameScopesModel.removes(II)I -/
noncomputable def X4_removes_j116 (v1 : Int32) (v2 : Int32) (μ : Mm) : Option (Int32 × Mm) :=
  bn (X4_otherOutcomes μ) fun q9 μ10 =>
  some (q9, μ10)
noncomputable def X4_removes_l74 (v1 : Int32) (v2 : Int32) (k74 : Int32 → Mm → Option (Int32 × Mm)) (v3 : Int32) (μ : Mm) : Option (Int32 × Mm) :=
  ck 3 290 <|
  (if ((μ.1 46 (3 : Int32).toNatClampNeg) - 1) ≤ v3 then ((X4_cut 230 2 v2 3 μ).bind fun μ7 =>
  X4_removes_j116 v1 v2 μ7) else (ck (v3 + 1) 30 <|
  ck v3 30 <|
  bd (setI μ 53 (v3 : Int32).toNatClampNeg (μ.1 53 ((v3 + 1) : Int32).toNatClampNeg)) fun μ13 =>
  k74 (v3 + 1) μ13))
noncomputable def X4_removes_l10 (v1 : Int32) (v2 : Int32) (k10 : Int32 → Mm → Option (Int32 × Mm)) (v3 : Int32) (μ : Mm) : Option (Int32 × Mm) :=
  ck 3 290 <|
  (if (μ.1 46 (3 : Int32).toNatClampNeg) ≤ v3 then ((X4_cut 20 3 v2 1 μ).bind fun μ20 =>
  X4_removes_j116 v1 v2 μ20) else (ck v3 30 <|
  (X4_lowered (μ.1 53 (v3 : Int32).toNatClampNeg) v2).bind fun q23 =>
  ck v3 30 <|
  bd (setI μ 53 (v3 : Int32).toNatClampNeg q23) fun μ25 =>
  k10 (v3 + 1) μ25))
noncomputable def X4_removes (v1 : Int32) (v2 : Int32) (μ : Mm) : Option (Int32 × Mm) :=
  (X4_layOutcomes μ).bind fun μ3 =>
  (if v1 = 0 then itr (X4_removes_l10 v1 v2) (fun _ _ => none) big 0 μ3 else (if v1 = 1 then ((X4_cut 110 6 v2 2 μ3).bind fun μ16 =>
  X4_removes_j116 v1 v2 μ16) else itr (X4_removes_l74 v1 v2) (fun _ _ => none) big v2 μ3))
/-! ### NameScopesModel.remove(II)I -/
noncomputable def X4_remove_j37 (v1 : Int32) (v2 : Int32) (s0 : Int32) (μ : Mm) : Option (Int32 × Mm) :=
  bd (setI μ 45 0 s0) fun μ10 =>
  (if (μ10.1 45 0) ≤ 0 then (bn (X4_removes v1 v2 μ10) fun q12 μ13 =>
  some (q12, μ13)) else some (0, μ10))
noncomputable def X4_remove (v1 : Int32) (v2 : Int32) (μ : Mm) : Option (Int32 × Mm) :=
  (X4_within v1 0 2).bind fun q2 =>
  (if q2 = 0 then X4_remove_j37 v1 v2 1 μ else (ck (1 + v1) 290 <|
  (X4_within v2 0 ((μ.1 46 ((1 + v1) : Int32).toNatClampNeg) - 1)).bind fun q5 =>
  bd (setI μ 45 0 (if q5 = 0 then (2 : Int32) else 0)) fun μ6 =>
  (if (μ6.1 45 0) ≤ 0 then (bn (X4_removes v1 v2 μ6) fun q8 μ9 =>
  some (q8, μ9)) else some (0, μ6))))
/-! ### NameScopesModel.rename(II)I -/
noncomputable def X4_rename_j25 (v1 : Int32) (v2 : Int32) (s0 : Int32) (μ : Mm) : Option (Int32 × Mm) :=
  bd (setI μ 45 0 s0) fun μ9 =>
  (if (μ9.1 45 0) ≤ 0 then (bn (X4_renames v1 v2 0 μ9) fun q11 μ12 =>
  some (q11, μ12)) else some (0, μ9))
noncomputable def X4_rename (v1 : Int32) (v2 : Int32) (μ : Mm) : Option (Int32 × Mm) :=
  (X4_isDeclaration v1 μ).bind fun q2 =>
  (if q2 = 0 then X4_rename_j25 v1 v2 1 μ else ((X4_isName v2).bind fun q4 =>
  bd (setI μ 45 0 (if q4 = 0 then (2 : Int32) else 0)) fun μ5 =>
  (if (μ5.1 45 0) ≤ 0 then (bn (X4_renames v1 v2 0 μ5) fun q7 μ8 =>
  some (q7, μ8)) else some (0, μ5))))
/-! ### NameScopesModel.resolved(III)I -/
noncomputable def X4_resolved (v1 : Int32) (v2 : Int32) (v3 : Int32) (μ : Mm) : Option (Int32 × Mm) :=
  (X4_layLayers v1 v2 μ).bind fun μ3 =>
  (if v3 = 0 then (if (μ3.1 45 7) = 0 then some ((-1), μ3) else (ck 0 48 <|
  (X4_only (μ3.1 50 (0 : Int32).toNatClampNeg)).bind fun q7 =>
  some (q7, μ3))) else (if v3 = 1 then (if (μ3.1 45 7) = 0 then some (0, μ3) else (ck 0 48 <|
  (X4_bits (μ3.1 50 (0 : Int32).toNatClampNeg)).bind fun q11 =>
  some (q11, μ3))) else (if v3 = 2 then (if (μ3.1 45 7) = 0 then some ((-1), μ3) else (ck 0 48 <|
  some ((μ3.1 51 (0 : Int32).toNatClampNeg), μ3))) else (if v3 = 3 then (if (μ3.1 45 7) = 0 then some ((-1), μ3) else (ck 0 48 <|
  some ((μ3.1 52 (0 : Int32).toNatClampNeg), μ3))) else (if (μ3.1 45 7) = 0 then some (0, μ3) else some (((μ3.1 45 7) - 1), μ3))))))
/-! ### NameScopesModel.resolve(III)I -/
noncomputable def X4_resolve_j34 (v1 : Int32) (v2 : Int32) (v3 : Int32) (s0 : Int32) (μ : Mm) : Option (Int32 × Mm) :=
  bd (setI μ 45 0 s0) fun μ5 =>
  (if (μ5.1 45 0) ≤ 0 then (bn (X4_resolved v1 v2 v3 μ5) fun q7 μ8 =>
  some (q7, μ8)) else some (0, μ5))
noncomputable def X4_resolve_j33 (v1 : Int32) (v2 : Int32) (v3 : Int32) (μ : Mm) : Option (Int32 × Mm) :=
  X4_resolve_j34 v1 v2 v3 2 μ
noncomputable def X4_resolve (v1 : Int32) (v2 : Int32) (v3 : Int32) (μ : Mm) : Option (Int32 × Mm) :=
  (X4_isScope v1 μ).bind fun q2 =>
  (if q2 = 0 then X4_resolve_j34 v1 v2 v3 1 μ else ((X4_isName v2).bind fun q4 =>
  (if q4 = 0 then X4_resolve_j33 v1 v2 v3 μ else ((X4_within v3 0 4).bind fun q10 =>
  bd (setI μ 45 0 (if q10 = 0 then (2 : Int32) else 0)) fun μ11 =>
  (if (μ11.1 45 0) ≤ 0 then (bn (X4_resolved v1 v2 v3 μ11) fun q13 μ14 =>
  some (q13, μ14)) else some (0, μ11))))))
/-! ### NameScopesModel.resolvedShare()D -/
noncomputable def X4_resolvedShare_j35 (s0 : UInt64) (μ : Mm) : Option (UInt64 × Mm) :=
  some (s0, μ)
noncomputable def X4_resolvedShare (μ : Mm) : Option (UInt64 × Mm) :=
  bd (setI μ 45 0 0) fun μ1 =>
  ck 3 290 <|
  (if (μ1.1 46 (3 : Int32).toNatClampNeg) = 0 then X4_resolvedShare_j35 FP.dconst1 μ1 else (bn (X4_usesWith 1 1 μ1) fun q4 μ5 =>
  nn (FP.dmul FP.dconst1 (FP.i2d q4)) <|
  ck 3 290 <|
  nn (FP.ddiv (FP.dmul FP.dconst1 (FP.i2d q4)) (FP.i2d (μ5.1 46 (3 : Int32).toNatClampNeg))) <|
  X4_resolvedShare_j35 (FP.ddiv (FP.dmul FP.dconst1 (FP.i2d q4)) (FP.i2d (μ5.1 46 (3 : Int32).toNatClampNeg))) μ5))
/-! ### NameScopesModel.thrown()I -/
noncomputable def X4_thrown (μ : Mm) : Option Int32 :=
  some ((μ.1 45 0))
/-! ### NameScopesModel.used(II)I -/
noncomputable def X4_used_j35 (v1 : Int32) (v2 : Int32) (s0 : Int32) (μ : Mm) : Option (Int32 × Mm) :=
  bd (setI μ 45 0 s0) fun μ10 =>
  (if (μ10.1 45 0) ≤ 0 then (bn (X4_useNow v1 v2 μ10) fun q12 μ13 =>
  some (q12, μ13)) else some (0, μ10))
noncomputable def X4_used (v1 : Int32) (v2 : Int32) (μ : Mm) : Option (Int32 × Mm) :=
  ck 3 290 <|
  (X4_within v1 0 ((μ.1 46 (3 : Int32).toNatClampNeg) - 1)).bind fun q3 =>
  (if q3 = 0 then X4_used_j35 v1 v2 1 μ else ((X4_within v2 0 3).bind fun q5 =>
  bd (setI μ 45 0 (if q5 = 0 then (2 : Int32) else 0)) fun μ6 =>
  (if (μ6.1 45 0) ≤ 0 then (bn (X4_useNow v1 v2 μ6) fun q8 μ9 =>
  some (q8, μ9)) else some (0, μ6))))
/-! ### NameScopesModel.visible(IZ)I -/
noncomputable def X4_visible (v1 : Int32) (v2 : Int32) (μ : Mm) : Option (Int32 × Mm) :=
  (X4_isScope v1 μ).bind fun q2 =>
  bd (setI μ 45 0 (if q2 = 0 then (1 : Int32) else 0)) fun μ3 =>
  (if (μ3.1 45 0) ≤ 0 then (bn (X4_seen v1 v2 μ3) fun q5 μ6 =>
  some (q5, μ6)) else some (0, μ3))
