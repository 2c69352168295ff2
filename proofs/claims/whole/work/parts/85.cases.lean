/-! ===== each call of the law: both sides answer alike (written by program) ===== -/
section CASES
variable {xs : Nat → Int32} {L j : Nat} {μ : Mm}
/-- the script's places of this call -/
def CK (L j : Nat) : Prop := 6 * j + 6 ≤ L ∧ L ≤ 3072
theorem ck1 (h : CK L j) {β : Type} (k : Option β) : ck (nI (6 * j) + 1) L k = k := by rw [nI_1]; exact ck_nI (by have := h.1; omega) (by have := h.2; omega)
theorem ck2 (h : CK L j) {β : Type} (k : Option β) : ck (nI (6 * j) + 2) L k = k := by rw [show nI (6 * j) + (2 : Int32) = nI (6 * j + 2) from nI_add (6 * j) 2]; exact ck_nI (by have := h.1; omega) (by have := h.2; omega)
theorem ck3 (h : CK L j) {β : Type} (k : Option β) : ck (nI (6 * j) + 3) L k = k := by rw [show nI (6 * j) + (3 : Int32) = nI (6 * j + 3) from nI_add (6 * j) 3]; exact ck_nI (by have := h.1; omega) (by have := h.2; omega)
theorem ck4 (h : CK L j) {β : Type} (k : Option β) : ck (nI (6 * j) + 4) L k = k := by rw [show nI (6 * j) + (4 : Int32) = nI (6 * j + 4) from nI_add (6 * j) 4]; exact ck_nI (by have := h.1; omega) (by have := h.2; omega)
theorem ck5 (h : CK L j) {β : Type} (k : Option β) : ck (nI (6 * j) + 5) L k = k := by rw [show nI (6 * j) + (5 : Int32) = nI (6 * j + 5) from nI_add (6 * j) 5]; exact ck_nI (by have := h.1; omega) (by have := h.2; omega)
theorem st_addScope (h : CK L j) (hI : Inv μ) : ∃ μ', L_law_j169 xs L (nI (6 * j)) μ = some μ' ∧ Inv μ' := by
  obtain ⟨T, N, f, hC, hM, hv, hTc, hTm⟩ := hI
  unfold L_law_j169 L_addScope
  simp only [ck1 h]
  exact op_step hM hv hTc hTm (z := sAddS T (xs ((nI (6 * j) + 1) : Int32).toNatClampNeg)) (c := cIS) (X4 := X4_addScope (xs ((nI (6 * j) + 1) : Int32).toNatClampNeg)) (addScope_eq hC (xs ((nI (6 * j) + 1) : Int32).toNatClampNeg)) (fun E hE => ch_IS (E_addS hE)) (fun μ' h' => MR_MA (addScopeM_eq h' _) (fun z => by rw [z]; rfl) (fun z => wS_c z))
theorem st_declare (h : CK L j) (hI : Inv μ) : ∃ μ', L_law_j225 xs L (nI (6 * j)) μ = some μ' ∧ Inv μ' := by
  obtain ⟨T, N, f, hC, hM, hv, hTc, hTm⟩ := hI
  unfold L_law_j225 L_declare
  simp only [ck1 h, ck2 h, ck3 h]
  exact op_step hM hv hTc hTm (z := sDecl T (xs ((nI (6 * j) + 1) : Int32).toNatClampNeg) (xs ((nI (6 * j) + 2) : Int32).toNatClampNeg) (if (xs ((nI (6 * j) + 3) : Int32).toNatClampNeg) = 0 then (0 : Int32) else 1)) (c := cIAS) (X4 := X4_declare (xs ((nI (6 * j) + 1) : Int32).toNatClampNeg) (xs ((nI (6 * j) + 2) : Int32).toNatClampNeg) (if (xs ((nI (6 * j) + 3) : Int32).toNatClampNeg) = 0 then (0 : Int32) else 1)) (declare_eq hC (xs ((nI (6 * j) + 1) : Int32).toNatClampNeg) (xs ((nI (6 * j) + 2) : Int32).toNatClampNeg) (if (xs ((nI (6 * j) + 3) : Int32).toNatClampNeg) = 0 then (0 : Int32) else 1)) (fun E hE => ch_IAS (E_refu (rfD_le _ _ _) hE)) (fun μ' h' => MR_MA (declareM_eq h' _ _ _) (fun z => z) (fun z => xN_c (rfD_le _ _ _) z))
theorem st_importOne (h : CK L j) (hI : Inv μ) : ∃ μ', L_law_j321 xs L (nI (6 * j)) μ = some μ' ∧ Inv μ' := by
  obtain ⟨T, N, f, hC, hM, hv, hTc, hTm⟩ := hI
  unfold L_law_j321 L_importOne
  simp only [ck1 h, ck2 h, ck3 h, ck4 h, ck5 h]
  exact op_step hM hv hTc hTm (z := sImp1 T (xs ((nI (6 * j) + 1) : Int32).toNatClampNeg) (xs ((nI (6 * j) + 2) : Int32).toNatClampNeg) (xs ((nI (6 * j) + 3) : Int32).toNatClampNeg) (xs ((nI (6 * j) + 4) : Int32).toNatClampNeg) (if (xs ((nI (6 * j) + 5) : Int32).toNatClampNeg) = 0 then (0 : Int32) else 1)) (c := cIAS) (X4 := X4_importOne (xs ((nI (6 * j) + 1) : Int32).toNatClampNeg) (xs ((nI (6 * j) + 2) : Int32).toNatClampNeg) (xs ((nI (6 * j) + 3) : Int32).toNatClampNeg) (xs ((nI (6 * j) + 4) : Int32).toNatClampNeg) (if (xs ((nI (6 * j) + 5) : Int32).toNatClampNeg) = 0 then (0 : Int32) else 1)) (importOne_eq hC (xs ((nI (6 * j) + 1) : Int32).toNatClampNeg) (xs ((nI (6 * j) + 2) : Int32).toNatClampNeg) (xs ((nI (6 * j) + 3) : Int32).toNatClampNeg) (xs ((nI (6 * j) + 4) : Int32).toNatClampNeg) (if (xs ((nI (6 * j) + 5) : Int32).toNatClampNeg) = 0 then (0 : Int32) else 1)) (fun E hE => ch_IAS (E_refu (rfI_le _ _ _ _) hE)) (fun μ' h' => MR_MA (importOneM_eq h' _ _ _ _ _) (fun z => z) (fun z => xN_c (rfI_le _ _ _ _) z))
theorem st_importAll (h : CK L j) (hI : Inv μ) : ∃ μ', L_law_j441 xs L (nI (6 * j)) μ = some μ' ∧ Inv μ' := by
  obtain ⟨T, N, f, hC, hM, hv, hTc, hTm⟩ := hI
  unfold L_law_j441 L_importAll
  simp only [ck1 h, ck2 h, ck3 h, ck4 h]
  exact op_step hM hv hTc hTm (z := sImpA T (xs ((nI (6 * j) + 1) : Int32).toNatClampNeg) (xs ((nI (6 * j) + 2) : Int32).toNatClampNeg) (xs ((nI (6 * j) + 3) : Int32).toNatClampNeg) (if (xs ((nI (6 * j) + 4) : Int32).toNatClampNeg) = 0 then (0 : Int32) else 1)) (c := cIAS) (X4 := X4_importAll (xs ((nI (6 * j) + 1) : Int32).toNatClampNeg) (xs ((nI (6 * j) + 2) : Int32).toNatClampNeg) (xs ((nI (6 * j) + 3) : Int32).toNatClampNeg) (if (xs ((nI (6 * j) + 4) : Int32).toNatClampNeg) = 0 then (0 : Int32) else 1)) (importAll_eq hC (xs ((nI (6 * j) + 1) : Int32).toNatClampNeg) (xs ((nI (6 * j) + 2) : Int32).toNatClampNeg) (xs ((nI (6 * j) + 3) : Int32).toNatClampNeg) (if (xs ((nI (6 * j) + 4) : Int32).toNatClampNeg) = 0 then (0 : Int32) else 1)) (fun E hE => ch_IAS (E_refu (rfI_le _ _ _ _) hE)) (fun μ' h' => MR_MA (importAllM_eq h' _ _ _ _) (fun z => z) (fun z => xN_c (rfI_le _ _ _ _) z))
theorem st_use (h : CK L j) (hI : Inv μ) : ∃ μ', L_law_j549 xs L (nI (6 * j)) μ = some μ' ∧ Inv μ' := by
  obtain ⟨T, N, f, hC, hM, hv, hTc, hTm⟩ := hI
  unfold L_law_j549 L_use
  simp only [ck1 h, ck2 h]
  exact op_step hM hv hTc hTm (z := sUse T (xs ((nI (6 * j) + 1) : Int32).toNatClampNeg) (xs ((nI (6 * j) + 2) : Int32).toNatClampNeg)) (c := cIAS) (X4 := X4_use (xs ((nI (6 * j) + 1) : Int32).toNatClampNeg) (xs ((nI (6 * j) + 2) : Int32).toNatClampNeg)) (use_eq hC (xs ((nI (6 * j) + 1) : Int32).toNatClampNeg) (xs ((nI (6 * j) + 2) : Int32).toNatClampNeg)) (fun E hE => ch_IAS (E_refu (rfU_le _ _ _) hE)) (fun μ' h' => MR_MA (useM_eq h' _ _) (fun z => z) (fun z => xN_c (rfU_le _ _ _) z))
theorem st_remove (h : CK L j) (hI : Inv μ) : ∃ μ', L_law_j617 xs L (nI (6 * j)) μ = some μ' ∧ Inv μ' := by
  obtain ⟨T, N, f, hC, hM, hv, hTc, hTm⟩ := hI
  unfold L_law_j617 L_remove
  simp only [ck1 h, ck2 h]
  exact op_step hM hv hTc hTm (z := sRem T (xs ((nI (6 * j) + 1) : Int32).toNatClampNeg) (xs ((nI (6 * j) + 2) : Int32).toNatClampNeg)) (c := cAI) (X4 := X4_remove (xs ((nI (6 * j) + 1) : Int32).toNatClampNeg) (xs ((nI (6 * j) + 2) : Int32).toNatClampNeg)) (remove_eq hC (xs ((nI (6 * j) + 1) : Int32).toNatClampNeg) (xs ((nI (6 * j) + 2) : Int32).toNatClampNeg)) (fun E hE => ch_AI (E_rem hE)) (fun μ' h' => removeM_eq h' (xs ((nI (6 * j) + 1) : Int32).toNatClampNeg) (xs ((nI (6 * j) + 2) : Int32).toNatClampNeg))
theorem st_resolve (h : CK L j) (hI : Inv μ) : ∃ μ', L_law_j811 xs L (nI (6 * j)) μ = some μ' ∧ Inv μ' := by
  obtain ⟨T, N, f, hC, hM, hv, hTc, hTm⟩ := hI
  unfold L_law_j811 L_resolve
  simp only [ck1 h, ck2 h, ck3 h]
  exact op_step2 hC hM hv hTc hTm (z := sRes T (xs ((nI (6 * j) + 1) : Int32).toNatClampNeg) (xs ((nI (6 * j) + 2) : Int32).toNatClampNeg) (xs ((nI (6 * j) + 3) : Int32).toNatClampNeg)) (c := cIAS) (X4 := X4_resolve (xs ((nI (6 * j) + 1) : Int32).toNatClampNeg) (xs ((nI (6 * j) + 2) : Int32).toNatClampNeg) (xs ((nI (6 * j) + 3) : Int32).toNatClampNeg)) (resolve_eq hC (xs ((nI (6 * j) + 1) : Int32).toNatClampNeg) (xs ((nI (6 * j) + 2) : Int32).toNatClampNeg) (xs ((nI (6 * j) + 3) : Int32).toNatClampNeg)) (fun E hE => ch_IA (E_res hE)) (fun μ' h' => resolveM_eq h' (xs ((nI (6 * j) + 1) : Int32).toNatClampNeg) (xs ((nI (6 * j) + 2) : Int32).toNatClampNeg) (xs ((nI (6 * j) + 3) : Int32).toNatClampNeg))
theorem st_candidate (h : CK L j) (hI : Inv μ) : ∃ μ', L_law_j891 xs L (nI (6 * j)) μ = some μ' ∧ Inv μ' := by
  obtain ⟨T, N, f, hC, hM, hv, hTc, hTm⟩ := hI
  unfold L_law_j891 L_candidate
  simp only [ck1 h, ck2 h, ck3 h, ck4 h]
  exact op_step2 hC hM hv hTc hTm (z := sCan T (xs ((nI (6 * j) + 1) : Int32).toNatClampNeg) (xs ((nI (6 * j) + 2) : Int32).toNatClampNeg) (xs ((nI (6 * j) + 3) : Int32).toNatClampNeg) (xs ((nI (6 * j) + 4) : Int32).toNatClampNeg)) (c := cIAS) (X4 := X4_candidate (xs ((nI (6 * j) + 1) : Int32).toNatClampNeg) (xs ((nI (6 * j) + 2) : Int32).toNatClampNeg) (xs ((nI (6 * j) + 3) : Int32).toNatClampNeg) (xs ((nI (6 * j) + 4) : Int32).toNatClampNeg)) (candidate_eq hC (xs ((nI (6 * j) + 1) : Int32).toNatClampNeg) (xs ((nI (6 * j) + 2) : Int32).toNatClampNeg) (xs ((nI (6 * j) + 3) : Int32).toNatClampNeg) (xs ((nI (6 * j) + 4) : Int32).toNatClampNeg)) (fun E hE => ch_IA (E_can hE)) (fun μ' h' => candidateM_eq h' (xs ((nI (6 * j) + 1) : Int32).toNatClampNeg) (xs ((nI (6 * j) + 2) : Int32).toNatClampNeg) (xs ((nI (6 * j) + 3) : Int32).toNatClampNeg) (xs ((nI (6 * j) + 4) : Int32).toNatClampNeg))
theorem st_offers (h : CK L j) (hI : Inv μ) : ∃ μ', L_law_j983 xs L (nI (6 * j)) μ = some μ' ∧ Inv μ' := by
  obtain ⟨T, N, f, hC, hM, hv, hTc, hTm⟩ := hI
  unfold L_law_j983 L_offers
  simp only [ck1 h, ck2 h]
  exact op_step2 hC hM hv hTc hTm (z := sOff T (xs ((nI (6 * j) + 1) : Int32).toNatClampNeg) (xs ((nI (6 * j) + 2) : Int32).toNatClampNeg)) (c := cIAS) (X4 := X4_offers (xs ((nI (6 * j) + 1) : Int32).toNatClampNeg) (xs ((nI (6 * j) + 2) : Int32).toNatClampNeg)) (offers_eq hC (xs ((nI (6 * j) + 1) : Int32).toNatClampNeg) (xs ((nI (6 * j) + 2) : Int32).toNatClampNeg)) (fun E hE => ch_IA (E_off hE)) (fun μ' h' => offersM_eq h' (xs ((nI (6 * j) + 1) : Int32).toNatClampNeg) (xs ((nI (6 * j) + 2) : Int32).toNatClampNeg))
theorem st_visible (h : CK L j) (hI : Inv μ) : ∃ μ', L_law_j1051 xs L (nI (6 * j)) μ = some μ' ∧ Inv μ' := by
  obtain ⟨T, N, f, hC, hM, hv, hTc, hTm⟩ := hI
  unfold L_law_j1051 L_visible
  simp only [ck1 h, ck2 h]
  exact op_step2 hC hM hv hTc hTm (z := sVis T (xs ((nI (6 * j) + 1) : Int32).toNatClampNeg) (if (xs ((nI (6 * j) + 2) : Int32).toNatClampNeg) = 0 then (0 : Int32) else 1)) (c := cIAS) (X4 := X4_visible (xs ((nI (6 * j) + 1) : Int32).toNatClampNeg) (if (xs ((nI (6 * j) + 2) : Int32).toNatClampNeg) = 0 then (0 : Int32) else 1)) (visible_eq hC (xs ((nI (6 * j) + 1) : Int32).toNatClampNeg) (if (xs ((nI (6 * j) + 2) : Int32).toNatClampNeg) = 0 then (0 : Int32) else 1)) (fun E hE => ch_I (E_vis hE)) (fun μ' h' => visibleM_eq h' (xs ((nI (6 * j) + 1) : Int32).toNatClampNeg) (if (xs ((nI (6 * j) + 2) : Int32).toNatClampNeg) = 0 then (0 : Int32) else 1))
theorem st_rename (h : CK L j) (hI : Inv μ) : ∃ μ', L_law_j1135 xs L (nI (6 * j)) μ = some μ' ∧ Inv μ' := by
  obtain ⟨T, N, f, hC, hM, hv, hTc, hTm⟩ := hI
  unfold L_law_j1135 L_rename
  simp only [ck1 h, ck2 h]
  exact op_step hM hv hTc hTm (z := sRen T (xs ((nI (6 * j) + 1) : Int32).toNatClampNeg) (xs ((nI (6 * j) + 2) : Int32).toNatClampNeg)) (c := cIAS) (X4 := X4_rename (xs ((nI (6 * j) + 1) : Int32).toNatClampNeg) (xs ((nI (6 * j) + 2) : Int32).toNatClampNeg)) (rename_eq hC (xs ((nI (6 * j) + 1) : Int32).toNatClampNeg) (xs ((nI (6 * j) + 2) : Int32).toNatClampNeg)) (fun E hE => ch_IA (E_ren hE)) (fun μ' h' => renameM_eq h' (xs ((nI (6 * j) + 1) : Int32).toNatClampNeg) (xs ((nI (6 * j) + 2) : Int32).toNatClampNeg))
theorem st_ifRenamed (h : CK L j) (hI : Inv μ) : ∃ μ', L_law_j1203 xs L (nI (6 * j)) μ = some μ' ∧ Inv μ' := by
  obtain ⟨T, N, f, hC, hM, hv, hTc, hTm⟩ := hI
  unfold L_law_j1203 L_ifRenamed
  simp only [ck1 h, ck2 h, ck3 h]
  exact op_step hM hv hTc hTm (z := (sIfR T (xs ((nI (6 * j) + 1) : Int32).toNatClampNeg) (xs ((nI (6 * j) + 2) : Int32).toNatClampNeg) (xs ((nI (6 * j) + 3) : Int32).toNatClampNeg), T)) (c := cIAS) (X4 := X4_ifRenamed (xs ((nI (6 * j) + 1) : Int32).toNatClampNeg) (xs ((nI (6 * j) + 2) : Int32).toNatClampNeg) (xs ((nI (6 * j) + 3) : Int32).toNatClampNeg)) (ifRenamed_eq hC (xs ((nI (6 * j) + 1) : Int32).toNatClampNeg) (xs ((nI (6 * j) + 2) : Int32).toNatClampNeg) (xs ((nI (6 * j) + 3) : Int32).toNatClampNeg)) (fun E hE => ch_IA (E_ifR hE)) (fun μ' h' => ifRenamedM_eq h' (xs ((nI (6 * j) + 1) : Int32).toNatClampNeg) (xs ((nI (6 * j) + 2) : Int32).toNatClampNeg) (xs ((nI (6 * j) + 3) : Int32).toNatClampNeg))
theorem st_freeName (h : CK L j) (hI : Inv μ) : ∃ μ', L_law_j1283 xs L (nI (6 * j)) μ = some μ' ∧ Inv μ' := by
  obtain ⟨T, N, f, hC, hM, hv, hTc, hTm⟩ := hI
  unfold L_law_j1283 L_freeName
  simp only [ck1 h]
  exact op_step hM hv hTc hTm (z := (sFree T (xs ((nI (6 * j) + 1) : Int32).toNatClampNeg), T)) (c := cIAS) (X4 := X4_freeName (xs ((nI (6 * j) + 1) : Int32).toNatClampNeg)) (freeName_eq hC (xs ((nI (6 * j) + 1) : Int32).toNatClampNeg)) (fun E hE => ch_I (E_free hE)) (fun μ' h' => freeNameM_eq h' (xs ((nI (6 * j) + 1) : Int32).toNatClampNeg))
theorem st_count (h : CK L j) (hI : Inv μ) : ∃ μ', L_law_j1339 xs L (nI (6 * j)) μ = some μ' ∧ Inv μ' := by
  obtain ⟨T, N, f, hC, hM, hv, hTc, hTm⟩ := hI
  unfold L_law_j1339 L_count
  simp only [ck1 h]
  exact op_step hM hv hTc hTm (z := (sCnt T (xs ((nI (6 * j) + 1) : Int32).toNatClampNeg), T)) (c := cAI) (X4 := X4_count (xs ((nI (6 * j) + 1) : Int32).toNatClampNeg)) (count_eq hC (xs ((nI (6 * j) + 1) : Int32).toNatClampNeg)) (fun E hE => ch_A (E_cnt hE)) (fun μ' h' => countM_eq h' (xs ((nI (6 * j) + 1) : Int32).toNatClampNeg))
theorem st_declaration (h : CK L j) (hI : Inv μ) : ∃ μ', L_law_j1395 xs L (nI (6 * j)) μ = some μ' ∧ Inv μ' := by
  obtain ⟨T, N, f, hC, hM, hv, hTc, hTm⟩ := hI
  unfold L_law_j1395 L_declaration
  simp only [ck1 h, ck2 h]
  exact op_step2 hC hM hv hTc hTm (z := sDcl T (xs ((nI (6 * j) + 1) : Int32).toNatClampNeg) (xs ((nI (6 * j) + 2) : Int32).toNatClampNeg)) (c := cIAS) (X4 := X4_declaration (xs ((nI (6 * j) + 1) : Int32).toNatClampNeg) (xs ((nI (6 * j) + 2) : Int32).toNatClampNeg)) (declaration_eq hC (xs ((nI (6 * j) + 1) : Int32).toNatClampNeg) (xs ((nI (6 * j) + 2) : Int32).toNatClampNeg)) (fun E hE => ch_IA (E_dcl hE)) (fun μ' h' => declarationM_eq h' (xs ((nI (6 * j) + 1) : Int32).toNatClampNeg) (xs ((nI (6 * j) + 2) : Int32).toNatClampNeg))
theorem st_imported (h : CK L j) (hI : Inv μ) : ∃ μ', L_law_j1463 xs L (nI (6 * j)) μ = some μ' ∧ Inv μ' := by
  obtain ⟨T, N, f, hC, hM, hv, hTc, hTm⟩ := hI
  unfold L_law_j1463 L_imported
  simp only [ck1 h, ck2 h]
  exact op_step hM hv hTc hTm (z := (sImd T (xs ((nI (6 * j) + 1) : Int32).toNatClampNeg) (xs ((nI (6 * j) + 2) : Int32).toNatClampNeg), T)) (c := cIAS) (X4 := X4_imported (xs ((nI (6 * j) + 1) : Int32).toNatClampNeg) (xs ((nI (6 * j) + 2) : Int32).toNatClampNeg)) (imported_eq hC (xs ((nI (6 * j) + 1) : Int32).toNatClampNeg) (xs ((nI (6 * j) + 2) : Int32).toNatClampNeg)) (fun E hE => ch_IA (E_imd hE)) (fun μ' h' => importedM_eq h' (xs ((nI (6 * j) + 1) : Int32).toNatClampNeg) (xs ((nI (6 * j) + 2) : Int32).toNatClampNeg))
theorem st_used (h : CK L j) (hI : Inv μ) : ∃ μ', L_law_j1531 xs L (nI (6 * j)) μ = some μ' ∧ Inv μ' := by
  obtain ⟨T, N, f, hC, hM, hv, hTc, hTm⟩ := hI
  unfold L_law_j1531 L_used
  simp only [ck1 h, ck2 h]
  exact op_step2 hC hM hv hTc hTm (z := sUsd T (xs ((nI (6 * j) + 1) : Int32).toNatClampNeg) (xs ((nI (6 * j) + 2) : Int32).toNatClampNeg)) (c := cIAS) (X4 := X4_used (xs ((nI (6 * j) + 1) : Int32).toNatClampNeg) (xs ((nI (6 * j) + 2) : Int32).toNatClampNeg)) (used_eq hC (xs ((nI (6 * j) + 1) : Int32).toNatClampNeg) (xs ((nI (6 * j) + 2) : Int32).toNatClampNeg)) (fun E hE => ch_IA (E_usd hE)) (fun μ' h' => usedM_eq h' (xs ((nI (6 * j) + 1) : Int32).toNatClampNeg) (xs ((nI (6 * j) + 2) : Int32).toNatClampNeg))
theorem st_parent (h : CK L j) (hI : Inv μ) : ∃ μ', L_law_j1599 xs L (nI (6 * j)) μ = some μ' ∧ Inv μ' := by
  obtain ⟨T, N, f, hC, hM, hv, hTc, hTm⟩ := hI
  unfold L_law_j1599 L_parent
  simp only [ck1 h]
  exact op_step2 hC hM hv hTc hTm (z := sPar T (xs ((nI (6 * j) + 1) : Int32).toNatClampNeg)) (c := cIAS) (X4 := X4_parent (xs ((nI (6 * j) + 1) : Int32).toNatClampNeg)) (parent_eq hC (xs ((nI (6 * j) + 1) : Int32).toNatClampNeg)) (fun E hE => ch_I (E_par hE)) (fun μ' h' => parentM_eq h' (xs ((nI (6 * j) + 1) : Int32).toNatClampNeg))
end CASES
