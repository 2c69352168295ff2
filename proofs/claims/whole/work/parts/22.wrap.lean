theorem q453 : Cond.methodLink RL 7 yX3_addScope ∈ WS := memT 453 (by decide +kernel) (by decide +kernel)
theorem q456 : Cond.code yX3_addScope cX3_addScope 3 (some .int) ∈ WS := memT 456 (by decide +kernel) (by decide +kernel)
theorem q454 : Cond.instanceMethod yX3_addScope ∈ WS := memT 454 (by decide +kernel) (by decide +kernel)
theorem q455 : Cond.selects RX3 yX3_addScope yX3_addScope ∈ WS := memT 455 (by decide +kernel) (by decide +kernel)
theorem q451 : Cond.classLink RL 13 xI ∈ WS := memT 451 (by decide +kernel) (by decide +kernel)
theorem q396 : Cond.castable xI xI ∈ NW := memN 396 (by decide +kernel) (by decide +kernel)
theorem q452 : Cond.classLink RL 15 xS ∈ WS := memT 452 (by decide +kernel) (by decide +kernel)
theorem q472 : Cond.castable xS xS ∈ NW := memN 472 (by decide +kernel) (by decide +kernel)
theorem q494 : Cond.methodLink RL 17 yX3_declare ∈ WS := memT 494 (by decide +kernel) (by decide +kernel)
theorem q497 : Cond.code yX3_declare cX3_declare 5 (some .int) ∈ WS := memT 497 (by decide +kernel) (by decide +kernel)
theorem q495 : Cond.instanceMethod yX3_declare ∈ WS := memT 495 (by decide +kernel) (by decide +kernel)
theorem q496 : Cond.selects RX3 yX3_declare yX3_declare ∈ WS := memT 496 (by decide +kernel) (by decide +kernel)
theorem q493 : Cond.classLink RL 21 xA ∈ WS := memT 493 (by decide +kernel) (by decide +kernel)
theorem q274 : Cond.castable xA xA ∈ NW := memN 274 (by decide +kernel) (by decide +kernel)
theorem q516 : Cond.methodLink RL 23 yX3_importOne ∈ WS := memT 516 (by decide +kernel) (by decide +kernel)
theorem q519 : Cond.code yX3_importOne cX3_importOne 7 (some .int) ∈ WS := memT 519 (by decide +kernel) (by decide +kernel)
theorem q517 : Cond.instanceMethod yX3_importOne ∈ WS := memT 517 (by decide +kernel) (by decide +kernel)
theorem q518 : Cond.selects RX3 yX3_importOne yX3_importOne ∈ WS := memT 518 (by decide +kernel) (by decide +kernel)
theorem q532 : Cond.methodLink RL 27 yX3_importAll ∈ WS := memT 532 (by decide +kernel) (by decide +kernel)
theorem q535 : Cond.code yX3_importAll cX3_importAll 6 (some .int) ∈ WS := memT 535 (by decide +kernel) (by decide +kernel)
theorem q533 : Cond.instanceMethod yX3_importAll ∈ WS := memT 533 (by decide +kernel) (by decide +kernel)
theorem q534 : Cond.selects RX3 yX3_importAll yX3_importAll ∈ WS := memT 534 (by decide +kernel) (by decide +kernel)
theorem q540 : Cond.methodLink RL 31 yX3_use ∈ WS := memT 540 (by decide +kernel) (by decide +kernel)
theorem q543 : Cond.code yX3_use cX3_use 4 (some .int) ∈ WS := memT 543 (by decide +kernel) (by decide +kernel)
theorem q541 : Cond.instanceMethod yX3_use ∈ WS := memT 541 (by decide +kernel) (by decide +kernel)
theorem q542 : Cond.selects RX3 yX3_use yX3_use ∈ WS := memT 542 (by decide +kernel) (by decide +kernel)
theorem q555 : Cond.methodLink RL 35 yX3_remove ∈ WS := memT 555 (by decide +kernel) (by decide +kernel)
theorem q558 : Cond.code yX3_remove cX3_remove 3 (some .int) ∈ WS := memT 558 (by decide +kernel) (by decide +kernel)
theorem q556 : Cond.instanceMethod yX3_remove ∈ WS := memT 556 (by decide +kernel) (by decide +kernel)
theorem q557 : Cond.selects RX3 yX3_remove yX3_remove ∈ WS := memT 557 (by decide +kernel) (by decide +kernel)
theorem q582 : Cond.methodLink RL 38 yX3_append ∈ WS := memT 582 (by decide +kernel) (by decide +kernel)
theorem q585 : Cond.code yX3_append cX3_append 2 (some .int) ∈ WS := memT 585 (by decide +kernel) (by decide +kernel)
theorem q583 : Cond.instanceMethod yX3_append ∈ WS := memT 583 (by decide +kernel) (by decide +kernel)
theorem q584 : Cond.selects RX3 yX3_append yX3_append ∈ WS := memT 584 (by decide +kernel) (by decide +kernel)
theorem q595 : Cond.methodLink RL 41 yX3_load ∈ WS := memT 595 (by decide +kernel) (by decide +kernel)
theorem q598 : Cond.code yX3_load cX3_load 2 (some .int) ∈ WS := memT 598 (by decide +kernel) (by decide +kernel)
theorem q596 : Cond.instanceMethod yX3_load ∈ WS := memT 596 (by decide +kernel) (by decide +kernel)
theorem q597 : Cond.selects RX3 yX3_load yX3_load ∈ WS := memT 597 (by decide +kernel) (by decide +kernel)
theorem q633 : Cond.methodLink RL 45 yX3_resolve ∈ WS := memT 633 (by decide +kernel) (by decide +kernel)
theorem q636 : Cond.code yX3_resolve cX3_resolve 5 (some .int) ∈ WS := memT 636 (by decide +kernel) (by decide +kernel)
theorem q634 : Cond.instanceMethod yX3_resolve ∈ WS := memT 634 (by decide +kernel) (by decide +kernel)
theorem q635 : Cond.selects RX3 yX3_resolve yX3_resolve ∈ WS := memT 635 (by decide +kernel) (by decide +kernel)
theorem q646 : Cond.methodLink RL 49 yX3_candidate ∈ WS := memT 646 (by decide +kernel) (by decide +kernel)
theorem q649 : Cond.code yX3_candidate cX3_candidate 6 (some .int) ∈ WS := memT 649 (by decide +kernel) (by decide +kernel)
theorem q647 : Cond.instanceMethod yX3_candidate ∈ WS := memT 647 (by decide +kernel) (by decide +kernel)
theorem q648 : Cond.selects RX3 yX3_candidate yX3_candidate ∈ WS := memT 648 (by decide +kernel) (by decide +kernel)
theorem q660 : Cond.methodLink RL 53 yX3_offers ∈ WS := memT 660 (by decide +kernel) (by decide +kernel)
theorem q663 : Cond.code yX3_offers cX3_offers 3 (some .int) ∈ WS := memT 663 (by decide +kernel) (by decide +kernel)
theorem q661 : Cond.instanceMethod yX3_offers ∈ WS := memT 661 (by decide +kernel) (by decide +kernel)
theorem q662 : Cond.selects RX3 yX3_offers yX3_offers ∈ WS := memT 662 (by decide +kernel) (by decide +kernel)
theorem q667 : Cond.methodLink RL 56 yX3_visible ∈ WS := memT 667 (by decide +kernel) (by decide +kernel)
theorem q671 : Cond.methodLink RL 60 yX3_rename ∈ WS := memT 671 (by decide +kernel) (by decide +kernel)
theorem q674 : Cond.code yX3_rename cX3_rename 4 (some .int) ∈ WS := memT 674 (by decide +kernel) (by decide +kernel)
theorem q672 : Cond.instanceMethod yX3_rename ∈ WS := memT 672 (by decide +kernel) (by decide +kernel)
theorem q673 : Cond.selects RX3 yX3_rename yX3_rename ∈ WS := memT 673 (by decide +kernel) (by decide +kernel)
theorem q694 : Cond.methodLink RL 63 yX3_ifRenamed ∈ WS := memT 694 (by decide +kernel) (by decide +kernel)
theorem q697 : Cond.code yX3_ifRenamed cX3_ifRenamed 5 (some .int) ∈ WS := memT 697 (by decide +kernel) (by decide +kernel)
theorem q695 : Cond.instanceMethod yX3_ifRenamed ∈ WS := memT 695 (by decide +kernel) (by decide +kernel)
theorem q696 : Cond.selects RX3 yX3_ifRenamed yX3_ifRenamed ∈ WS := memT 696 (by decide +kernel) (by decide +kernel)
theorem q706 : Cond.methodLink RL 66 yX3_freeName ∈ WS := memT 706 (by decide +kernel) (by decide +kernel)
theorem q709 : Cond.code yX3_freeName cX3_freeName 3 (some .int) ∈ WS := memT 709 (by decide +kernel) (by decide +kernel)
theorem q707 : Cond.instanceMethod yX3_freeName ∈ WS := memT 707 (by decide +kernel) (by decide +kernel)
theorem q708 : Cond.selects RX3 yX3_freeName yX3_freeName ∈ WS := memT 708 (by decide +kernel) (by decide +kernel)
theorem q713 : Cond.methodLink RL 69 yX3_count ∈ WS := memT 713 (by decide +kernel) (by decide +kernel)
theorem q717 : Cond.methodLink RL 72 yX3_declaration ∈ WS := memT 717 (by decide +kernel) (by decide +kernel)
theorem q721 : Cond.methodLink RL 75 yX3_imported ∈ WS := memT 721 (by decide +kernel) (by decide +kernel)
theorem q725 : Cond.methodLink RL 78 yX3_used ∈ WS := memT 725 (by decide +kernel) (by decide +kernel)
theorem q729 : Cond.methodLink RL 81 yX3_parent ∈ WS := memT 729 (by decide +kernel) (by decide +kernel)
theorem kv_X3_addScope : OKV yX3_addScope RX3 cX3_addScope 3 (some .int) 1 := ⟨⟨q454, q455, q1, q456⟩, by decide +kernel⟩
theorem kv_X3_declare : OKV yX3_declare RX3 cX3_declare 5 (some .int) 3 := ⟨⟨q495, q496, q1, q497⟩, by decide +kernel⟩
theorem kv_X3_importOne : OKV yX3_importOne RX3 cX3_importOne 7 (some .int) 5 := ⟨⟨q517, q518, q1, q519⟩, by decide +kernel⟩
theorem kv_X3_importAll : OKV yX3_importAll RX3 cX3_importAll 6 (some .int) 4 := ⟨⟨q533, q534, q1, q535⟩, by decide +kernel⟩
theorem kv_X3_use : OKV yX3_use RX3 cX3_use 4 (some .int) 2 := ⟨⟨q541, q542, q1, q543⟩, by decide +kernel⟩
theorem kv_X3_remove : OKV yX3_remove RX3 cX3_remove 3 (some .int) 2 := ⟨⟨q556, q557, q1, q558⟩, by decide +kernel⟩
theorem kv_X3_append : OKV yX3_append RX3 cX3_append 2 (some .int) 1 := ⟨⟨q583, q584, q1, q585⟩, by decide +kernel⟩
theorem kv_X3_load : OKV yX3_load RX3 cX3_load 2 (some .int) 0 := ⟨⟨q596, q597, q1, q598⟩, by decide +kernel⟩
theorem kv_X3_resolve : OKV yX3_resolve RX3 cX3_resolve 5 (some .int) 3 := ⟨⟨q634, q635, q1, q636⟩, by decide +kernel⟩
theorem kv_X3_candidate : OKV yX3_candidate RX3 cX3_candidate 6 (some .int) 4 := ⟨⟨q647, q648, q1, q649⟩, by decide +kernel⟩
theorem kv_X3_offers : OKV yX3_offers RX3 cX3_offers 3 (some .int) 2 := ⟨⟨q661, q662, q1, q663⟩, by decide +kernel⟩
theorem kv_X3_rename : OKV yX3_rename RX3 cX3_rename 4 (some .int) 2 := ⟨⟨q672, q673, q1, q674⟩, by decide +kernel⟩
theorem kv_X3_ifRenamed : OKV yX3_ifRenamed RX3 cX3_ifRenamed 5 (some .int) 3 := ⟨⟨q695, q696, q1, q697⟩, by decide +kernel⟩
theorem kv_X3_freeName : OKV yX3_freeName RX3 cX3_freeName 3 (some .int) 1 := ⟨⟨q707, q708, q1, q709⟩, by decide +kernel⟩
noncomputable def L_addScope (v1 : Int32) (μ : Mm) : Option (Int32 × Mm) :=
  bn (X3_addScope v1 μ) fun y μ1 =>
  thr y (fun E => (if E = xI then some (1, μ1) else (if E = xS then some (2, μ1) else none))) fun v =>
  some (0, setOut μ1 v.toInt64)
noncomputable def L_declare (v1 : Int32) (v2 : Int32) (v3 : Int32) (μ : Mm) : Option (Int32 × Mm) :=
  bn (X3_declare v1 v2 v3 μ) fun y μ1 =>
  thr y (fun E => (if E = xI then some (1, μ1) else (if E = xA then some (2, μ1) else (if E = xS then some (3, μ1) else none)))) fun v =>
  some (0, setOut μ1 v.toInt64)
noncomputable def L_importOne (v1 : Int32) (v2 : Int32) (v3 : Int32) (v4 : Int32) (v5 : Int32) (μ : Mm) : Option (Int32 × Mm) :=
  bn (X3_importOne v1 v2 v3 v4 v5 μ) fun y μ1 =>
  thr y (fun E => (if E = xI then some (1, μ1) else (if E = xA then some (2, μ1) else (if E = xS then some (3, μ1) else none)))) fun v =>
  some (0, setOut μ1 v.toInt64)
noncomputable def L_importAll (v1 : Int32) (v2 : Int32) (v3 : Int32) (v4 : Int32) (μ : Mm) : Option (Int32 × Mm) :=
  bn (X3_importAll v1 v2 v3 v4 μ) fun y μ1 =>
  thr y (fun E => (if E = xI then some (1, μ1) else (if E = xA then some (2, μ1) else (if E = xS then some (3, μ1) else none)))) fun v =>
  some (0, setOut μ1 v.toInt64)
noncomputable def L_use (v1 : Int32) (v2 : Int32) (μ : Mm) : Option (Int32 × Mm) :=
  bn (X3_use v1 v2 μ) fun y μ1 =>
  thr y (fun E => (if E = xI then some (1, μ1) else (if E = xA then some (2, μ1) else (if E = xS then some (3, μ1) else none)))) fun v =>
  some (0, setOut μ1 v.toInt64)
noncomputable def L_remove (v1 : Int32) (v2 : Int32) (μ : Mm) : Option (Int32 × Mm) :=
  bn (X3_remove v1 v2 μ) fun y μ1 =>
  thr y (fun E => (if E = xA then some (1, μ1) else (if E = xI then some (2, μ1) else none))) fun v =>
  some (0, setOut μ1 v.toInt64)
noncomputable def L_append (v1 : Int32) (μ : Mm) : Option (Int32 × Mm) :=
  bn (X3_append v1 μ) fun y μ1 =>
  thr y (fun E => (if E = xA then some (1, μ1) else (if E = xS then some (2, μ1) else none))) fun v =>
  some (0, setOut μ1 v.toInt64)
noncomputable def L_load  (μ : Mm) : Option (Int32 × Mm) :=
  bn (X3_load μ) fun y μ1 =>
  thr y (fun E => (if E = xA then some (1, μ1) else (if E = xS then some (2, μ1) else none))) fun v =>
  some (0, setOut μ1 v.toInt64)
noncomputable def L_resolve (v1 : Int32) (v2 : Int32) (v3 : Int32) (μ : Mm) : Option (Int32 × Mm) :=
  (X3_resolve v1 v2 v3 μ).bind fun y =>
  thr y (fun E => (if E = xI then some (1, μ) else (if E = xA then some (2, μ) else none))) fun v =>
  some (0, setOut μ v.toInt64)
noncomputable def L_candidate (v1 : Int32) (v2 : Int32) (v3 : Int32) (v4 : Int32) (μ : Mm) : Option (Int32 × Mm) :=
  (X3_candidate v1 v2 v3 v4 μ).bind fun y =>
  thr y (fun E => (if E = xI then some (1, μ) else (if E = xA then some (2, μ) else none))) fun v =>
  some (0, setOut μ v.toInt64)
noncomputable def L_offers (v1 : Int32) (v2 : Int32) (μ : Mm) : Option (Int32 × Mm) :=
  (X3_offers v1 v2 μ).bind fun y =>
  thr y (fun E => (if E = xI then some (1, μ) else (if E = xA then some (2, μ) else none))) fun v =>
  some (0, setOut μ v.toInt64)
noncomputable def L_visible (v1 : Int32) (v2 : Int32) (μ : Mm) : Option (Int32 × Mm) :=
  (X3_visible v1 v2 μ).bind fun y =>
  thr y (fun E => (if E = xI then some (1, μ) else none)) fun v =>
  some (0, setOut μ v.toInt64)
noncomputable def L_rename (v1 : Int32) (v2 : Int32) (μ : Mm) : Option (Int32 × Mm) :=
  bn (X3_rename v1 v2 μ) fun y μ1 =>
  thr y (fun E => (if E = xI then some (1, μ1) else (if E = xA then some (2, μ1) else none))) fun v =>
  some (0, setOut μ1 v.toInt64)
noncomputable def L_ifRenamed (v1 : Int32) (v2 : Int32) (v3 : Int32) (μ : Mm) : Option (Int32 × Mm) :=
  bn (X3_ifRenamed v1 v2 v3 μ) fun y μ1 =>
  thr y (fun E => (if E = xI then some (1, μ1) else (if E = xA then some (2, μ1) else none))) fun v =>
  some (0, setOut μ1 v.toInt64)
noncomputable def L_freeName (v1 : Int32) (μ : Mm) : Option (Int32 × Mm) :=
  bn (X3_freeName v1 μ) fun y μ1 =>
  thr y (fun E => (if E = xI then some (1, μ1) else none)) fun v =>
  some (0, setOut μ1 v.toInt64)
noncomputable def L_count (v1 : Int32) (μ : Mm) : Option (Int32 × Mm) :=
  bn (X3_count v1 μ) fun y μ1 =>
  thr y (fun E => (if E = xA then some (1, μ1) else none)) fun v =>
  some (0, setOut μ1 v.toInt64)
noncomputable def L_declaration (v1 : Int32) (v2 : Int32) (μ : Mm) : Option (Int32 × Mm) :=
  (X3_declaration v1 v2 μ).bind fun y =>
  thr y (fun E => (if E = xI then some (1, μ) else (if E = xA then some (2, μ) else none))) fun v =>
  some (0, setOut μ v.toInt64)
noncomputable def L_imported (v1 : Int32) (v2 : Int32) (μ : Mm) : Option (Int32 × Mm) :=
  bn (X3_imported v1 v2 μ) fun y μ1 =>
  thr y (fun E => (if E = xI then some (1, μ1) else (if E = xA then some (2, μ1) else none))) fun v =>
  some (0, setOut μ1 v.toInt64)
noncomputable def L_used (v1 : Int32) (v2 : Int32) (μ : Mm) : Option (Int32 × Mm) :=
  (X3_used v1 v2 μ).bind fun y =>
  thr y (fun E => (if E = xI then some (1, μ) else (if E = xA then some (2, μ) else none))) fun v =>
  some (0, setOut μ v.toInt64)
noncomputable def L_parent (v1 : Int32) (μ : Mm) : Option (Int32 × Mm) :=
  (X3_parent v1 μ).bind fun y =>
  thr y (fun E => (if E = xI then some (1, μ) else none)) fun v =>
  some (0, setOut μ v.toInt64)
theorem ok_L_addScope {l : Launch} (htr : l.stackTraces = false) {v1 : Int32} {μ : Mm} {r : Int32 × Mm} (h : L_addScope v1 μ = some r) : MetW l yL_addScope cL_addScope 4 [(0, 9, 12, 13), (0, 9, 15, 15)] 8 (fun ad => [.ref (ad 0), .int v1, .ref (ad 54)]) μ r.1 r.2 := by
  refine MetW.of htr (by decide) rfl (fun ad => Nat.le_of_ble_eq_true rfl) (fun p e s m args below meth c D cI cL ad C hT hN => ?_)
  show AW p l e (rmA 8 1 6) s m args below meth c 4 D cI cL ad (AA ad s.heap.size) 0 0 (QW D cI cL ad r.1 r.2 below args s) 0 [(0, .ref (ad 0)), (1, .int v1), (2, .ref (ad 54))] [] μ
  unfold L_addScope at h
  refine aw_aload_n (pc := 0) C dL_addScope_0 rfl 2 rfl ?_
  refine aw_iconst (pc := 1) C (v := 0) dL_addScope_1 rfl ?_
  refine aw_aload_n (pc := 2) C dL_addScope_2 rfl 0 rfl ?_
  refine aw_iload_n (pc := 3) C dL_addScope_3 rfl 1 rfl ?_
  obtain ⟨y, μ1, hq, h⟩ := bn_some h
  rcases y with E | v
  · rw [thr_l] at h
    by_cases e0 : E = xI
    · subst e0
      replace h := ite_T h rfl
      cases h
      refine aw_catchV (pc := 4) (a := 0) (Bs := [.int v1]) (rest := [.int 0, .ref (ad 54)]) C (ok_X3_addScope C.tr (r := (.inl xI, μ1)) hq) kv_X3_addScope q453 rfl rfl rfl rfl (Nat.le_of_ble_eq_true rfl) dL_addScope_4 ⟨(show 8 ≤ 8 by decide), (show 239 ≤ 248 by decide)⟩ ⟨Nat.le_refl _, Nat.le_refl _⟩ rfl [] ⟨0, 9, 12, 13⟩ [⟨0, 9, 15, 15⟩] hT (fun z hz => absurd hz List.not_mem_nil) (by decide) (by decide) q451 q396 rfl (fun q => ?_)
      refine aw_astore_n (pc := 12) C (x := q) (lv' := [(3, .ref q), (0, .ref (ad 0)), (1, .int v1), (2, .ref (ad 54))]) dL_addScope_12 rfl (by decide) rfl rfl ?_
      refine aw_iconst (pc := 13) C (v := 1) dL_addScope_13 rfl ?_
      exact aw_iretW (pc := 14) C dL_addScope_14
    replace h := ite_F h e0
    by_cases e1 : E = xS
    · subst e1
      replace h := ite_T h rfl
      cases h
      refine aw_catchV (pc := 4) (a := 0) (Bs := [.int v1]) (rest := [.int 0, .ref (ad 54)]) C (ok_X3_addScope C.tr (r := (.inl xS, μ1)) hq) kv_X3_addScope q453 rfl rfl rfl rfl (Nat.le_of_ble_eq_true rfl) dL_addScope_4 ⟨(show 8 ≤ 8 by decide), (show 239 ≤ 248 by decide)⟩ ⟨Nat.le_refl _, Nat.le_refl _⟩ rfl [⟨0, 9, 12, 13⟩] ⟨0, 9, 15, 15⟩ [] hT (fun z hz => by
      simp only [List.mem_cons, List.not_mem_nil, or_false] at hz
      rcases hz with rfl
      · exact Or.inr ⟨by decide, xI, C.2.2.2.2.1 _ q451, hN (xS, xI) (by decide)⟩) (by decide) (by decide) q452 q472 rfl (fun q => ?_)
      refine aw_astore_n (pc := 15) C (x := q) (lv' := [(3, .ref q), (0, .ref (ad 0)), (1, .int v1), (2, .ref (ad 54))]) dL_addScope_15 rfl (by decide) rfl rfl ?_
      refine aw_iconst (pc := 16) C (v := 2) dL_addScope_16 rfl ?_
      exact aw_iretW (pc := 17) C dL_addScope_17
    replace h := ite_F h e1
    cases h
  · rw [thr_r] at h
    cases h
    refine aw_Vi (pc := 4) (a := 0) (Bs := [.int v1]) C (ok_X3_addScope C.tr (r := (.inr v, μ1)) hq) kv_X3_addScope q453 rfl rfl rfl rfl dL_addScope_4 ⟨(show 8 ≤ 8 by decide), (show 239 ≤ 248 by decide)⟩ ⟨Nat.zero_le _, Nat.zero_le _⟩ [.int 0, .ref (ad 54)] (Nat.le_of_ble_eq_true rfl) rfl ?_
    refine aw_i2l (pc := 7) C dL_addScope_7 ?_
    refine aw_lastore (pc := 8) C rfl dL_addScope_8 rfl ?_
    refine aw_goto (pc := 9) C 18 dL_addScope_9 rfl ?_
    refine aw_iconst (pc := 18) C (v := 0) dL_addScope_18 rfl ?_
    refine aw_widen 1 6 (Nat.zero_le _) (Nat.zero_le _) ?_
    exact aw_iretW (pc := 19) C dL_addScope_19
theorem ok_L_declare {l : Launch} (htr : l.stackTraces = false) {v1 : Int32} {v2 : Int32} {v3 : Int32} {μ : Mm} {r : Int32 × Mm} (h : L_declare v1 v2 v3 μ = some r) : MetW l yL_declare cL_declare 6 [(0, 12, 15, 13), (0, 12, 19, 21), (0, 12, 23, 15)] 8 (fun ad => [.ref (ad 0), .int v1, .int v2, .int v3, .ref (ad 54)]) μ r.1 r.2 := by
  refine MetW.of htr (by decide) rfl (fun ad => Nat.le_of_ble_eq_true rfl) (fun p e s m args below meth c D cI cL ad C hT hN => ?_)
  show AW p l e (rmA 8 1 6) s m args below meth c 6 D cI cL ad (AA ad s.heap.size) 0 0 (QW D cI cL ad r.1 r.2 below args s) 0 [(0, .ref (ad 0)), (1, .int v1), (2, .int v2), (3, .int v3), (4, .ref (ad 54))] [] μ
  unfold L_declare at h
  refine aw_aload (pc := 0) C dL_declare_0 4 rfl ?_
  refine aw_iconst (pc := 2) C (v := 0) dL_declare_2 rfl ?_
  refine aw_aload_n (pc := 3) C dL_declare_3 rfl 0 rfl ?_
  refine aw_iload_n (pc := 4) C dL_declare_4 rfl 1 rfl ?_
  refine aw_iload_n (pc := 5) C dL_declare_5 rfl 2 rfl ?_
  refine aw_iload_n (pc := 6) C dL_declare_6 rfl 3 rfl ?_
  obtain ⟨y, μ1, hq, h⟩ := bn_some h
  rcases y with E | v
  · rw [thr_l] at h
    by_cases e0 : E = xI
    · subst e0
      replace h := ite_T h rfl
      cases h
      refine aw_catchV (pc := 7) (a := 0) (Bs := [.int v1, .int v2, .int v3]) (rest := [.int 0, .ref (ad 54)]) C (ok_X3_declare C.tr (r := (.inl xI, μ1)) hq) kv_X3_declare q494 rfl rfl rfl rfl (Nat.le_of_ble_eq_true rfl) dL_declare_7 ⟨(show 8 ≤ 8 by decide), (show 241 ≤ 248 by decide)⟩ ⟨Nat.le_refl _, Nat.le_refl _⟩ rfl [] ⟨0, 12, 15, 13⟩ [⟨0, 12, 19, 21⟩, ⟨0, 12, 23, 15⟩] hT (fun z hz => absurd hz List.not_mem_nil) (by decide) (by decide) q451 q396 rfl (fun q => ?_)
      refine aw_astore (pc := 15) C (x := q) (lv' := [(5, .ref q), (0, .ref (ad 0)), (1, .int v1), (2, .int v2), (3, .int v3), (4, .ref (ad 54))]) dL_declare_15 (by decide) rfl rfl ?_
      refine aw_iconst (pc := 17) C (v := 1) dL_declare_17 rfl ?_
      exact aw_iretW (pc := 18) C dL_declare_18
    replace h := ite_F h e0
    by_cases e1 : E = xA
    · subst e1
      replace h := ite_T h rfl
      cases h
      refine aw_catchV (pc := 7) (a := 0) (Bs := [.int v1, .int v2, .int v3]) (rest := [.int 0, .ref (ad 54)]) C (ok_X3_declare C.tr (r := (.inl xA, μ1)) hq) kv_X3_declare q494 rfl rfl rfl rfl (Nat.le_of_ble_eq_true rfl) dL_declare_7 ⟨(show 8 ≤ 8 by decide), (show 241 ≤ 248 by decide)⟩ ⟨Nat.le_refl _, Nat.le_refl _⟩ rfl [⟨0, 12, 15, 13⟩] ⟨0, 12, 19, 21⟩ [⟨0, 12, 23, 15⟩] hT (fun z hz => by
      simp only [List.mem_cons, List.not_mem_nil, or_false] at hz
      rcases hz with rfl
      · exact Or.inr ⟨by decide, xI, C.2.2.2.2.1 _ q451, hN (xA, xI) (by decide)⟩) (by decide) (by decide) q493 q274 rfl (fun q => ?_)
      refine aw_astore (pc := 19) C (x := q) (lv' := [(5, .ref q), (0, .ref (ad 0)), (1, .int v1), (2, .int v2), (3, .int v3), (4, .ref (ad 54))]) dL_declare_19 (by decide) rfl rfl ?_
      refine aw_iconst (pc := 21) C (v := 2) dL_declare_21 rfl ?_
      exact aw_iretW (pc := 22) C dL_declare_22
    replace h := ite_F h e1
    by_cases e2 : E = xS
    · subst e2
      replace h := ite_T h rfl
      cases h
      refine aw_catchV (pc := 7) (a := 0) (Bs := [.int v1, .int v2, .int v3]) (rest := [.int 0, .ref (ad 54)]) C (ok_X3_declare C.tr (r := (.inl xS, μ1)) hq) kv_X3_declare q494 rfl rfl rfl rfl (Nat.le_of_ble_eq_true rfl) dL_declare_7 ⟨(show 8 ≤ 8 by decide), (show 241 ≤ 248 by decide)⟩ ⟨Nat.le_refl _, Nat.le_refl _⟩ rfl [⟨0, 12, 15, 13⟩, ⟨0, 12, 19, 21⟩] ⟨0, 12, 23, 15⟩ [] hT (fun z hz => by
      simp only [List.mem_cons, List.not_mem_nil, or_false] at hz
      rcases hz with rfl | rfl
      · exact Or.inr ⟨by decide, xI, C.2.2.2.2.1 _ q451, hN (xS, xI) (by decide)⟩
      · exact Or.inr ⟨by decide, xA, C.2.2.2.2.1 _ q493, hN (xS, xA) (by decide)⟩) (by decide) (by decide) q452 q472 rfl (fun q => ?_)
      refine aw_astore (pc := 23) C (x := q) (lv' := [(5, .ref q), (0, .ref (ad 0)), (1, .int v1), (2, .int v2), (3, .int v3), (4, .ref (ad 54))]) dL_declare_23 (by decide) rfl rfl ?_
      refine aw_iconst (pc := 25) C (v := 3) dL_declare_25 rfl ?_
      exact aw_iretW (pc := 26) C dL_declare_26
    replace h := ite_F h e2
    cases h
  · rw [thr_r] at h
    cases h
    refine aw_Vi (pc := 7) (a := 0) (Bs := [.int v1, .int v2, .int v3]) C (ok_X3_declare C.tr (r := (.inr v, μ1)) hq) kv_X3_declare q494 rfl rfl rfl rfl dL_declare_7 ⟨(show 8 ≤ 8 by decide), (show 241 ≤ 248 by decide)⟩ ⟨Nat.zero_le _, Nat.zero_le _⟩ [.int 0, .ref (ad 54)] (Nat.le_of_ble_eq_true rfl) rfl ?_
    refine aw_i2l (pc := 10) C dL_declare_10 ?_
    refine aw_lastore (pc := 11) C rfl dL_declare_11 rfl ?_
    refine aw_goto (pc := 12) C 27 dL_declare_12 rfl ?_
    refine aw_iconst (pc := 27) C (v := 0) dL_declare_27 rfl ?_
    refine aw_widen 1 6 (Nat.zero_le _) (Nat.zero_le _) ?_
    exact aw_iretW (pc := 28) C dL_declare_28
theorem ok_L_importOne {l : Launch} (htr : l.stackTraces = false) {v1 : Int32} {v2 : Int32} {v3 : Int32} {v4 : Int32} {v5 : Int32} {μ : Mm} {r : Int32 × Mm} (h : L_importOne v1 v2 v3 v4 v5 μ = some r) : MetW l yL_importOne cL_importOne 8 [(0, 16, 19, 13), (0, 16, 23, 21), (0, 16, 27, 15)] 8 (fun ad => [.ref (ad 0), .int v1, .int v2, .int v3, .int v4, .int v5, .ref (ad 54)]) μ r.1 r.2 := by
  refine MetW.of htr (by decide) rfl (fun ad => Nat.le_of_ble_eq_true rfl) (fun p e s m args below meth c D cI cL ad C hT hN => ?_)
  show AW p l e (rmA 8 1 6) s m args below meth c 8 D cI cL ad (AA ad s.heap.size) 0 0 (QW D cI cL ad r.1 r.2 below args s) 0 [(0, .ref (ad 0)), (1, .int v1), (2, .int v2), (3, .int v3), (4, .int v4), (5, .int v5), (6, .ref (ad 54))] [] μ
  unfold L_importOne at h
  refine aw_aload (pc := 0) C dL_importOne_0 6 rfl ?_
  refine aw_iconst (pc := 2) C (v := 0) dL_importOne_2 rfl ?_
  refine aw_aload_n (pc := 3) C dL_importOne_3 rfl 0 rfl ?_
  refine aw_iload_n (pc := 4) C dL_importOne_4 rfl 1 rfl ?_
  refine aw_iload_n (pc := 5) C dL_importOne_5 rfl 2 rfl ?_
  refine aw_iload_n (pc := 6) C dL_importOne_6 rfl 3 rfl ?_
  refine aw_iload (pc := 7) C dL_importOne_7 4 rfl ?_
  refine aw_iload (pc := 9) C dL_importOne_9 5 rfl ?_
  obtain ⟨y, μ1, hq, h⟩ := bn_some h
  rcases y with E | v
  · rw [thr_l] at h
    by_cases e0 : E = xI
    · subst e0
      replace h := ite_T h rfl
      cases h
      refine aw_catchV (pc := 11) (a := 0) (Bs := [.int v1, .int v2, .int v3, .int v4, .int v5]) (rest := [.int 0, .ref (ad 54)]) C (ok_X3_importOne C.tr (r := (.inl xI, μ1)) hq) kv_X3_importOne q516 rfl rfl rfl rfl (Nat.le_of_ble_eq_true rfl) dL_importOne_11 ⟨(show 8 ≤ 8 by decide), (show 243 ≤ 248 by decide)⟩ ⟨Nat.le_refl _, Nat.le_refl _⟩ rfl [] ⟨0, 16, 19, 13⟩ [⟨0, 16, 23, 21⟩, ⟨0, 16, 27, 15⟩] hT (fun z hz => absurd hz List.not_mem_nil) (by decide) (by decide) q451 q396 rfl (fun q => ?_)
      refine aw_astore (pc := 19) C (x := q) (lv' := [(7, .ref q), (0, .ref (ad 0)), (1, .int v1), (2, .int v2), (3, .int v3), (4, .int v4), (5, .int v5), (6, .ref (ad 54))]) dL_importOne_19 (by decide) rfl rfl ?_
      refine aw_iconst (pc := 21) C (v := 1) dL_importOne_21 rfl ?_
      exact aw_iretW (pc := 22) C dL_importOne_22
    replace h := ite_F h e0
    by_cases e1 : E = xA
    · subst e1
      replace h := ite_T h rfl
      cases h
      refine aw_catchV (pc := 11) (a := 0) (Bs := [.int v1, .int v2, .int v3, .int v4, .int v5]) (rest := [.int 0, .ref (ad 54)]) C (ok_X3_importOne C.tr (r := (.inl xA, μ1)) hq) kv_X3_importOne q516 rfl rfl rfl rfl (Nat.le_of_ble_eq_true rfl) dL_importOne_11 ⟨(show 8 ≤ 8 by decide), (show 243 ≤ 248 by decide)⟩ ⟨Nat.le_refl _, Nat.le_refl _⟩ rfl [⟨0, 16, 19, 13⟩] ⟨0, 16, 23, 21⟩ [⟨0, 16, 27, 15⟩] hT (fun z hz => by
      simp only [List.mem_cons, List.not_mem_nil, or_false] at hz
      rcases hz with rfl
      · exact Or.inr ⟨by decide, xI, C.2.2.2.2.1 _ q451, hN (xA, xI) (by decide)⟩) (by decide) (by decide) q493 q274 rfl (fun q => ?_)
      refine aw_astore (pc := 23) C (x := q) (lv' := [(7, .ref q), (0, .ref (ad 0)), (1, .int v1), (2, .int v2), (3, .int v3), (4, .int v4), (5, .int v5), (6, .ref (ad 54))]) dL_importOne_23 (by decide) rfl rfl ?_
      refine aw_iconst (pc := 25) C (v := 2) dL_importOne_25 rfl ?_
      exact aw_iretW (pc := 26) C dL_importOne_26
    replace h := ite_F h e1
    by_cases e2 : E = xS
    · subst e2
      replace h := ite_T h rfl
      cases h
      refine aw_catchV (pc := 11) (a := 0) (Bs := [.int v1, .int v2, .int v3, .int v4, .int v5]) (rest := [.int 0, .ref (ad 54)]) C (ok_X3_importOne C.tr (r := (.inl xS, μ1)) hq) kv_X3_importOne q516 rfl rfl rfl rfl (Nat.le_of_ble_eq_true rfl) dL_importOne_11 ⟨(show 8 ≤ 8 by decide), (show 243 ≤ 248 by decide)⟩ ⟨Nat.le_refl _, Nat.le_refl _⟩ rfl [⟨0, 16, 19, 13⟩, ⟨0, 16, 23, 21⟩] ⟨0, 16, 27, 15⟩ [] hT (fun z hz => by
      simp only [List.mem_cons, List.not_mem_nil, or_false] at hz
      rcases hz with rfl | rfl
      · exact Or.inr ⟨by decide, xI, C.2.2.2.2.1 _ q451, hN (xS, xI) (by decide)⟩
      · exact Or.inr ⟨by decide, xA, C.2.2.2.2.1 _ q493, hN (xS, xA) (by decide)⟩) (by decide) (by decide) q452 q472 rfl (fun q => ?_)
      refine aw_astore (pc := 27) C (x := q) (lv' := [(7, .ref q), (0, .ref (ad 0)), (1, .int v1), (2, .int v2), (3, .int v3), (4, .int v4), (5, .int v5), (6, .ref (ad 54))]) dL_importOne_27 (by decide) rfl rfl ?_
      refine aw_iconst (pc := 29) C (v := 3) dL_importOne_29 rfl ?_
      exact aw_iretW (pc := 30) C dL_importOne_30
    replace h := ite_F h e2
    cases h
  · rw [thr_r] at h
    cases h
    refine aw_Vi (pc := 11) (a := 0) (Bs := [.int v1, .int v2, .int v3, .int v4, .int v5]) C (ok_X3_importOne C.tr (r := (.inr v, μ1)) hq) kv_X3_importOne q516 rfl rfl rfl rfl dL_importOne_11 ⟨(show 8 ≤ 8 by decide), (show 243 ≤ 248 by decide)⟩ ⟨Nat.zero_le _, Nat.zero_le _⟩ [.int 0, .ref (ad 54)] (Nat.le_of_ble_eq_true rfl) rfl ?_
    refine aw_i2l (pc := 14) C dL_importOne_14 ?_
    refine aw_lastore (pc := 15) C rfl dL_importOne_15 rfl ?_
    refine aw_goto (pc := 16) C 31 dL_importOne_16 rfl ?_
    refine aw_iconst (pc := 31) C (v := 0) dL_importOne_31 rfl ?_
    refine aw_widen 1 6 (Nat.zero_le _) (Nat.zero_le _) ?_
    exact aw_iretW (pc := 32) C dL_importOne_32
theorem ok_L_importAll {l : Launch} (htr : l.stackTraces = false) {v1 : Int32} {v2 : Int32} {v3 : Int32} {v4 : Int32} {μ : Mm} {r : Int32 × Mm} (h : L_importAll v1 v2 v3 v4 μ = some r) : MetW l yL_importAll cL_importAll 7 [(0, 14, 17, 13), (0, 14, 21, 21), (0, 14, 25, 15)] 8 (fun ad => [.ref (ad 0), .int v1, .int v2, .int v3, .int v4, .ref (ad 54)]) μ r.1 r.2 := by
  refine MetW.of htr (by decide) rfl (fun ad => Nat.le_of_ble_eq_true rfl) (fun p e s m args below meth c D cI cL ad C hT hN => ?_)
  show AW p l e (rmA 8 1 6) s m args below meth c 7 D cI cL ad (AA ad s.heap.size) 0 0 (QW D cI cL ad r.1 r.2 below args s) 0 [(0, .ref (ad 0)), (1, .int v1), (2, .int v2), (3, .int v3), (4, .int v4), (5, .ref (ad 54))] [] μ
  unfold L_importAll at h
  refine aw_aload (pc := 0) C dL_importAll_0 5 rfl ?_
  refine aw_iconst (pc := 2) C (v := 0) dL_importAll_2 rfl ?_
  refine aw_aload_n (pc := 3) C dL_importAll_3 rfl 0 rfl ?_
  refine aw_iload_n (pc := 4) C dL_importAll_4 rfl 1 rfl ?_
  refine aw_iload_n (pc := 5) C dL_importAll_5 rfl 2 rfl ?_
  refine aw_iload_n (pc := 6) C dL_importAll_6 rfl 3 rfl ?_
  refine aw_iload (pc := 7) C dL_importAll_7 4 rfl ?_
  obtain ⟨y, μ1, hq, h⟩ := bn_some h
  rcases y with E | v
  · rw [thr_l] at h
    by_cases e0 : E = xI
    · subst e0
      replace h := ite_T h rfl
      cases h
      refine aw_catchV (pc := 9) (a := 0) (Bs := [.int v1, .int v2, .int v3, .int v4]) (rest := [.int 0, .ref (ad 54)]) C (ok_X3_importAll C.tr (r := (.inl xI, μ1)) hq) kv_X3_importAll q532 rfl rfl rfl rfl (Nat.le_of_ble_eq_true rfl) dL_importAll_9 ⟨(show 8 ≤ 8 by decide), (show 242 ≤ 248 by decide)⟩ ⟨Nat.le_refl _, Nat.le_refl _⟩ rfl [] ⟨0, 14, 17, 13⟩ [⟨0, 14, 21, 21⟩, ⟨0, 14, 25, 15⟩] hT (fun z hz => absurd hz List.not_mem_nil) (by decide) (by decide) q451 q396 rfl (fun q => ?_)
      refine aw_astore (pc := 17) C (x := q) (lv' := [(6, .ref q), (0, .ref (ad 0)), (1, .int v1), (2, .int v2), (3, .int v3), (4, .int v4), (5, .ref (ad 54))]) dL_importAll_17 (by decide) rfl rfl ?_
      refine aw_iconst (pc := 19) C (v := 1) dL_importAll_19 rfl ?_
      exact aw_iretW (pc := 20) C dL_importAll_20
    replace h := ite_F h e0
    by_cases e1 : E = xA
    · subst e1
      replace h := ite_T h rfl
      cases h
      refine aw_catchV (pc := 9) (a := 0) (Bs := [.int v1, .int v2, .int v3, .int v4]) (rest := [.int 0, .ref (ad 54)]) C (ok_X3_importAll C.tr (r := (.inl xA, μ1)) hq) kv_X3_importAll q532 rfl rfl rfl rfl (Nat.le_of_ble_eq_true rfl) dL_importAll_9 ⟨(show 8 ≤ 8 by decide), (show 242 ≤ 248 by decide)⟩ ⟨Nat.le_refl _, Nat.le_refl _⟩ rfl [⟨0, 14, 17, 13⟩] ⟨0, 14, 21, 21⟩ [⟨0, 14, 25, 15⟩] hT (fun z hz => by
      simp only [List.mem_cons, List.not_mem_nil, or_false] at hz
      rcases hz with rfl
      · exact Or.inr ⟨by decide, xI, C.2.2.2.2.1 _ q451, hN (xA, xI) (by decide)⟩) (by decide) (by decide) q493 q274 rfl (fun q => ?_)
      refine aw_astore (pc := 21) C (x := q) (lv' := [(6, .ref q), (0, .ref (ad 0)), (1, .int v1), (2, .int v2), (3, .int v3), (4, .int v4), (5, .ref (ad 54))]) dL_importAll_21 (by decide) rfl rfl ?_
      refine aw_iconst (pc := 23) C (v := 2) dL_importAll_23 rfl ?_
      exact aw_iretW (pc := 24) C dL_importAll_24
    replace h := ite_F h e1
    by_cases e2 : E = xS
    · subst e2
      replace h := ite_T h rfl
      cases h
      refine aw_catchV (pc := 9) (a := 0) (Bs := [.int v1, .int v2, .int v3, .int v4]) (rest := [.int 0, .ref (ad 54)]) C (ok_X3_importAll C.tr (r := (.inl xS, μ1)) hq) kv_X3_importAll q532 rfl rfl rfl rfl (Nat.le_of_ble_eq_true rfl) dL_importAll_9 ⟨(show 8 ≤ 8 by decide), (show 242 ≤ 248 by decide)⟩ ⟨Nat.le_refl _, Nat.le_refl _⟩ rfl [⟨0, 14, 17, 13⟩, ⟨0, 14, 21, 21⟩] ⟨0, 14, 25, 15⟩ [] hT (fun z hz => by
      simp only [List.mem_cons, List.not_mem_nil, or_false] at hz
      rcases hz with rfl | rfl
      · exact Or.inr ⟨by decide, xI, C.2.2.2.2.1 _ q451, hN (xS, xI) (by decide)⟩
      · exact Or.inr ⟨by decide, xA, C.2.2.2.2.1 _ q493, hN (xS, xA) (by decide)⟩) (by decide) (by decide) q452 q472 rfl (fun q => ?_)
      refine aw_astore (pc := 25) C (x := q) (lv' := [(6, .ref q), (0, .ref (ad 0)), (1, .int v1), (2, .int v2), (3, .int v3), (4, .int v4), (5, .ref (ad 54))]) dL_importAll_25 (by decide) rfl rfl ?_
      refine aw_iconst (pc := 27) C (v := 3) dL_importAll_27 rfl ?_
      exact aw_iretW (pc := 28) C dL_importAll_28
    replace h := ite_F h e2
    cases h
  · rw [thr_r] at h
    cases h
    refine aw_Vi (pc := 9) (a := 0) (Bs := [.int v1, .int v2, .int v3, .int v4]) C (ok_X3_importAll C.tr (r := (.inr v, μ1)) hq) kv_X3_importAll q532 rfl rfl rfl rfl dL_importAll_9 ⟨(show 8 ≤ 8 by decide), (show 242 ≤ 248 by decide)⟩ ⟨Nat.zero_le _, Nat.zero_le _⟩ [.int 0, .ref (ad 54)] (Nat.le_of_ble_eq_true rfl) rfl ?_
    refine aw_i2l (pc := 12) C dL_importAll_12 ?_
    refine aw_lastore (pc := 13) C rfl dL_importAll_13 rfl ?_
    refine aw_goto (pc := 14) C 29 dL_importAll_14 rfl ?_
    refine aw_iconst (pc := 29) C (v := 0) dL_importAll_29 rfl ?_
    refine aw_widen 1 6 (Nat.zero_le _) (Nat.zero_le _) ?_
    exact aw_iretW (pc := 30) C dL_importAll_30
theorem ok_L_use {l : Launch} (htr : l.stackTraces = false) {v1 : Int32} {v2 : Int32} {μ : Mm} {r : Int32 × Mm} (h : L_use v1 v2 μ = some r) : MetW l yL_use cL_use 5 [(0, 10, 13, 13), (0, 10, 17, 21), (0, 10, 21, 15)] 8 (fun ad => [.ref (ad 0), .int v1, .int v2, .ref (ad 54)]) μ r.1 r.2 := by
  refine MetW.of htr (by decide) rfl (fun ad => Nat.le_of_ble_eq_true rfl) (fun p e s m args below meth c D cI cL ad C hT hN => ?_)
  show AW p l e (rmA 8 1 6) s m args below meth c 5 D cI cL ad (AA ad s.heap.size) 0 0 (QW D cI cL ad r.1 r.2 below args s) 0 [(0, .ref (ad 0)), (1, .int v1), (2, .int v2), (3, .ref (ad 54))] [] μ
  unfold L_use at h
  refine aw_aload_n (pc := 0) C dL_use_0 rfl 3 rfl ?_
  refine aw_iconst (pc := 1) C (v := 0) dL_use_1 rfl ?_
  refine aw_aload_n (pc := 2) C dL_use_2 rfl 0 rfl ?_
  refine aw_iload_n (pc := 3) C dL_use_3 rfl 1 rfl ?_
  refine aw_iload_n (pc := 4) C dL_use_4 rfl 2 rfl ?_
  obtain ⟨y, μ1, hq, h⟩ := bn_some h
  rcases y with E | v
  · rw [thr_l] at h
    by_cases e0 : E = xI
    · subst e0
      replace h := ite_T h rfl
      cases h
      refine aw_catchV (pc := 5) (a := 0) (Bs := [.int v1, .int v2]) (rest := [.int 0, .ref (ad 54)]) C (ok_X3_use C.tr (r := (.inl xI, μ1)) hq) kv_X3_use q540 rfl rfl rfl rfl (Nat.le_of_ble_eq_true rfl) dL_use_5 ⟨(show 8 ≤ 8 by decide), (show 240 ≤ 248 by decide)⟩ ⟨Nat.le_refl _, Nat.le_refl _⟩ rfl [] ⟨0, 10, 13, 13⟩ [⟨0, 10, 17, 21⟩, ⟨0, 10, 21, 15⟩] hT (fun z hz => absurd hz List.not_mem_nil) (by decide) (by decide) q451 q396 rfl (fun q => ?_)
      refine aw_astore (pc := 13) C (x := q) (lv' := [(4, .ref q), (0, .ref (ad 0)), (1, .int v1), (2, .int v2), (3, .ref (ad 54))]) dL_use_13 (by decide) rfl rfl ?_
      refine aw_iconst (pc := 15) C (v := 1) dL_use_15 rfl ?_
      exact aw_iretW (pc := 16) C dL_use_16
    replace h := ite_F h e0
    by_cases e1 : E = xA
    · subst e1
      replace h := ite_T h rfl
      cases h
      refine aw_catchV (pc := 5) (a := 0) (Bs := [.int v1, .int v2]) (rest := [.int 0, .ref (ad 54)]) C (ok_X3_use C.tr (r := (.inl xA, μ1)) hq) kv_X3_use q540 rfl rfl rfl rfl (Nat.le_of_ble_eq_true rfl) dL_use_5 ⟨(show 8 ≤ 8 by decide), (show 240 ≤ 248 by decide)⟩ ⟨Nat.le_refl _, Nat.le_refl _⟩ rfl [⟨0, 10, 13, 13⟩] ⟨0, 10, 17, 21⟩ [⟨0, 10, 21, 15⟩] hT (fun z hz => by
      simp only [List.mem_cons, List.not_mem_nil, or_false] at hz
      rcases hz with rfl
      · exact Or.inr ⟨by decide, xI, C.2.2.2.2.1 _ q451, hN (xA, xI) (by decide)⟩) (by decide) (by decide) q493 q274 rfl (fun q => ?_)
      refine aw_astore (pc := 17) C (x := q) (lv' := [(4, .ref q), (0, .ref (ad 0)), (1, .int v1), (2, .int v2), (3, .ref (ad 54))]) dL_use_17 (by decide) rfl rfl ?_
      refine aw_iconst (pc := 19) C (v := 2) dL_use_19 rfl ?_
      exact aw_iretW (pc := 20) C dL_use_20
    replace h := ite_F h e1
    by_cases e2 : E = xS
    · subst e2
      replace h := ite_T h rfl
      cases h
      refine aw_catchV (pc := 5) (a := 0) (Bs := [.int v1, .int v2]) (rest := [.int 0, .ref (ad 54)]) C (ok_X3_use C.tr (r := (.inl xS, μ1)) hq) kv_X3_use q540 rfl rfl rfl rfl (Nat.le_of_ble_eq_true rfl) dL_use_5 ⟨(show 8 ≤ 8 by decide), (show 240 ≤ 248 by decide)⟩ ⟨Nat.le_refl _, Nat.le_refl _⟩ rfl [⟨0, 10, 13, 13⟩, ⟨0, 10, 17, 21⟩] ⟨0, 10, 21, 15⟩ [] hT (fun z hz => by
      simp only [List.mem_cons, List.not_mem_nil, or_false] at hz
      rcases hz with rfl | rfl
      · exact Or.inr ⟨by decide, xI, C.2.2.2.2.1 _ q451, hN (xS, xI) (by decide)⟩
      · exact Or.inr ⟨by decide, xA, C.2.2.2.2.1 _ q493, hN (xS, xA) (by decide)⟩) (by decide) (by decide) q452 q472 rfl (fun q => ?_)
      refine aw_astore (pc := 21) C (x := q) (lv' := [(4, .ref q), (0, .ref (ad 0)), (1, .int v1), (2, .int v2), (3, .ref (ad 54))]) dL_use_21 (by decide) rfl rfl ?_
      refine aw_iconst (pc := 23) C (v := 3) dL_use_23 rfl ?_
      exact aw_iretW (pc := 24) C dL_use_24
    replace h := ite_F h e2
    cases h
  · rw [thr_r] at h
    cases h
    refine aw_Vi (pc := 5) (a := 0) (Bs := [.int v1, .int v2]) C (ok_X3_use C.tr (r := (.inr v, μ1)) hq) kv_X3_use q540 rfl rfl rfl rfl dL_use_5 ⟨(show 8 ≤ 8 by decide), (show 240 ≤ 248 by decide)⟩ ⟨Nat.zero_le _, Nat.zero_le _⟩ [.int 0, .ref (ad 54)] (Nat.le_of_ble_eq_true rfl) rfl ?_
    refine aw_i2l (pc := 8) C dL_use_8 ?_
    refine aw_lastore (pc := 9) C rfl dL_use_9 rfl ?_
    refine aw_goto (pc := 10) C 25 dL_use_10 rfl ?_
    refine aw_iconst (pc := 25) C (v := 0) dL_use_25 rfl ?_
    refine aw_widen 1 6 (Nat.zero_le _) (Nat.zero_le _) ?_
    exact aw_iretW (pc := 26) C dL_use_26
theorem ok_L_remove {l : Launch} (htr : l.stackTraces = false) {v1 : Int32} {v2 : Int32} {μ : Mm} {r : Int32 × Mm} (h : L_remove v1 v2 μ = some r) : MetW l yL_remove cL_remove 5 [(0, 10, 13, 21), (0, 10, 17, 13)] 8 (fun ad => [.ref (ad 0), .int v1, .int v2, .ref (ad 54)]) μ r.1 r.2 := by
  refine MetW.of htr (by decide) rfl (fun ad => Nat.le_of_ble_eq_true rfl) (fun p e s m args below meth c D cI cL ad C hT hN => ?_)
  show AW p l e (rmA 8 1 6) s m args below meth c 5 D cI cL ad (AA ad s.heap.size) 0 0 (QW D cI cL ad r.1 r.2 below args s) 0 [(0, .ref (ad 0)), (1, .int v1), (2, .int v2), (3, .ref (ad 54))] [] μ
  unfold L_remove at h
  refine aw_aload_n (pc := 0) C dL_remove_0 rfl 3 rfl ?_
  refine aw_iconst (pc := 1) C (v := 0) dL_remove_1 rfl ?_
  refine aw_aload_n (pc := 2) C dL_remove_2 rfl 0 rfl ?_
  refine aw_iload_n (pc := 3) C dL_remove_3 rfl 1 rfl ?_
  refine aw_iload_n (pc := 4) C dL_remove_4 rfl 2 rfl ?_
  obtain ⟨y, μ1, hq, h⟩ := bn_some h
  rcases y with E | v
  · rw [thr_l] at h
    by_cases e0 : E = xA
    · subst e0
      replace h := ite_T h rfl
      cases h
      refine aw_catchV (pc := 5) (a := 0) (Bs := [.int v1, .int v2]) (rest := [.int 0, .ref (ad 54)]) C (ok_X3_remove C.tr (r := (.inl xA, μ1)) hq) kv_X3_remove q555 rfl rfl rfl rfl (Nat.le_of_ble_eq_true rfl) dL_remove_5 ⟨(show 8 ≤ 8 by decide), (show 239 ≤ 248 by decide)⟩ ⟨Nat.le_refl _, Nat.le_refl _⟩ rfl [] ⟨0, 10, 13, 21⟩ [⟨0, 10, 17, 13⟩] hT (fun z hz => absurd hz List.not_mem_nil) (by decide) (by decide) q493 q274 rfl (fun q => ?_)
      refine aw_astore (pc := 13) C (x := q) (lv' := [(4, .ref q), (0, .ref (ad 0)), (1, .int v1), (2, .int v2), (3, .ref (ad 54))]) dL_remove_13 (by decide) rfl rfl ?_
      refine aw_iconst (pc := 15) C (v := 1) dL_remove_15 rfl ?_
      exact aw_iretW (pc := 16) C dL_remove_16
    replace h := ite_F h e0
    by_cases e1 : E = xI
    · subst e1
      replace h := ite_T h rfl
      cases h
      refine aw_catchV (pc := 5) (a := 0) (Bs := [.int v1, .int v2]) (rest := [.int 0, .ref (ad 54)]) C (ok_X3_remove C.tr (r := (.inl xI, μ1)) hq) kv_X3_remove q555 rfl rfl rfl rfl (Nat.le_of_ble_eq_true rfl) dL_remove_5 ⟨(show 8 ≤ 8 by decide), (show 239 ≤ 248 by decide)⟩ ⟨Nat.le_refl _, Nat.le_refl _⟩ rfl [⟨0, 10, 13, 21⟩] ⟨0, 10, 17, 13⟩ [] hT (fun z hz => by
      simp only [List.mem_cons, List.not_mem_nil, or_false] at hz
      rcases hz with rfl
      · exact Or.inr ⟨by decide, xA, C.2.2.2.2.1 _ q493, hN (xI, xA) (by decide)⟩) (by decide) (by decide) q451 q396 rfl (fun q => ?_)
      refine aw_astore (pc := 17) C (x := q) (lv' := [(4, .ref q), (0, .ref (ad 0)), (1, .int v1), (2, .int v2), (3, .ref (ad 54))]) dL_remove_17 (by decide) rfl rfl ?_
      refine aw_iconst (pc := 19) C (v := 2) dL_remove_19 rfl ?_
      exact aw_iretW (pc := 20) C dL_remove_20
    replace h := ite_F h e1
    cases h
  · rw [thr_r] at h
    cases h
    refine aw_Vi (pc := 5) (a := 0) (Bs := [.int v1, .int v2]) C (ok_X3_remove C.tr (r := (.inr v, μ1)) hq) kv_X3_remove q555 rfl rfl rfl rfl dL_remove_5 ⟨(show 8 ≤ 8 by decide), (show 239 ≤ 248 by decide)⟩ ⟨Nat.zero_le _, Nat.zero_le _⟩ [.int 0, .ref (ad 54)] (Nat.le_of_ble_eq_true rfl) rfl ?_
    refine aw_i2l (pc := 8) C dL_remove_8 ?_
    refine aw_lastore (pc := 9) C rfl dL_remove_9 rfl ?_
    refine aw_goto (pc := 10) C 21 dL_remove_10 rfl ?_
    refine aw_iconst (pc := 21) C (v := 0) dL_remove_21 rfl ?_
    refine aw_widen 1 6 (Nat.zero_le _) (Nat.zero_le _) ?_
    exact aw_iretW (pc := 22) C dL_remove_22
theorem ok_L_append {l : Launch} (htr : l.stackTraces = false) {v1 : Int32} {μ : Mm} {r : Int32 × Mm} (h : L_append v1 μ = some r) : MetW l yL_append cL_append 4 [(0, 9, 12, 21), (0, 9, 15, 15)] 7 (fun ad => [.ref (ad 0), .int v1, .ref (ad 54)]) μ r.1 r.2 := by
  refine MetW.of htr (by decide) rfl (fun ad => Nat.le_of_ble_eq_true rfl) (fun p e s m args below meth c D cI cL ad C hT hN => ?_)
  show AW p l e (rmA 7 1 6) s m args below meth c 4 D cI cL ad (AA ad s.heap.size) 0 0 (QW D cI cL ad r.1 r.2 below args s) 0 [(0, .ref (ad 0)), (1, .int v1), (2, .ref (ad 54))] [] μ
  unfold L_append at h
  refine aw_aload_n (pc := 0) C dL_append_0 rfl 2 rfl ?_
  refine aw_iconst (pc := 1) C (v := 0) dL_append_1 rfl ?_
  refine aw_aload_n (pc := 2) C dL_append_2 rfl 0 rfl ?_
  refine aw_iload_n (pc := 3) C dL_append_3 rfl 1 rfl ?_
  obtain ⟨y, μ1, hq, h⟩ := bn_some h
  rcases y with E | v
  · rw [thr_l] at h
    by_cases e0 : E = xA
    · subst e0
      replace h := ite_T h rfl
      cases h
      refine aw_catchV (pc := 4) (a := 0) (Bs := [.int v1]) (rest := [.int 0, .ref (ad 54)]) C (ok_X3_append C.tr (r := (.inl xA, μ1)) hq) kv_X3_append q582 rfl rfl rfl rfl (Nat.le_of_ble_eq_true rfl) dL_append_4 ⟨(show 7 ≤ 7 by decide), (show 207 ≤ 217 by decide)⟩ ⟨Nat.le_refl _, Nat.le_refl _⟩ rfl [] ⟨0, 9, 12, 21⟩ [⟨0, 9, 15, 15⟩] hT (fun z hz => absurd hz List.not_mem_nil) (by decide) (by decide) q493 q274 rfl (fun q => ?_)
      refine aw_astore_n (pc := 12) C (x := q) (lv' := [(3, .ref q), (0, .ref (ad 0)), (1, .int v1), (2, .ref (ad 54))]) dL_append_12 rfl (by decide) rfl rfl ?_
      refine aw_iconst (pc := 13) C (v := 1) dL_append_13 rfl ?_
      exact aw_iretW (pc := 14) C dL_append_14
    replace h := ite_F h e0
    by_cases e1 : E = xS
    · subst e1
      replace h := ite_T h rfl
      cases h
      refine aw_catchV (pc := 4) (a := 0) (Bs := [.int v1]) (rest := [.int 0, .ref (ad 54)]) C (ok_X3_append C.tr (r := (.inl xS, μ1)) hq) kv_X3_append q582 rfl rfl rfl rfl (Nat.le_of_ble_eq_true rfl) dL_append_4 ⟨(show 7 ≤ 7 by decide), (show 207 ≤ 217 by decide)⟩ ⟨Nat.le_refl _, Nat.le_refl _⟩ rfl [⟨0, 9, 12, 21⟩] ⟨0, 9, 15, 15⟩ [] hT (fun z hz => by
      simp only [List.mem_cons, List.not_mem_nil, or_false] at hz
      rcases hz with rfl
      · exact Or.inr ⟨by decide, xA, C.2.2.2.2.1 _ q493, hN (xS, xA) (by decide)⟩) (by decide) (by decide) q452 q472 rfl (fun q => ?_)
      refine aw_astore_n (pc := 15) C (x := q) (lv' := [(3, .ref q), (0, .ref (ad 0)), (1, .int v1), (2, .ref (ad 54))]) dL_append_15 rfl (by decide) rfl rfl ?_
      refine aw_iconst (pc := 16) C (v := 2) dL_append_16 rfl ?_
      exact aw_iretW (pc := 17) C dL_append_17
    replace h := ite_F h e1
    cases h
  · rw [thr_r] at h
    cases h
    refine aw_Vi (pc := 4) (a := 0) (Bs := [.int v1]) C (ok_X3_append C.tr (r := (.inr v, μ1)) hq) kv_X3_append q582 rfl rfl rfl rfl dL_append_4 ⟨(show 7 ≤ 7 by decide), (show 207 ≤ 217 by decide)⟩ ⟨Nat.zero_le _, Nat.zero_le _⟩ [.int 0, .ref (ad 54)] (Nat.le_of_ble_eq_true rfl) rfl ?_
    refine aw_i2l (pc := 7) C dL_append_7 ?_
    refine aw_lastore (pc := 8) C rfl dL_append_8 rfl ?_
    refine aw_goto (pc := 9) C 18 dL_append_9 rfl ?_
    refine aw_iconst (pc := 18) C (v := 0) dL_append_18 rfl ?_
    refine aw_widen 1 6 (Nat.zero_le _) (Nat.zero_le _) ?_
    exact aw_iretW (pc := 19) C dL_append_19
theorem ok_L_load {l : Launch} (htr : l.stackTraces = false)  {μ : Mm} {r : Int32 × Mm} (h : L_load μ = some r) : MetW l yL_load cL_load 3 [(0, 8, 11, 21), (0, 8, 14, 15)] 7 (fun ad => [.ref (ad 0), .ref (ad 54)]) μ r.1 r.2 := by
  refine MetW.of htr (by decide) rfl (fun ad => Nat.le_of_ble_eq_true rfl) (fun p e s m args below meth c D cI cL ad C hT hN => ?_)
  show AW p l e (rmA 7 1 6) s m args below meth c 3 D cI cL ad (AA ad s.heap.size) 0 0 (QW D cI cL ad r.1 r.2 below args s) 0 [(0, .ref (ad 0)), (1, .ref (ad 54))] [] μ
  unfold L_load at h
  refine aw_aload_n (pc := 0) C dL_load_0 rfl 1 rfl ?_
  refine aw_iconst (pc := 1) C (v := 0) dL_load_1 rfl ?_
  refine aw_aload_n (pc := 2) C dL_load_2 rfl 0 rfl ?_
  obtain ⟨y, μ1, hq, h⟩ := bn_some h
  rcases y with E | v
  · rw [thr_l] at h
    by_cases e0 : E = xA
    · subst e0
      replace h := ite_T h rfl
      cases h
      refine aw_catchV (pc := 3) (a := 0) (Bs := []) (rest := [.int 0, .ref (ad 54)]) C (ok_X3_load C.tr (r := (.inl xA, μ1)) hq) kv_X3_load q595 rfl rfl rfl rfl (Nat.le_of_ble_eq_true rfl) dL_load_3 ⟨(show 7 ≤ 7 by decide), (show 207 ≤ 217 by decide)⟩ ⟨Nat.le_refl _, Nat.le_refl _⟩ rfl [] ⟨0, 8, 11, 21⟩ [⟨0, 8, 14, 15⟩] hT (fun z hz => absurd hz List.not_mem_nil) (by decide) (by decide) q493 q274 rfl (fun q => ?_)
      refine aw_astore_n (pc := 11) C (x := q) (lv' := [(2, .ref q), (0, .ref (ad 0)), (1, .ref (ad 54))]) dL_load_11 rfl (by decide) rfl rfl ?_
      refine aw_iconst (pc := 12) C (v := 1) dL_load_12 rfl ?_
      exact aw_iretW (pc := 13) C dL_load_13
    replace h := ite_F h e0
    by_cases e1 : E = xS
    · subst e1
      replace h := ite_T h rfl
      cases h
      refine aw_catchV (pc := 3) (a := 0) (Bs := []) (rest := [.int 0, .ref (ad 54)]) C (ok_X3_load C.tr (r := (.inl xS, μ1)) hq) kv_X3_load q595 rfl rfl rfl rfl (Nat.le_of_ble_eq_true rfl) dL_load_3 ⟨(show 7 ≤ 7 by decide), (show 207 ≤ 217 by decide)⟩ ⟨Nat.le_refl _, Nat.le_refl _⟩ rfl [⟨0, 8, 11, 21⟩] ⟨0, 8, 14, 15⟩ [] hT (fun z hz => by
      simp only [List.mem_cons, List.not_mem_nil, or_false] at hz
      rcases hz with rfl
      · exact Or.inr ⟨by decide, xA, C.2.2.2.2.1 _ q493, hN (xS, xA) (by decide)⟩) (by decide) (by decide) q452 q472 rfl (fun q => ?_)
      refine aw_astore_n (pc := 14) C (x := q) (lv' := [(2, .ref q), (0, .ref (ad 0)), (1, .ref (ad 54))]) dL_load_14 rfl (by decide) rfl rfl ?_
      refine aw_iconst (pc := 15) C (v := 2) dL_load_15 rfl ?_
      exact aw_iretW (pc := 16) C dL_load_16
    replace h := ite_F h e1
    cases h
  · rw [thr_r] at h
    cases h
    refine aw_Vi (pc := 3) (a := 0) (Bs := []) C (ok_X3_load C.tr (r := (.inr v, μ1)) hq) kv_X3_load q595 rfl rfl rfl rfl dL_load_3 ⟨(show 7 ≤ 7 by decide), (show 207 ≤ 217 by decide)⟩ ⟨Nat.zero_le _, Nat.zero_le _⟩ [.int 0, .ref (ad 54)] (Nat.le_of_ble_eq_true rfl) rfl ?_
    refine aw_i2l (pc := 6) C dL_load_6 ?_
    refine aw_lastore (pc := 7) C rfl dL_load_7 rfl ?_
    refine aw_goto (pc := 8) C 17 dL_load_8 rfl ?_
    refine aw_iconst (pc := 17) C (v := 0) dL_load_17 rfl ?_
    refine aw_widen 1 6 (Nat.zero_le _) (Nat.zero_le _) ?_
    exact aw_iretW (pc := 18) C dL_load_18
theorem ok_L_resolve {l : Launch} (htr : l.stackTraces = false) {v1 : Int32} {v2 : Int32} {v3 : Int32} {μ : Mm} {r : Int32 × Mm} (h : L_resolve v1 v2 v3 μ = some r) : MetW l yL_resolve cL_resolve 6 [(0, 12, 15, 13), (0, 12, 19, 21)] 8 (fun ad => [.ref (ad 0), .int v1, .int v2, .int v3, .ref (ad 54)]) μ r.1 r.2 := by
  refine MetW.of htr (by decide) rfl (fun ad => Nat.le_of_ble_eq_true rfl) (fun p e s m args below meth c D cI cL ad C hT hN => ?_)
  show AW p l e (rmA 8 1 6) s m args below meth c 6 D cI cL ad (AA ad s.heap.size) 0 0 (QW D cI cL ad r.1 r.2 below args s) 0 [(0, .ref (ad 0)), (1, .int v1), (2, .int v2), (3, .int v3), (4, .ref (ad 54))] [] μ
  unfold L_resolve at h
  refine aw_aload (pc := 0) C dL_resolve_0 4 rfl ?_
  refine aw_iconst (pc := 2) C (v := 0) dL_resolve_2 rfl ?_
  refine aw_aload_n (pc := 3) C dL_resolve_3 rfl 0 rfl ?_
  refine aw_iload_n (pc := 4) C dL_resolve_4 rfl 1 rfl ?_
  refine aw_iload_n (pc := 5) C dL_resolve_5 rfl 2 rfl ?_
  refine aw_iload_n (pc := 6) C dL_resolve_6 rfl 3 rfl ?_
  obtain ⟨y, hq, h⟩ := bi_some h
  rcases y with E | v
  · rw [thr_l] at h
    by_cases e0 : E = xI
    · subst e0
      replace h := ite_T h rfl
      cases h
      refine aw_catchV (pc := 7) (a := 0) (Bs := [.int v1, .int v2, .int v3]) (rest := [.int 0, .ref (ad 54)]) C (ok_X3_resolve C.tr (r := .inl xI) hq) kv_X3_resolve q633 rfl rfl rfl rfl (Nat.le_of_ble_eq_true rfl) dL_resolve_7 ⟨(show 8 ≤ 8 by decide), (show 241 ≤ 248 by decide)⟩ ⟨Nat.le_refl _, Nat.le_refl _⟩ rfl [] ⟨0, 12, 15, 13⟩ [⟨0, 12, 19, 21⟩] hT (fun z hz => absurd hz List.not_mem_nil) (by decide) (by decide) q451 q396 rfl (fun q => ?_)
      refine aw_astore (pc := 15) C (x := q) (lv' := [(5, .ref q), (0, .ref (ad 0)), (1, .int v1), (2, .int v2), (3, .int v3), (4, .ref (ad 54))]) dL_resolve_15 (by decide) rfl rfl ?_
      refine aw_iconst (pc := 17) C (v := 1) dL_resolve_17 rfl ?_
      exact aw_iretW (pc := 18) C dL_resolve_18
    replace h := ite_F h e0
    by_cases e1 : E = xA
    · subst e1
      replace h := ite_T h rfl
      cases h
      refine aw_catchV (pc := 7) (a := 0) (Bs := [.int v1, .int v2, .int v3]) (rest := [.int 0, .ref (ad 54)]) C (ok_X3_resolve C.tr (r := .inl xA) hq) kv_X3_resolve q633 rfl rfl rfl rfl (Nat.le_of_ble_eq_true rfl) dL_resolve_7 ⟨(show 8 ≤ 8 by decide), (show 241 ≤ 248 by decide)⟩ ⟨Nat.le_refl _, Nat.le_refl _⟩ rfl [⟨0, 12, 15, 13⟩] ⟨0, 12, 19, 21⟩ [] hT (fun z hz => by
      simp only [List.mem_cons, List.not_mem_nil, or_false] at hz
      rcases hz with rfl
      · exact Or.inr ⟨by decide, xI, C.2.2.2.2.1 _ q451, hN (xA, xI) (by decide)⟩) (by decide) (by decide) q493 q274 rfl (fun q => ?_)
      refine aw_astore (pc := 19) C (x := q) (lv' := [(5, .ref q), (0, .ref (ad 0)), (1, .int v1), (2, .int v2), (3, .int v3), (4, .ref (ad 54))]) dL_resolve_19 (by decide) rfl rfl ?_
      refine aw_iconst (pc := 21) C (v := 2) dL_resolve_21 rfl ?_
      exact aw_iretW (pc := 22) C dL_resolve_22
    replace h := ite_F h e1
    cases h
  · rw [thr_r] at h
    cases h
    refine aw_Vi (pc := 7) (a := 0) (Bs := [.int v1, .int v2, .int v3]) C (ok_X3_resolve C.tr (r := .inr v) hq) kv_X3_resolve q633 rfl rfl rfl rfl dL_resolve_7 ⟨(show 8 ≤ 8 by decide), (show 241 ≤ 248 by decide)⟩ ⟨Nat.zero_le _, Nat.zero_le _⟩ [.int 0, .ref (ad 54)] (Nat.le_of_ble_eq_true rfl) rfl ?_
    refine aw_i2l (pc := 10) C dL_resolve_10 ?_
    refine aw_lastore (pc := 11) C rfl dL_resolve_11 rfl ?_
    refine aw_goto (pc := 12) C 23 dL_resolve_12 rfl ?_
    refine aw_iconst (pc := 23) C (v := 0) dL_resolve_23 rfl ?_
    refine aw_widen 1 6 (Nat.zero_le _) (Nat.zero_le _) ?_
    exact aw_iretW (pc := 24) C dL_resolve_24
theorem ok_L_candidate {l : Launch} (htr : l.stackTraces = false) {v1 : Int32} {v2 : Int32} {v3 : Int32} {v4 : Int32} {μ : Mm} {r : Int32 × Mm} (h : L_candidate v1 v2 v3 v4 μ = some r) : MetW l yL_candidate cL_candidate 7 [(0, 14, 17, 13), (0, 14, 21, 21)] 8 (fun ad => [.ref (ad 0), .int v1, .int v2, .int v3, .int v4, .ref (ad 54)]) μ r.1 r.2 := by
  refine MetW.of htr (by decide) rfl (fun ad => Nat.le_of_ble_eq_true rfl) (fun p e s m args below meth c D cI cL ad C hT hN => ?_)
  show AW p l e (rmA 8 1 6) s m args below meth c 7 D cI cL ad (AA ad s.heap.size) 0 0 (QW D cI cL ad r.1 r.2 below args s) 0 [(0, .ref (ad 0)), (1, .int v1), (2, .int v2), (3, .int v3), (4, .int v4), (5, .ref (ad 54))] [] μ
  unfold L_candidate at h
  refine aw_aload (pc := 0) C dL_candidate_0 5 rfl ?_
  refine aw_iconst (pc := 2) C (v := 0) dL_candidate_2 rfl ?_
  refine aw_aload_n (pc := 3) C dL_candidate_3 rfl 0 rfl ?_
  refine aw_iload_n (pc := 4) C dL_candidate_4 rfl 1 rfl ?_
  refine aw_iload_n (pc := 5) C dL_candidate_5 rfl 2 rfl ?_
  refine aw_iload_n (pc := 6) C dL_candidate_6 rfl 3 rfl ?_
  refine aw_iload (pc := 7) C dL_candidate_7 4 rfl ?_
  obtain ⟨y, hq, h⟩ := bi_some h
  rcases y with E | v
  · rw [thr_l] at h
    by_cases e0 : E = xI
    · subst e0
      replace h := ite_T h rfl
      cases h
      refine aw_catchV (pc := 9) (a := 0) (Bs := [.int v1, .int v2, .int v3, .int v4]) (rest := [.int 0, .ref (ad 54)]) C (ok_X3_candidate C.tr (r := .inl xI) hq) kv_X3_candidate q646 rfl rfl rfl rfl (Nat.le_of_ble_eq_true rfl) dL_candidate_9 ⟨(show 8 ≤ 8 by decide), (show 242 ≤ 248 by decide)⟩ ⟨Nat.le_refl _, Nat.le_refl _⟩ rfl [] ⟨0, 14, 17, 13⟩ [⟨0, 14, 21, 21⟩] hT (fun z hz => absurd hz List.not_mem_nil) (by decide) (by decide) q451 q396 rfl (fun q => ?_)
      refine aw_astore (pc := 17) C (x := q) (lv' := [(6, .ref q), (0, .ref (ad 0)), (1, .int v1), (2, .int v2), (3, .int v3), (4, .int v4), (5, .ref (ad 54))]) dL_candidate_17 (by decide) rfl rfl ?_
      refine aw_iconst (pc := 19) C (v := 1) dL_candidate_19 rfl ?_
      exact aw_iretW (pc := 20) C dL_candidate_20
    replace h := ite_F h e0
    by_cases e1 : E = xA
    · subst e1
      replace h := ite_T h rfl
      cases h
      refine aw_catchV (pc := 9) (a := 0) (Bs := [.int v1, .int v2, .int v3, .int v4]) (rest := [.int 0, .ref (ad 54)]) C (ok_X3_candidate C.tr (r := .inl xA) hq) kv_X3_candidate q646 rfl rfl rfl rfl (Nat.le_of_ble_eq_true rfl) dL_candidate_9 ⟨(show 8 ≤ 8 by decide), (show 242 ≤ 248 by decide)⟩ ⟨Nat.le_refl _, Nat.le_refl _⟩ rfl [⟨0, 14, 17, 13⟩] ⟨0, 14, 21, 21⟩ [] hT (fun z hz => by
      simp only [List.mem_cons, List.not_mem_nil, or_false] at hz
      rcases hz with rfl
      · exact Or.inr ⟨by decide, xI, C.2.2.2.2.1 _ q451, hN (xA, xI) (by decide)⟩) (by decide) (by decide) q493 q274 rfl (fun q => ?_)
      refine aw_astore (pc := 21) C (x := q) (lv' := [(6, .ref q), (0, .ref (ad 0)), (1, .int v1), (2, .int v2), (3, .int v3), (4, .int v4), (5, .ref (ad 54))]) dL_candidate_21 (by decide) rfl rfl ?_
      refine aw_iconst (pc := 23) C (v := 2) dL_candidate_23 rfl ?_
      exact aw_iretW (pc := 24) C dL_candidate_24
    replace h := ite_F h e1
    cases h
  · rw [thr_r] at h
    cases h
    refine aw_Vi (pc := 9) (a := 0) (Bs := [.int v1, .int v2, .int v3, .int v4]) C (ok_X3_candidate C.tr (r := .inr v) hq) kv_X3_candidate q646 rfl rfl rfl rfl dL_candidate_9 ⟨(show 8 ≤ 8 by decide), (show 242 ≤ 248 by decide)⟩ ⟨Nat.zero_le _, Nat.zero_le _⟩ [.int 0, .ref (ad 54)] (Nat.le_of_ble_eq_true rfl) rfl ?_
    refine aw_i2l (pc := 12) C dL_candidate_12 ?_
    refine aw_lastore (pc := 13) C rfl dL_candidate_13 rfl ?_
    refine aw_goto (pc := 14) C 25 dL_candidate_14 rfl ?_
    refine aw_iconst (pc := 25) C (v := 0) dL_candidate_25 rfl ?_
    refine aw_widen 1 6 (Nat.zero_le _) (Nat.zero_le _) ?_
    exact aw_iretW (pc := 26) C dL_candidate_26
theorem ok_L_offers {l : Launch} (htr : l.stackTraces = false) {v1 : Int32} {v2 : Int32} {μ : Mm} {r : Int32 × Mm} (h : L_offers v1 v2 μ = some r) : MetW l yL_offers cL_offers 5 [(0, 10, 13, 13), (0, 10, 17, 21)] 8 (fun ad => [.ref (ad 0), .int v1, .int v2, .ref (ad 54)]) μ r.1 r.2 := by
  refine MetW.of htr (by decide) rfl (fun ad => Nat.le_of_ble_eq_true rfl) (fun p e s m args below meth c D cI cL ad C hT hN => ?_)
  show AW p l e (rmA 8 1 6) s m args below meth c 5 D cI cL ad (AA ad s.heap.size) 0 0 (QW D cI cL ad r.1 r.2 below args s) 0 [(0, .ref (ad 0)), (1, .int v1), (2, .int v2), (3, .ref (ad 54))] [] μ
  unfold L_offers at h
  refine aw_aload_n (pc := 0) C dL_offers_0 rfl 3 rfl ?_
  refine aw_iconst (pc := 1) C (v := 0) dL_offers_1 rfl ?_
  refine aw_aload_n (pc := 2) C dL_offers_2 rfl 0 rfl ?_
  refine aw_iload_n (pc := 3) C dL_offers_3 rfl 1 rfl ?_
  refine aw_iload_n (pc := 4) C dL_offers_4 rfl 2 rfl ?_
  obtain ⟨y, hq, h⟩ := bi_some h
  rcases y with E | v
  · rw [thr_l] at h
    by_cases e0 : E = xI
    · subst e0
      replace h := ite_T h rfl
      cases h
      refine aw_catchV (pc := 5) (a := 0) (Bs := [.int v1, .int v2]) (rest := [.int 0, .ref (ad 54)]) C (ok_X3_offers C.tr (r := .inl xI) hq) kv_X3_offers q660 rfl rfl rfl rfl (Nat.le_of_ble_eq_true rfl) dL_offers_5 ⟨(show 8 ≤ 8 by decide), (show 239 ≤ 248 by decide)⟩ ⟨Nat.le_refl _, Nat.le_refl _⟩ rfl [] ⟨0, 10, 13, 13⟩ [⟨0, 10, 17, 21⟩] hT (fun z hz => absurd hz List.not_mem_nil) (by decide) (by decide) q451 q396 rfl (fun q => ?_)
      refine aw_astore (pc := 13) C (x := q) (lv' := [(4, .ref q), (0, .ref (ad 0)), (1, .int v1), (2, .int v2), (3, .ref (ad 54))]) dL_offers_13 (by decide) rfl rfl ?_
      refine aw_iconst (pc := 15) C (v := 1) dL_offers_15 rfl ?_
      exact aw_iretW (pc := 16) C dL_offers_16
    replace h := ite_F h e0
    by_cases e1 : E = xA
    · subst e1
      replace h := ite_T h rfl
      cases h
      refine aw_catchV (pc := 5) (a := 0) (Bs := [.int v1, .int v2]) (rest := [.int 0, .ref (ad 54)]) C (ok_X3_offers C.tr (r := .inl xA) hq) kv_X3_offers q660 rfl rfl rfl rfl (Nat.le_of_ble_eq_true rfl) dL_offers_5 ⟨(show 8 ≤ 8 by decide), (show 239 ≤ 248 by decide)⟩ ⟨Nat.le_refl _, Nat.le_refl _⟩ rfl [⟨0, 10, 13, 13⟩] ⟨0, 10, 17, 21⟩ [] hT (fun z hz => by
      simp only [List.mem_cons, List.not_mem_nil, or_false] at hz
      rcases hz with rfl
      · exact Or.inr ⟨by decide, xI, C.2.2.2.2.1 _ q451, hN (xA, xI) (by decide)⟩) (by decide) (by decide) q493 q274 rfl (fun q => ?_)
      refine aw_astore (pc := 17) C (x := q) (lv' := [(4, .ref q), (0, .ref (ad 0)), (1, .int v1), (2, .int v2), (3, .ref (ad 54))]) dL_offers_17 (by decide) rfl rfl ?_
      refine aw_iconst (pc := 19) C (v := 2) dL_offers_19 rfl ?_
      exact aw_iretW (pc := 20) C dL_offers_20
    replace h := ite_F h e1
    cases h
  · rw [thr_r] at h
    cases h
    refine aw_Vi (pc := 5) (a := 0) (Bs := [.int v1, .int v2]) C (ok_X3_offers C.tr (r := .inr v) hq) kv_X3_offers q660 rfl rfl rfl rfl dL_offers_5 ⟨(show 8 ≤ 8 by decide), (show 239 ≤ 248 by decide)⟩ ⟨Nat.zero_le _, Nat.zero_le _⟩ [.int 0, .ref (ad 54)] (Nat.le_of_ble_eq_true rfl) rfl ?_
    refine aw_i2l (pc := 8) C dL_offers_8 ?_
    refine aw_lastore (pc := 9) C rfl dL_offers_9 rfl ?_
    refine aw_goto (pc := 10) C 21 dL_offers_10 rfl ?_
    refine aw_iconst (pc := 21) C (v := 0) dL_offers_21 rfl ?_
    refine aw_widen 1 6 (Nat.zero_le _) (Nat.zero_le _) ?_
    exact aw_iretW (pc := 22) C dL_offers_22
theorem ok_L_visible {l : Launch} (htr : l.stackTraces = false) {v1 : Int32} {v2 : Int32} {μ : Mm} {r : Int32 × Mm} (h : L_visible v1 v2 μ = some r) : MetW l yL_visible cL_visible 5 [(0, 10, 13, 13)] 8 (fun ad => [.ref (ad 0), .int v1, .int v2, .ref (ad 54)]) μ r.1 r.2 := by
  refine MetW.of htr (by decide) rfl (fun ad => Nat.le_of_ble_eq_true rfl) (fun p e s m args below meth c D cI cL ad C hT hN => ?_)
  show AW p l e (rmA 8 1 6) s m args below meth c 5 D cI cL ad (AA ad s.heap.size) 0 0 (QW D cI cL ad r.1 r.2 below args s) 0 [(0, .ref (ad 0)), (1, .int v1), (2, .int v2), (3, .ref (ad 54))] [] μ
  unfold L_visible at h
  refine aw_aload_n (pc := 0) C dL_visible_0 rfl 3 rfl ?_
  refine aw_iconst (pc := 1) C (v := 0) dL_visible_1 rfl ?_
  refine aw_aload_n (pc := 2) C dL_visible_2 rfl 0 rfl ?_
  refine aw_iload_n (pc := 3) C dL_visible_3 rfl 1 rfl ?_
  refine aw_iload_n (pc := 4) C dL_visible_4 rfl 2 rfl ?_
  obtain ⟨y, hq, h⟩ := bi_some h
  rcases y with E | v
  · rw [thr_l] at h
    by_cases e0 : E = xI
    · subst e0
      replace h := ite_T h rfl
      cases h
      refine aw_catchV (pc := 5) (a := 0) (Bs := [.int v1, .int v2]) (rest := [.int 0, .ref (ad 54)]) C (ok_X3_visible C.tr (r := .inl xI) hq) kv_X3_visible q667 rfl rfl rfl rfl (Nat.le_of_ble_eq_true rfl) dL_visible_5 ⟨(show 8 ≤ 8 by decide), (show 242 ≤ 248 by decide)⟩ ⟨Nat.le_refl _, Nat.le_refl _⟩ rfl [] ⟨0, 10, 13, 13⟩ [] hT (fun z hz => absurd hz List.not_mem_nil) (by decide) (by decide) q451 q396 rfl (fun q => ?_)
      refine aw_astore (pc := 13) C (x := q) (lv' := [(4, .ref q), (0, .ref (ad 0)), (1, .int v1), (2, .int v2), (3, .ref (ad 54))]) dL_visible_13 (by decide) rfl rfl ?_
      refine aw_iconst (pc := 15) C (v := 1) dL_visible_15 rfl ?_
      exact aw_iretW (pc := 16) C dL_visible_16
    replace h := ite_F h e0
    cases h
  · rw [thr_r] at h
    cases h
    refine aw_Vi (pc := 5) (a := 0) (Bs := [.int v1, .int v2]) C (ok_X3_visible C.tr (r := .inr v) hq) kv_X3_visible q667 rfl rfl rfl rfl dL_visible_5 ⟨(show 8 ≤ 8 by decide), (show 242 ≤ 248 by decide)⟩ ⟨Nat.zero_le _, Nat.zero_le _⟩ [.int 0, .ref (ad 54)] (Nat.le_of_ble_eq_true rfl) rfl ?_
    refine aw_i2l (pc := 8) C dL_visible_8 ?_
    refine aw_lastore (pc := 9) C rfl dL_visible_9 rfl ?_
    refine aw_goto (pc := 10) C 17 dL_visible_10 rfl ?_
    refine aw_iconst (pc := 17) C (v := 0) dL_visible_17 rfl ?_
    refine aw_widen 1 6 (Nat.zero_le _) (Nat.zero_le _) ?_
    exact aw_iretW (pc := 18) C dL_visible_18
theorem ok_L_rename {l : Launch} (htr : l.stackTraces = false) {v1 : Int32} {v2 : Int32} {μ : Mm} {r : Int32 × Mm} (h : L_rename v1 v2 μ = some r) : MetW l yL_rename cL_rename 5 [(0, 10, 13, 13), (0, 10, 17, 21)] 8 (fun ad => [.ref (ad 0), .int v1, .int v2, .ref (ad 54)]) μ r.1 r.2 := by
  refine MetW.of htr (by decide) rfl (fun ad => Nat.le_of_ble_eq_true rfl) (fun p e s m args below meth c D cI cL ad C hT hN => ?_)
  show AW p l e (rmA 8 1 6) s m args below meth c 5 D cI cL ad (AA ad s.heap.size) 0 0 (QW D cI cL ad r.1 r.2 below args s) 0 [(0, .ref (ad 0)), (1, .int v1), (2, .int v2), (3, .ref (ad 54))] [] μ
  unfold L_rename at h
  refine aw_aload_n (pc := 0) C dL_rename_0 rfl 3 rfl ?_
  refine aw_iconst (pc := 1) C (v := 0) dL_rename_1 rfl ?_
  refine aw_aload_n (pc := 2) C dL_rename_2 rfl 0 rfl ?_
  refine aw_iload_n (pc := 3) C dL_rename_3 rfl 1 rfl ?_
  refine aw_iload_n (pc := 4) C dL_rename_4 rfl 2 rfl ?_
  obtain ⟨y, μ1, hq, h⟩ := bn_some h
  rcases y with E | v
  · rw [thr_l] at h
    by_cases e0 : E = xI
    · subst e0
      replace h := ite_T h rfl
      cases h
      refine aw_catchV (pc := 5) (a := 0) (Bs := [.int v1, .int v2]) (rest := [.int 0, .ref (ad 54)]) C (ok_X3_rename C.tr (r := (.inl xI, μ1)) hq) kv_X3_rename q671 rfl rfl rfl rfl (Nat.le_of_ble_eq_true rfl) dL_rename_5 ⟨(show 8 ≤ 8 by decide), (show 240 ≤ 248 by decide)⟩ ⟨Nat.le_refl _, Nat.le_refl _⟩ rfl [] ⟨0, 10, 13, 13⟩ [⟨0, 10, 17, 21⟩] hT (fun z hz => absurd hz List.not_mem_nil) (by decide) (by decide) q451 q396 rfl (fun q => ?_)
      refine aw_astore (pc := 13) C (x := q) (lv' := [(4, .ref q), (0, .ref (ad 0)), (1, .int v1), (2, .int v2), (3, .ref (ad 54))]) dL_rename_13 (by decide) rfl rfl ?_
      refine aw_iconst (pc := 15) C (v := 1) dL_rename_15 rfl ?_
      exact aw_iretW (pc := 16) C dL_rename_16
    replace h := ite_F h e0
    by_cases e1 : E = xA
    · subst e1
      replace h := ite_T h rfl
      cases h
      refine aw_catchV (pc := 5) (a := 0) (Bs := [.int v1, .int v2]) (rest := [.int 0, .ref (ad 54)]) C (ok_X3_rename C.tr (r := (.inl xA, μ1)) hq) kv_X3_rename q671 rfl rfl rfl rfl (Nat.le_of_ble_eq_true rfl) dL_rename_5 ⟨(show 8 ≤ 8 by decide), (show 240 ≤ 248 by decide)⟩ ⟨Nat.le_refl _, Nat.le_refl _⟩ rfl [⟨0, 10, 13, 13⟩] ⟨0, 10, 17, 21⟩ [] hT (fun z hz => by
      simp only [List.mem_cons, List.not_mem_nil, or_false] at hz
      rcases hz with rfl
      · exact Or.inr ⟨by decide, xI, C.2.2.2.2.1 _ q451, hN (xA, xI) (by decide)⟩) (by decide) (by decide) q493 q274 rfl (fun q => ?_)
      refine aw_astore (pc := 17) C (x := q) (lv' := [(4, .ref q), (0, .ref (ad 0)), (1, .int v1), (2, .int v2), (3, .ref (ad 54))]) dL_rename_17 (by decide) rfl rfl ?_
      refine aw_iconst (pc := 19) C (v := 2) dL_rename_19 rfl ?_
      exact aw_iretW (pc := 20) C dL_rename_20
    replace h := ite_F h e1
    cases h
  · rw [thr_r] at h
    cases h
    refine aw_Vi (pc := 5) (a := 0) (Bs := [.int v1, .int v2]) C (ok_X3_rename C.tr (r := (.inr v, μ1)) hq) kv_X3_rename q671 rfl rfl rfl rfl dL_rename_5 ⟨(show 8 ≤ 8 by decide), (show 240 ≤ 248 by decide)⟩ ⟨Nat.zero_le _, Nat.zero_le _⟩ [.int 0, .ref (ad 54)] (Nat.le_of_ble_eq_true rfl) rfl ?_
    refine aw_i2l (pc := 8) C dL_rename_8 ?_
    refine aw_lastore (pc := 9) C rfl dL_rename_9 rfl ?_
    refine aw_goto (pc := 10) C 21 dL_rename_10 rfl ?_
    refine aw_iconst (pc := 21) C (v := 0) dL_rename_21 rfl ?_
    refine aw_widen 1 6 (Nat.zero_le _) (Nat.zero_le _) ?_
    exact aw_iretW (pc := 22) C dL_rename_22
theorem ok_L_ifRenamed {l : Launch} (htr : l.stackTraces = false) {v1 : Int32} {v2 : Int32} {v3 : Int32} {μ : Mm} {r : Int32 × Mm} (h : L_ifRenamed v1 v2 v3 μ = some r) : MetW l yL_ifRenamed cL_ifRenamed 6 [(0, 12, 15, 13), (0, 12, 19, 21)] 8 (fun ad => [.ref (ad 0), .int v1, .int v2, .int v3, .ref (ad 54)]) μ r.1 r.2 := by
  refine MetW.of htr (by decide) rfl (fun ad => Nat.le_of_ble_eq_true rfl) (fun p e s m args below meth c D cI cL ad C hT hN => ?_)
  show AW p l e (rmA 8 1 6) s m args below meth c 6 D cI cL ad (AA ad s.heap.size) 0 0 (QW D cI cL ad r.1 r.2 below args s) 0 [(0, .ref (ad 0)), (1, .int v1), (2, .int v2), (3, .int v3), (4, .ref (ad 54))] [] μ
  unfold L_ifRenamed at h
  refine aw_aload (pc := 0) C dL_ifRenamed_0 4 rfl ?_
  refine aw_iconst (pc := 2) C (v := 0) dL_ifRenamed_2 rfl ?_
  refine aw_aload_n (pc := 3) C dL_ifRenamed_3 rfl 0 rfl ?_
  refine aw_iload_n (pc := 4) C dL_ifRenamed_4 rfl 1 rfl ?_
  refine aw_iload_n (pc := 5) C dL_ifRenamed_5 rfl 2 rfl ?_
  refine aw_iload_n (pc := 6) C dL_ifRenamed_6 rfl 3 rfl ?_
  obtain ⟨y, μ1, hq, h⟩ := bn_some h
  rcases y with E | v
  · rw [thr_l] at h
    by_cases e0 : E = xI
    · subst e0
      replace h := ite_T h rfl
      cases h
      refine aw_catchV (pc := 7) (a := 0) (Bs := [.int v1, .int v2, .int v3]) (rest := [.int 0, .ref (ad 54)]) C (ok_X3_ifRenamed C.tr (r := (.inl xI, μ1)) hq) kv_X3_ifRenamed q694 rfl rfl rfl rfl (Nat.le_of_ble_eq_true rfl) dL_ifRenamed_7 ⟨(show 8 ≤ 8 by decide), (show 241 ≤ 248 by decide)⟩ ⟨Nat.le_refl _, Nat.le_refl _⟩ rfl [] ⟨0, 12, 15, 13⟩ [⟨0, 12, 19, 21⟩] hT (fun z hz => absurd hz List.not_mem_nil) (by decide) (by decide) q451 q396 rfl (fun q => ?_)
      refine aw_astore (pc := 15) C (x := q) (lv' := [(5, .ref q), (0, .ref (ad 0)), (1, .int v1), (2, .int v2), (3, .int v3), (4, .ref (ad 54))]) dL_ifRenamed_15 (by decide) rfl rfl ?_
      refine aw_iconst (pc := 17) C (v := 1) dL_ifRenamed_17 rfl ?_
      exact aw_iretW (pc := 18) C dL_ifRenamed_18
    replace h := ite_F h e0
    by_cases e1 : E = xA
    · subst e1
      replace h := ite_T h rfl
      cases h
      refine aw_catchV (pc := 7) (a := 0) (Bs := [.int v1, .int v2, .int v3]) (rest := [.int 0, .ref (ad 54)]) C (ok_X3_ifRenamed C.tr (r := (.inl xA, μ1)) hq) kv_X3_ifRenamed q694 rfl rfl rfl rfl (Nat.le_of_ble_eq_true rfl) dL_ifRenamed_7 ⟨(show 8 ≤ 8 by decide), (show 241 ≤ 248 by decide)⟩ ⟨Nat.le_refl _, Nat.le_refl _⟩ rfl [⟨0, 12, 15, 13⟩] ⟨0, 12, 19, 21⟩ [] hT (fun z hz => by
      simp only [List.mem_cons, List.not_mem_nil, or_false] at hz
      rcases hz with rfl
      · exact Or.inr ⟨by decide, xI, C.2.2.2.2.1 _ q451, hN (xA, xI) (by decide)⟩) (by decide) (by decide) q493 q274 rfl (fun q => ?_)
      refine aw_astore (pc := 19) C (x := q) (lv' := [(5, .ref q), (0, .ref (ad 0)), (1, .int v1), (2, .int v2), (3, .int v3), (4, .ref (ad 54))]) dL_ifRenamed_19 (by decide) rfl rfl ?_
      refine aw_iconst (pc := 21) C (v := 2) dL_ifRenamed_21 rfl ?_
      exact aw_iretW (pc := 22) C dL_ifRenamed_22
    replace h := ite_F h e1
    cases h
  · rw [thr_r] at h
    cases h
    refine aw_Vi (pc := 7) (a := 0) (Bs := [.int v1, .int v2, .int v3]) C (ok_X3_ifRenamed C.tr (r := (.inr v, μ1)) hq) kv_X3_ifRenamed q694 rfl rfl rfl rfl dL_ifRenamed_7 ⟨(show 8 ≤ 8 by decide), (show 241 ≤ 248 by decide)⟩ ⟨Nat.zero_le _, Nat.zero_le _⟩ [.int 0, .ref (ad 54)] (Nat.le_of_ble_eq_true rfl) rfl ?_
    refine aw_i2l (pc := 10) C dL_ifRenamed_10 ?_
    refine aw_lastore (pc := 11) C rfl dL_ifRenamed_11 rfl ?_
    refine aw_goto (pc := 12) C 23 dL_ifRenamed_12 rfl ?_
    refine aw_iconst (pc := 23) C (v := 0) dL_ifRenamed_23 rfl ?_
    refine aw_widen 1 6 (Nat.zero_le _) (Nat.zero_le _) ?_
    exact aw_iretW (pc := 24) C dL_ifRenamed_24
theorem ok_L_freeName {l : Launch} (htr : l.stackTraces = false) {v1 : Int32} {μ : Mm} {r : Int32 × Mm} (h : L_freeName v1 μ = some r) : MetW l yL_freeName cL_freeName 4 [(0, 9, 12, 13)] 8 (fun ad => [.ref (ad 0), .int v1, .ref (ad 54)]) μ r.1 r.2 := by
  refine MetW.of htr (by decide) rfl (fun ad => Nat.le_of_ble_eq_true rfl) (fun p e s m args below meth c D cI cL ad C hT hN => ?_)
  show AW p l e (rmA 8 1 6) s m args below meth c 4 D cI cL ad (AA ad s.heap.size) 0 0 (QW D cI cL ad r.1 r.2 below args s) 0 [(0, .ref (ad 0)), (1, .int v1), (2, .ref (ad 54))] [] μ
  unfold L_freeName at h
  refine aw_aload_n (pc := 0) C dL_freeName_0 rfl 2 rfl ?_
  refine aw_iconst (pc := 1) C (v := 0) dL_freeName_1 rfl ?_
  refine aw_aload_n (pc := 2) C dL_freeName_2 rfl 0 rfl ?_
  refine aw_iload_n (pc := 3) C dL_freeName_3 rfl 1 rfl ?_
  obtain ⟨y, μ1, hq, h⟩ := bn_some h
  rcases y with E | v
  · rw [thr_l] at h
    by_cases e0 : E = xI
    · subst e0
      replace h := ite_T h rfl
      cases h
      refine aw_catchV (pc := 4) (a := 0) (Bs := [.int v1]) (rest := [.int 0, .ref (ad 54)]) C (ok_X3_freeName C.tr (r := (.inl xI, μ1)) hq) kv_X3_freeName q706 rfl rfl rfl rfl (Nat.le_of_ble_eq_true rfl) dL_freeName_4 ⟨(show 8 ≤ 8 by decide), (show 239 ≤ 248 by decide)⟩ ⟨Nat.le_refl _, Nat.le_refl _⟩ rfl [] ⟨0, 9, 12, 13⟩ [] hT (fun z hz => absurd hz List.not_mem_nil) (by decide) (by decide) q451 q396 rfl (fun q => ?_)
      refine aw_astore_n (pc := 12) C (x := q) (lv' := [(3, .ref q), (0, .ref (ad 0)), (1, .int v1), (2, .ref (ad 54))]) dL_freeName_12 rfl (by decide) rfl rfl ?_
      refine aw_iconst (pc := 13) C (v := 1) dL_freeName_13 rfl ?_
      exact aw_iretW (pc := 14) C dL_freeName_14
    replace h := ite_F h e0
    cases h
  · rw [thr_r] at h
    cases h
    refine aw_Vi (pc := 4) (a := 0) (Bs := [.int v1]) C (ok_X3_freeName C.tr (r := (.inr v, μ1)) hq) kv_X3_freeName q706 rfl rfl rfl rfl dL_freeName_4 ⟨(show 8 ≤ 8 by decide), (show 239 ≤ 248 by decide)⟩ ⟨Nat.zero_le _, Nat.zero_le _⟩ [.int 0, .ref (ad 54)] (Nat.le_of_ble_eq_true rfl) rfl ?_
    refine aw_i2l (pc := 7) C dL_freeName_7 ?_
    refine aw_lastore (pc := 8) C rfl dL_freeName_8 rfl ?_
    refine aw_goto (pc := 9) C 15 dL_freeName_9 rfl ?_
    refine aw_iconst (pc := 15) C (v := 0) dL_freeName_15 rfl ?_
    refine aw_widen 1 6 (Nat.zero_le _) (Nat.zero_le _) ?_
    exact aw_iretW (pc := 16) C dL_freeName_16
theorem ok_L_count {l : Launch} (htr : l.stackTraces = false) {v1 : Int32} {μ : Mm} {r : Int32 × Mm} (h : L_count v1 μ = some r) : MetW l yL_count cL_count 4 [(0, 9, 12, 21)] 8 (fun ad => [.ref (ad 0), .int v1, .ref (ad 54)]) μ r.1 r.2 := by
  refine MetW.of htr (by decide) rfl (fun ad => Nat.le_of_ble_eq_true rfl) (fun p e s m args below meth c D cI cL ad C hT hN => ?_)
  show AW p l e (rmA 8 1 6) s m args below meth c 4 D cI cL ad (AA ad s.heap.size) 0 0 (QW D cI cL ad r.1 r.2 below args s) 0 [(0, .ref (ad 0)), (1, .int v1), (2, .ref (ad 54))] [] μ
  unfold L_count at h
  refine aw_aload_n (pc := 0) C dL_count_0 rfl 2 rfl ?_
  refine aw_iconst (pc := 1) C (v := 0) dL_count_1 rfl ?_
  refine aw_aload_n (pc := 2) C dL_count_2 rfl 0 rfl ?_
  refine aw_iload_n (pc := 3) C dL_count_3 rfl 1 rfl ?_
  obtain ⟨y, μ1, hq, h⟩ := bn_some h
  rcases y with E | v
  · rw [thr_l] at h
    by_cases e0 : E = xA
    · subst e0
      replace h := ite_T h rfl
      cases h
      refine aw_catchV (pc := 4) (a := 0) (Bs := [.int v1]) (rest := [.int 0, .ref (ad 54)]) C (ok_X3_count C.tr (r := (.inl xA, μ1)) hq) kv_X3_count q713 rfl rfl rfl rfl (Nat.le_of_ble_eq_true rfl) dL_count_4 ⟨(show 8 ≤ 8 by decide), (show 238 ≤ 248 by decide)⟩ ⟨Nat.le_refl _, Nat.le_refl _⟩ rfl [] ⟨0, 9, 12, 21⟩ [] hT (fun z hz => absurd hz List.not_mem_nil) (by decide) (by decide) q493 q274 rfl (fun q => ?_)
      refine aw_astore_n (pc := 12) C (x := q) (lv' := [(3, .ref q), (0, .ref (ad 0)), (1, .int v1), (2, .ref (ad 54))]) dL_count_12 rfl (by decide) rfl rfl ?_
      refine aw_iconst (pc := 13) C (v := 1) dL_count_13 rfl ?_
      exact aw_iretW (pc := 14) C dL_count_14
    replace h := ite_F h e0
    cases h
  · rw [thr_r] at h
    cases h
    refine aw_Vi (pc := 4) (a := 0) (Bs := [.int v1]) C (ok_X3_count C.tr (r := (.inr v, μ1)) hq) kv_X3_count q713 rfl rfl rfl rfl dL_count_4 ⟨(show 8 ≤ 8 by decide), (show 238 ≤ 248 by decide)⟩ ⟨Nat.zero_le _, Nat.zero_le _⟩ [.int 0, .ref (ad 54)] (Nat.le_of_ble_eq_true rfl) rfl ?_
    refine aw_i2l (pc := 7) C dL_count_7 ?_
    refine aw_lastore (pc := 8) C rfl dL_count_8 rfl ?_
    refine aw_goto (pc := 9) C 15 dL_count_9 rfl ?_
    refine aw_iconst (pc := 15) C (v := 0) dL_count_15 rfl ?_
    refine aw_widen 1 6 (Nat.zero_le _) (Nat.zero_le _) ?_
    exact aw_iretW (pc := 16) C dL_count_16
theorem ok_L_declaration {l : Launch} (htr : l.stackTraces = false) {v1 : Int32} {v2 : Int32} {μ : Mm} {r : Int32 × Mm} (h : L_declaration v1 v2 μ = some r) : MetW l yL_declaration cL_declaration 5 [(0, 10, 13, 13), (0, 10, 17, 21)] 8 (fun ad => [.ref (ad 0), .int v1, .int v2, .ref (ad 54)]) μ r.1 r.2 := by
  refine MetW.of htr (by decide) rfl (fun ad => Nat.le_of_ble_eq_true rfl) (fun p e s m args below meth c D cI cL ad C hT hN => ?_)
  show AW p l e (rmA 8 1 6) s m args below meth c 5 D cI cL ad (AA ad s.heap.size) 0 0 (QW D cI cL ad r.1 r.2 below args s) 0 [(0, .ref (ad 0)), (1, .int v1), (2, .int v2), (3, .ref (ad 54))] [] μ
  unfold L_declaration at h
  refine aw_aload_n (pc := 0) C dL_declaration_0 rfl 3 rfl ?_
  refine aw_iconst (pc := 1) C (v := 0) dL_declaration_1 rfl ?_
  refine aw_aload_n (pc := 2) C dL_declaration_2 rfl 0 rfl ?_
  refine aw_iload_n (pc := 3) C dL_declaration_3 rfl 1 rfl ?_
  refine aw_iload_n (pc := 4) C dL_declaration_4 rfl 2 rfl ?_
  obtain ⟨y, hq, h⟩ := bi_some h
  rcases y with E | v
  · rw [thr_l] at h
    by_cases e0 : E = xI
    · subst e0
      replace h := ite_T h rfl
      cases h
      refine aw_catchV (pc := 5) (a := 0) (Bs := [.int v1, .int v2]) (rest := [.int 0, .ref (ad 54)]) C (ok_X3_declaration C.tr (r := .inl xI) hq) kv_X3_declaration q717 rfl rfl rfl rfl (Nat.le_of_ble_eq_true rfl) dL_declaration_5 ⟨(show 8 ≤ 8 by decide), (show 239 ≤ 248 by decide)⟩ ⟨Nat.le_refl _, Nat.le_refl _⟩ rfl [] ⟨0, 10, 13, 13⟩ [⟨0, 10, 17, 21⟩] hT (fun z hz => absurd hz List.not_mem_nil) (by decide) (by decide) q451 q396 rfl (fun q => ?_)
      refine aw_astore (pc := 13) C (x := q) (lv' := [(4, .ref q), (0, .ref (ad 0)), (1, .int v1), (2, .int v2), (3, .ref (ad 54))]) dL_declaration_13 (by decide) rfl rfl ?_
      refine aw_iconst (pc := 15) C (v := 1) dL_declaration_15 rfl ?_
      exact aw_iretW (pc := 16) C dL_declaration_16
    replace h := ite_F h e0
    by_cases e1 : E = xA
    · subst e1
      replace h := ite_T h rfl
      cases h
      refine aw_catchV (pc := 5) (a := 0) (Bs := [.int v1, .int v2]) (rest := [.int 0, .ref (ad 54)]) C (ok_X3_declaration C.tr (r := .inl xA) hq) kv_X3_declaration q717 rfl rfl rfl rfl (Nat.le_of_ble_eq_true rfl) dL_declaration_5 ⟨(show 8 ≤ 8 by decide), (show 239 ≤ 248 by decide)⟩ ⟨Nat.le_refl _, Nat.le_refl _⟩ rfl [⟨0, 10, 13, 13⟩] ⟨0, 10, 17, 21⟩ [] hT (fun z hz => by
      simp only [List.mem_cons, List.not_mem_nil, or_false] at hz
      rcases hz with rfl
      · exact Or.inr ⟨by decide, xI, C.2.2.2.2.1 _ q451, hN (xA, xI) (by decide)⟩) (by decide) (by decide) q493 q274 rfl (fun q => ?_)
      refine aw_astore (pc := 17) C (x := q) (lv' := [(4, .ref q), (0, .ref (ad 0)), (1, .int v1), (2, .int v2), (3, .ref (ad 54))]) dL_declaration_17 (by decide) rfl rfl ?_
      refine aw_iconst (pc := 19) C (v := 2) dL_declaration_19 rfl ?_
      exact aw_iretW (pc := 20) C dL_declaration_20
    replace h := ite_F h e1
    cases h
  · rw [thr_r] at h
    cases h
    refine aw_Vi (pc := 5) (a := 0) (Bs := [.int v1, .int v2]) C (ok_X3_declaration C.tr (r := .inr v) hq) kv_X3_declaration q717 rfl rfl rfl rfl dL_declaration_5 ⟨(show 8 ≤ 8 by decide), (show 239 ≤ 248 by decide)⟩ ⟨Nat.zero_le _, Nat.zero_le _⟩ [.int 0, .ref (ad 54)] (Nat.le_of_ble_eq_true rfl) rfl ?_
    refine aw_i2l (pc := 8) C dL_declaration_8 ?_
    refine aw_lastore (pc := 9) C rfl dL_declaration_9 rfl ?_
    refine aw_goto (pc := 10) C 21 dL_declaration_10 rfl ?_
    refine aw_iconst (pc := 21) C (v := 0) dL_declaration_21 rfl ?_
    refine aw_widen 1 6 (Nat.zero_le _) (Nat.zero_le _) ?_
    exact aw_iretW (pc := 22) C dL_declaration_22
theorem ok_L_imported {l : Launch} (htr : l.stackTraces = false) {v1 : Int32} {v2 : Int32} {μ : Mm} {r : Int32 × Mm} (h : L_imported v1 v2 μ = some r) : MetW l yL_imported cL_imported 5 [(0, 10, 13, 13), (0, 10, 17, 21)] 8 (fun ad => [.ref (ad 0), .int v1, .int v2, .ref (ad 54)]) μ r.1 r.2 := by
  refine MetW.of htr (by decide) rfl (fun ad => Nat.le_of_ble_eq_true rfl) (fun p e s m args below meth c D cI cL ad C hT hN => ?_)
  show AW p l e (rmA 8 1 6) s m args below meth c 5 D cI cL ad (AA ad s.heap.size) 0 0 (QW D cI cL ad r.1 r.2 below args s) 0 [(0, .ref (ad 0)), (1, .int v1), (2, .int v2), (3, .ref (ad 54))] [] μ
  unfold L_imported at h
  refine aw_aload_n (pc := 0) C dL_imported_0 rfl 3 rfl ?_
  refine aw_iconst (pc := 1) C (v := 0) dL_imported_1 rfl ?_
  refine aw_aload_n (pc := 2) C dL_imported_2 rfl 0 rfl ?_
  refine aw_iload_n (pc := 3) C dL_imported_3 rfl 1 rfl ?_
  refine aw_iload_n (pc := 4) C dL_imported_4 rfl 2 rfl ?_
  obtain ⟨y, μ1, hq, h⟩ := bn_some h
  rcases y with E | v
  · rw [thr_l] at h
    by_cases e0 : E = xI
    · subst e0
      replace h := ite_T h rfl
      cases h
      refine aw_catchV (pc := 5) (a := 0) (Bs := [.int v1, .int v2]) (rest := [.int 0, .ref (ad 54)]) C (ok_X3_imported C.tr (r := (.inl xI, μ1)) hq) kv_X3_imported q721 rfl rfl rfl rfl (Nat.le_of_ble_eq_true rfl) dL_imported_5 ⟨(show 8 ≤ 8 by decide), (show 239 ≤ 248 by decide)⟩ ⟨Nat.le_refl _, Nat.le_refl _⟩ rfl [] ⟨0, 10, 13, 13⟩ [⟨0, 10, 17, 21⟩] hT (fun z hz => absurd hz List.not_mem_nil) (by decide) (by decide) q451 q396 rfl (fun q => ?_)
      refine aw_astore (pc := 13) C (x := q) (lv' := [(4, .ref q), (0, .ref (ad 0)), (1, .int v1), (2, .int v2), (3, .ref (ad 54))]) dL_imported_13 (by decide) rfl rfl ?_
      refine aw_iconst (pc := 15) C (v := 1) dL_imported_15 rfl ?_
      exact aw_iretW (pc := 16) C dL_imported_16
    replace h := ite_F h e0
    by_cases e1 : E = xA
    · subst e1
      replace h := ite_T h rfl
      cases h
      refine aw_catchV (pc := 5) (a := 0) (Bs := [.int v1, .int v2]) (rest := [.int 0, .ref (ad 54)]) C (ok_X3_imported C.tr (r := (.inl xA, μ1)) hq) kv_X3_imported q721 rfl rfl rfl rfl (Nat.le_of_ble_eq_true rfl) dL_imported_5 ⟨(show 8 ≤ 8 by decide), (show 239 ≤ 248 by decide)⟩ ⟨Nat.le_refl _, Nat.le_refl _⟩ rfl [⟨0, 10, 13, 13⟩] ⟨0, 10, 17, 21⟩ [] hT (fun z hz => by
      simp only [List.mem_cons, List.not_mem_nil, or_false] at hz
      rcases hz with rfl
      · exact Or.inr ⟨by decide, xI, C.2.2.2.2.1 _ q451, hN (xA, xI) (by decide)⟩) (by decide) (by decide) q493 q274 rfl (fun q => ?_)
      refine aw_astore (pc := 17) C (x := q) (lv' := [(4, .ref q), (0, .ref (ad 0)), (1, .int v1), (2, .int v2), (3, .ref (ad 54))]) dL_imported_17 (by decide) rfl rfl ?_
      refine aw_iconst (pc := 19) C (v := 2) dL_imported_19 rfl ?_
      exact aw_iretW (pc := 20) C dL_imported_20
    replace h := ite_F h e1
    cases h
  · rw [thr_r] at h
    cases h
    refine aw_Vi (pc := 5) (a := 0) (Bs := [.int v1, .int v2]) C (ok_X3_imported C.tr (r := (.inr v, μ1)) hq) kv_X3_imported q721 rfl rfl rfl rfl dL_imported_5 ⟨(show 8 ≤ 8 by decide), (show 239 ≤ 248 by decide)⟩ ⟨Nat.zero_le _, Nat.zero_le _⟩ [.int 0, .ref (ad 54)] (Nat.le_of_ble_eq_true rfl) rfl ?_
    refine aw_i2l (pc := 8) C dL_imported_8 ?_
    refine aw_lastore (pc := 9) C rfl dL_imported_9 rfl ?_
    refine aw_goto (pc := 10) C 21 dL_imported_10 rfl ?_
    refine aw_iconst (pc := 21) C (v := 0) dL_imported_21 rfl ?_
    refine aw_widen 1 6 (Nat.zero_le _) (Nat.zero_le _) ?_
    exact aw_iretW (pc := 22) C dL_imported_22
theorem ok_L_used {l : Launch} (htr : l.stackTraces = false) {v1 : Int32} {v2 : Int32} {μ : Mm} {r : Int32 × Mm} (h : L_used v1 v2 μ = some r) : MetW l yL_used cL_used 5 [(0, 10, 13, 13), (0, 10, 17, 21)] 8 (fun ad => [.ref (ad 0), .int v1, .int v2, .ref (ad 54)]) μ r.1 r.2 := by
  refine MetW.of htr (by decide) rfl (fun ad => Nat.le_of_ble_eq_true rfl) (fun p e s m args below meth c D cI cL ad C hT hN => ?_)
  show AW p l e (rmA 8 1 6) s m args below meth c 5 D cI cL ad (AA ad s.heap.size) 0 0 (QW D cI cL ad r.1 r.2 below args s) 0 [(0, .ref (ad 0)), (1, .int v1), (2, .int v2), (3, .ref (ad 54))] [] μ
  unfold L_used at h
  refine aw_aload_n (pc := 0) C dL_used_0 rfl 3 rfl ?_
  refine aw_iconst (pc := 1) C (v := 0) dL_used_1 rfl ?_
  refine aw_aload_n (pc := 2) C dL_used_2 rfl 0 rfl ?_
  refine aw_iload_n (pc := 3) C dL_used_3 rfl 1 rfl ?_
  refine aw_iload_n (pc := 4) C dL_used_4 rfl 2 rfl ?_
  obtain ⟨y, hq, h⟩ := bi_some h
  rcases y with E | v
  · rw [thr_l] at h
    by_cases e0 : E = xI
    · subst e0
      replace h := ite_T h rfl
      cases h
      refine aw_catchV (pc := 5) (a := 0) (Bs := [.int v1, .int v2]) (rest := [.int 0, .ref (ad 54)]) C (ok_X3_used C.tr (r := .inl xI) hq) kv_X3_used q725 rfl rfl rfl rfl (Nat.le_of_ble_eq_true rfl) dL_used_5 ⟨(show 8 ≤ 8 by decide), (show 239 ≤ 248 by decide)⟩ ⟨Nat.le_refl _, Nat.le_refl _⟩ rfl [] ⟨0, 10, 13, 13⟩ [⟨0, 10, 17, 21⟩] hT (fun z hz => absurd hz List.not_mem_nil) (by decide) (by decide) q451 q396 rfl (fun q => ?_)
      refine aw_astore (pc := 13) C (x := q) (lv' := [(4, .ref q), (0, .ref (ad 0)), (1, .int v1), (2, .int v2), (3, .ref (ad 54))]) dL_used_13 (by decide) rfl rfl ?_
      refine aw_iconst (pc := 15) C (v := 1) dL_used_15 rfl ?_
      exact aw_iretW (pc := 16) C dL_used_16
    replace h := ite_F h e0
    by_cases e1 : E = xA
    · subst e1
      replace h := ite_T h rfl
      cases h
      refine aw_catchV (pc := 5) (a := 0) (Bs := [.int v1, .int v2]) (rest := [.int 0, .ref (ad 54)]) C (ok_X3_used C.tr (r := .inl xA) hq) kv_X3_used q725 rfl rfl rfl rfl (Nat.le_of_ble_eq_true rfl) dL_used_5 ⟨(show 8 ≤ 8 by decide), (show 239 ≤ 248 by decide)⟩ ⟨Nat.le_refl _, Nat.le_refl _⟩ rfl [⟨0, 10, 13, 13⟩] ⟨0, 10, 17, 21⟩ [] hT (fun z hz => by
      simp only [List.mem_cons, List.not_mem_nil, or_false] at hz
      rcases hz with rfl
      · exact Or.inr ⟨by decide, xI, C.2.2.2.2.1 _ q451, hN (xA, xI) (by decide)⟩) (by decide) (by decide) q493 q274 rfl (fun q => ?_)
      refine aw_astore (pc := 17) C (x := q) (lv' := [(4, .ref q), (0, .ref (ad 0)), (1, .int v1), (2, .int v2), (3, .ref (ad 54))]) dL_used_17 (by decide) rfl rfl ?_
      refine aw_iconst (pc := 19) C (v := 2) dL_used_19 rfl ?_
      exact aw_iretW (pc := 20) C dL_used_20
    replace h := ite_F h e1
    cases h
  · rw [thr_r] at h
    cases h
    refine aw_Vi (pc := 5) (a := 0) (Bs := [.int v1, .int v2]) C (ok_X3_used C.tr (r := .inr v) hq) kv_X3_used q725 rfl rfl rfl rfl dL_used_5 ⟨(show 8 ≤ 8 by decide), (show 239 ≤ 248 by decide)⟩ ⟨Nat.zero_le _, Nat.zero_le _⟩ [.int 0, .ref (ad 54)] (Nat.le_of_ble_eq_true rfl) rfl ?_
    refine aw_i2l (pc := 8) C dL_used_8 ?_
    refine aw_lastore (pc := 9) C rfl dL_used_9 rfl ?_
    refine aw_goto (pc := 10) C 21 dL_used_10 rfl ?_
    refine aw_iconst (pc := 21) C (v := 0) dL_used_21 rfl ?_
    refine aw_widen 1 6 (Nat.zero_le _) (Nat.zero_le _) ?_
    exact aw_iretW (pc := 22) C dL_used_22
theorem ok_L_parent {l : Launch} (htr : l.stackTraces = false) {v1 : Int32} {μ : Mm} {r : Int32 × Mm} (h : L_parent v1 μ = some r) : MetW l yL_parent cL_parent 4 [(0, 9, 12, 13)] 8 (fun ad => [.ref (ad 0), .int v1, .ref (ad 54)]) μ r.1 r.2 := by
  refine MetW.of htr (by decide) rfl (fun ad => Nat.le_of_ble_eq_true rfl) (fun p e s m args below meth c D cI cL ad C hT hN => ?_)
  show AW p l e (rmA 8 1 6) s m args below meth c 4 D cI cL ad (AA ad s.heap.size) 0 0 (QW D cI cL ad r.1 r.2 below args s) 0 [(0, .ref (ad 0)), (1, .int v1), (2, .ref (ad 54))] [] μ
  unfold L_parent at h
  refine aw_aload_n (pc := 0) C dL_parent_0 rfl 2 rfl ?_
  refine aw_iconst (pc := 1) C (v := 0) dL_parent_1 rfl ?_
  refine aw_aload_n (pc := 2) C dL_parent_2 rfl 0 rfl ?_
  refine aw_iload_n (pc := 3) C dL_parent_3 rfl 1 rfl ?_
  obtain ⟨y, hq, h⟩ := bi_some h
  rcases y with E | v
  · rw [thr_l] at h
    by_cases e0 : E = xI
    · subst e0
      replace h := ite_T h rfl
      cases h
      refine aw_catchV (pc := 4) (a := 0) (Bs := [.int v1]) (rest := [.int 0, .ref (ad 54)]) C (ok_X3_parent C.tr (r := .inl xI) hq) kv_X3_parent q729 rfl rfl rfl rfl (Nat.le_of_ble_eq_true rfl) dL_parent_4 ⟨(show 8 ≤ 8 by decide), (show 238 ≤ 248 by decide)⟩ ⟨Nat.le_refl _, Nat.le_refl _⟩ rfl [] ⟨0, 9, 12, 13⟩ [] hT (fun z hz => absurd hz List.not_mem_nil) (by decide) (by decide) q451 q396 rfl (fun q => ?_)
      refine aw_astore_n (pc := 12) C (x := q) (lv' := [(3, .ref q), (0, .ref (ad 0)), (1, .int v1), (2, .ref (ad 54))]) dL_parent_12 rfl (by decide) rfl rfl ?_
      refine aw_iconst (pc := 13) C (v := 1) dL_parent_13 rfl ?_
      exact aw_iretW (pc := 14) C dL_parent_14
    replace h := ite_F h e0
    cases h
  · rw [thr_r] at h
    cases h
    refine aw_Vi (pc := 4) (a := 0) (Bs := [.int v1]) C (ok_X3_parent C.tr (r := .inr v) hq) kv_X3_parent q729 rfl rfl rfl rfl dL_parent_4 ⟨(show 8 ≤ 8 by decide), (show 238 ≤ 248 by decide)⟩ ⟨Nat.zero_le _, Nat.zero_le _⟩ [.int 0, .ref (ad 54)] (Nat.le_of_ble_eq_true rfl) rfl ?_
    refine aw_i2l (pc := 7) C dL_parent_7 ?_
    refine aw_lastore (pc := 8) C rfl dL_parent_8 rfl ?_
    refine aw_goto (pc := 9) C 15 dL_parent_9 rfl ?_
    refine aw_iconst (pc := 15) C (v := 0) dL_parent_15 rfl ?_
    refine aw_widen 1 6 (Nat.zero_le _) (Nat.zero_le _) ?_
    exact aw_iretW (pc := 16) C dL_parent_16
