/-! ===== the digest, by both sides alike ===== -/
theorem it3g {A B C β : Type} {F : (A → B → C → Option β) → A → B → C → Option β} {bot : A → B → C → Option β} (Q : β → Prop) (I : Nat → A → B → C → Prop) (hs : ∀ (k : A → B → C → Option β) (m : Nat) (a : A) (b : B) (c : C), I m a b c → (∀ (m' : Nat) (a' : A) (b' : B) (c' : C), m' < m → I m' a' b' c' → ∃ r, k a' b' c' = some r ∧ Q r) → ∃ r, F k a b c = some r ∧ Q r) : ∀ (n m : Nat) (a : A) (b : B) (c : C), m < n → I m a b c → ∃ r, itr F bot n a b c = some r ∧ Q r := by
  intro n
  induction n with
  | zero => intro m a b c h; omega
  | succ n ih => intro m a b c hm hI; exact hs _ m a b c hI (fun m' a' b' c' h h' => ih m' a' b' c' (by omega) h')
theorem it4g {A B C D β : Type} {F : (A → B → C → D → Option β) → A → B → C → D → Option β} {bot : A → B → C → D → Option β} (Q : β → Prop) (I : Nat → A → B → C → D → Prop) (hs : ∀ (k : A → B → C → D → Option β) (m : Nat) (a : A) (b : B) (c : C) (d : D), I m a b c d → (∀ (m' : Nat) (a' : A) (b' : B) (c' : C) (d' : D), m' < m → I m' a' b' c' d' → ∃ r, k a' b' c' d' = some r ∧ Q r) → ∃ r, F k a b c d = some r ∧ Q r) : ∀ (n m : Nat) (a : A) (b : B) (c : C) (d : D), m < n → I m a b c d → ∃ r, itr F bot n a b c d = some r ∧ Q r := by
  intro n
  induction n with
  | zero => intro m a b c d h; omega
  | succ n ih => intro m a b c d hm hI; exact hs _ m a b c d hI (fun m' a' b' c' d' h h' => ih m' a' b' c' d' (by omega) h')
def hx (h : Int64) (v : Int32) : Int64 := 31 * h + v.toInt64
def hf (g : Nat → Int32) : Nat → Nat → Int64 → Int64
  | 0, _, h => h
  | m + 1, k, h => hf g m (k + 1) (hx h (g k))
theorem hf_s (g : Nat → Int32) (m k : Nat) (h : Int64) : hf g (m + 1) k h = hf g m (k + 1) (hx h (g k)) := rfl
theorem hf_0 (g : Nat → Int32) (k : Nat) (h : Int64) : hf g 0 k h = h := rfl
noncomputable def gC (T : TT) (j : Nat) : Int32 := cntV T (nI j)
noncomputable def gD (T : TT) (j : Nat) : Int32 := dclV T (j / 6) (nI (j % 6))
noncomputable def gM (T : TT) (j : Nat) : Int32 := imdV T (j / 8) (nI (j % 8))
noncomputable def gU (T : TT) (j : Nat) : Int32 := usdV T (j / 4) (nI (j % 4))
noncomputable def gS (T : TT) (j : Nat) : Int32 := if j % 3 = 0 then enc (tPar T (j / 3)) else if j % 3 = 1 then nI (visM T (j / 3) 0) else nI (visM T (j / 3) 1)
noncomputable def K5 (N : Nat) (f : Nat → Nat) (h : Int64) : Int64 := hf (fun j => nI (f j)) N 0 (hx h (nI N))
noncomputable def K4 (T : TT) (N : Nat) (f : Nat → Nat) (h : Int64) : Int64 := K5 N f (hf (gU T) (4 * tU T) 0 h)
noncomputable def K3 (T : TT) (N : Nat) (f : Nat → Nat) (h : Int64) : Int64 := K4 T N f (hf (gM T) (8 * tI T) 0 h)
noncomputable def K2 (T : TT) (N : Nat) (f : Nat → Nat) (h : Int64) : Int64 := K3 T N f (hf (gD T) (6 * tD T) 0 h)
noncomputable def K1 (T : TT) (N : Nat) (f : Nat → Nat) (h : Int64) : Int64 := K2 T N f (hf (gS T) (3 * tS T) 0 h)
noncomputable def DG (T : TT) (N : Nat) (f : Nat → Nat) : Int64 := K1 T N f (hf (gC T) 11 0 1997)
theorem gS_0 (T : TT) (s : Nat) : gS T (3 * s) = enc (tPar T s) := by
  unfold gS
  rw [show 3 * s % 3 = 0 by omega, if_pos rfl, show 3 * s / 3 = s by omega]
theorem gS_1 (T : TT) (s : Nat) : gS T (3 * s + 1) = nI (visM T s 0) := by
  unfold gS
  rw [show (3 * s + 1) % 3 = 1 by omega, if_neg (by decide), if_pos rfl, show (3 * s + 1) / 3 = s by omega]
theorem gS_2 (T : TT) (s : Nat) : gS T (3 * s + 1 + 1) = nI (visM T s 1) := by
  unfold gS
  rw [show (3 * s + 1 + 1) % 3 = 2 by omega, if_neg (by decide), if_neg (by decide), show (3 * s + 1 + 1) / 3 = s by omega]
section DGc
variable {μ : Mm} {T : TT} {N : Nat} {f : Nat → Nat}
def QD (μ : Mm) (T : TT) (x : Int64) (r : (String ⊕ Int64) × Mm) : Prop := ∃ ν, r = (.inr x, ν) ∧ CI ν T ∧ frC μ ν
theorem dig256 (hv : TXv N f) (hT : TXc μ N f) {ν : Mm} (hC : CI ν T) (hF : frC μ ν) (h : Int64) : ∃ r, itr (X3_digest_l256) (fun _ _ _ => none) big (hx h (nI N)) 0 ν = some r ∧ QD μ T (K5 N f h) r := by
  have hN := hv.1
  have hTν := TXc_C hT hF
  refine it3g _ (fun m v1 v3 ξ => ∃ k, k + m = N ∧ v3 = nI k ∧ ξ = ν ∧ hf (fun j => nI (f j)) m k v1 = K5 N f h) ?_ big N _ _ ν (by unfold big; omega) ⟨0, by omega, rfl, rfl, rfl⟩
  rintro kk m v1 v3 ξ ⟨k, hm, rfl, rfl, he⟩ ih
  unfold X3_digest_l256
  rw [hTν.1, ifLe (by omega) (by omega)]
  cases m with
  | zero =>
    rw [if_pos (by omega)]
    rw [hf_0] at he
    exact ⟨_, rfl, ξ, by rw [he], hC, hF⟩
  | succ m =>
    rw [hf_s] at he
    rw [if_neg (by omega), codeAt_eq hN hTν (by omega), bi_eq, cdA_in (by omega), bd_eq, nI_1]
    exact ih m _ _ _ (by omega) ⟨k + 1, by omega, rfl, rfl, he⟩
theorem dig192 (hv : TXv N f) (hT : TXc μ N f) {ν : Mm} (hC : CI ν T) (hF : frC μ ν) (h : Int64) : ∃ r, itr (X3_digest_l192) (fun _ _ _ => none) big h 0 ν = some r ∧ QD μ T (K4 T N f h) r := by
  have hU := hC.2.1.1.1.2.2.2.1
  have hTν := TXc_C hT hF
  refine it3g _ (fun m v1 v3 ξ => ∃ d, d + m = tU T ∧ v3 = nI d ∧ ξ = ν ∧ K5 N f (hf (gU T) (4 * m) (4 * d) v1) = K4 T N f h) ?_ big (tU T) _ _ ν (by unfold big; omega) ⟨0, by omega, rfl, rfl, rfl⟩
  rintro kk m v1 v3 ξ ⟨d, hm, rfl, rfl, he⟩ ih
  unfold X3_digest_l192
  rw [hC.2.1.1.2.1.1.2.2.2, ifLe (by omega) (by omega)]
  cases m with
  | zero =>
    rw [if_pos (by omega), hTν.1, bd_eq]
    rw [Nat.mul_zero, hf_0] at he
    rw [← he]
    exact dig256 hv hT hC hF v1
  | succ m =>
    rw [if_neg (by omega)]
    refine it4g _ (fun i w1 w3 w4 ξ' => ∃ w, w + i = 4 ∧ w3 = nI d ∧ w4 = nI w ∧ ξ' = ξ ∧ K5 N f (hf (gU T) (4 * m + i) (4 * d + w) w1) = K4 T N f h) ?_ big 4 _ _ _ ξ (by decide) ⟨0, rfl, rfl, rfl, rfl, he⟩
    rintro k2 i w1 w3 w4 ξ' ⟨w, hi, rfl, rfl, rfl, he2⟩ ih2
    unfold X3_digest_l206
    rw [show (3 : Int32) = nI 3 from rfl, ifLt (by decide) (by omega)]
    cases i with
    | zero =>
      rw [if_pos (by omega), nI_1]
      exact ih m _ _ _ (by omega) ⟨d + 1, by omega, rfl, rfl, by rw [← he2, show 4 * (d + 1) = 4 * d + w by omega, Nat.add_zero]⟩
    | succ i =>
      have hs : sUsd T (nI d) (nI w) = .inr (gU T (4 * d + w)) := by
        unfold sUsd gU usdV
        rw [if_pos (by rw [inb_nI (by omega)]; exact decide_eq_true (by omega)), if_pos (by rw [inb_nI (by omega)]; exact decide_eq_true (by omega)), nI_clamp (by omega), show (4 * d + w) / 4 = d by omega, show (4 * d + w) % 4 = w by omega]
      rw [if_neg (by omega), used_eq hC, bi_eq, hs, thr_r, bd_eq, nI_1]
      rw [← Nat.add_assoc, hf_s] at he2
      exact ih2 i _ _ _ _ (by omega) ⟨w + 1, by omega, rfl, rfl, rfl, he2⟩
theorem dig142 (hv : TXv N f) (hT : TXc μ N f) {ν : Mm} (hC : CI ν T) (hF : frC μ ν) (h : Int64) : ∃ r, itr (X3_digest_l142) (fun _ _ _ => none) big h 0 ν = some r ∧ QD μ T (K3 T N f h) r := by
  have hI := hC.2.1.1.1.2.2.1.1
  refine it3g _ (fun m v1 v3 ξ => ∃ d, d + m = tI T ∧ v3 = nI d ∧ (CI ξ T ∧ frC μ ξ) ∧ K4 T N f (hf (gM T) (8 * m) (8 * d) v1) = K3 T N f h) ?_ big (tI T) _ _ ν (by unfold big; omega) ⟨0, by omega, rfl, ⟨hC, hF⟩, rfl⟩
  rintro kk m v1 v3 ξ ⟨d, hm, rfl, ⟨hC, hF⟩, he⟩ ih
  unfold X3_digest_l142
  rw [hC.2.1.1.2.1.1.2.2.1, ifLe (by omega) (by omega)]
  cases m with
  | zero =>
    rw [if_pos (by omega)]
    rw [Nat.mul_zero, hf_0] at he
    rw [← he]
    exact dig192 hv hT hC hF v1
  | succ m =>
    rw [if_neg (by omega)]
    refine it4g _ (fun i w1 w3 w4 ξ' => ∃ w, w + i = 8 ∧ w3 = nI d ∧ w4 = nI w ∧ (CI ξ' T ∧ frC μ ξ') ∧ K4 T N f (hf (gM T) (8 * m + i) (8 * d + w) w1) = K3 T N f h) ?_ big 8 _ _ _ ξ (by decide) ⟨0, rfl, rfl, rfl, ⟨hC, hF⟩, he⟩
    rintro k2 i w1 w3 w4 ξ' ⟨w, hi, rfl, rfl, ⟨hC, hF⟩, he2⟩ ih2
    unfold X3_digest_l156
    rw [show (7 : Int32) = nI 7 from rfl, ifLt (by decide) (by omega)]
    cases i with
    | zero =>
      rw [if_pos (by omega), nI_1]
      exact ih m _ _ _ (by omega) ⟨d + 1, by omega, rfl, ⟨hC, hF⟩, by rw [← he2, show 8 * (d + 1) = 8 * d + w by omega, Nat.add_zero]⟩
    | succ i =>
      have hs : sImd T (nI d) (nI w) = .inr (gM T (8 * d + w)) := by
        unfold sImd gM imdV
        rw [if_pos (by rw [inb_nI (by omega)]; exact decide_eq_true (by omega)), if_pos (by rw [inb_nI (by omega)]; exact decide_eq_true (by omega)), nI_clamp (by omega), show (8 * d + w) / 8 = d by omega, show (8 * d + w) % 8 = w by omega]
      obtain ⟨r, e, ζ, er, c1, c2⟩ := imported_eq hC (nI d) (nI w)
      have er' : r = (sImd T (nI d) (nI w), ζ) := er
      rw [if_neg (by omega), e, er', bn_eq, hs, thr_r, bd_eq, nI_1]
      rw [← Nat.add_assoc, hf_s] at he2
      exact ih2 i _ _ _ _ (by omega) ⟨w + 1, by omega, rfl, rfl, ⟨c1, frC_tr hF c2⟩, he2⟩
theorem dig93 (hv : TXv N f) (hT : TXc μ N f) {ν : Mm} (hC : CI ν T) (hF : frC μ ν) (h : Int64) : ∃ r, itr (X3_digest_l93) (fun _ _ _ => none) big h 0 ν = some r ∧ QD μ T (K2 T N f h) r := by
  have hD := hC.2.1.1.1.2.1.1
  refine it3g _ (fun m v1 v3 ξ => ∃ d, d + m = tD T ∧ v3 = nI d ∧ ξ = ν ∧ K3 T N f (hf (gD T) (6 * m) (6 * d) v1) = K2 T N f h) ?_ big (tD T) _ _ ν (by unfold big; omega) ⟨0, by omega, rfl, rfl, rfl⟩
  rintro kk m v1 v3 ξ ⟨d, hm, rfl, rfl, he⟩ ih
  unfold X3_digest_l93
  rw [hC.2.1.1.2.1.1.2.1, ifLe (by omega) (by omega)]
  cases m with
  | zero =>
    rw [if_pos (by omega)]
    rw [Nat.mul_zero, hf_0] at he
    rw [← he]
    exact dig142 hv hT hC hF v1
  | succ m =>
    rw [if_neg (by omega)]
    refine it4g _ (fun i w1 w3 w4 ξ' => ∃ w, w + i = 6 ∧ w3 = nI d ∧ w4 = nI w ∧ ξ' = ξ ∧ K3 T N f (hf (gD T) (6 * m + i) (6 * d + w) w1) = K2 T N f h) ?_ big 6 _ _ _ ξ (by decide) ⟨0, rfl, rfl, rfl, rfl, he⟩
    rintro k2 i w1 w3 w4 ξ' ⟨w, hi, rfl, rfl, rfl, he2⟩ ih2
    unfold X3_digest_l107
    rw [show (5 : Int32) = nI 5 from rfl, ifLt (by decide) (by omega)]
    cases i with
    | zero =>
      rw [if_pos (by omega), nI_1]
      exact ih m _ _ _ (by omega) ⟨d + 1, by omega, rfl, rfl, by rw [← he2, show 6 * (d + 1) = 6 * d + w by omega, Nat.add_zero]⟩
    | succ i =>
      have hs : sDcl T (nI d) (nI w) = .inr (gD T (6 * d + w)) := by
        unfold sDcl gD dclV
        rw [if_pos (by rw [inb_nI (by omega)]; exact decide_eq_true (by omega)), if_pos (by rw [inb_nI (by omega)]; exact decide_eq_true (by omega)), nI_clamp (by omega), show (6 * d + w) / 6 = d by omega, show (6 * d + w) % 6 = w by omega]
      rw [if_neg (by omega), declaration_eq hC, bi_eq, hs, thr_r, bd_eq, nI_1]
      rw [← Nat.add_assoc, hf_s] at he2
      exact ih2 i _ _ _ _ (by omega) ⟨w + 1, by omega, rfl, rfl, rfl, he2⟩
theorem dig33 (hv : TXv N f) (hT : TXc μ N f) {ν : Mm} (hC : CI ν T) (hF : frC μ ν) (h : Int64) : ∃ r, itr (X3_digest_l33) (fun _ _ _ => none) big h 0 ν = some r ∧ QD μ T (K1 T N f h) r := by
  have h16 := hC.2.1.1.1.1.2.1
  refine it3g _ (fun m v1 v3 ξ => ∃ d, d + m = tS T ∧ v3 = nI d ∧ ξ = ν ∧ K2 T N f (hf (gS T) (3 * m) (3 * d) v1) = K1 T N f h) ?_ big (tS T) _ _ ν (by unfold big; omega) ⟨0, by omega, rfl, rfl, rfl⟩
  rintro kk m v1 v3 ξ ⟨d, hm, rfl, rfl, he⟩ ih
  unfold X3_digest_l33
  rw [hC.2.1.1.2.1.1.1, ifLe (by omega) (by omega)]
  cases m with
  | zero =>
    rw [if_pos (by omega)]
    rw [Nat.mul_zero, hf_0] at he
    rw [← he]
    exact dig93 hv hT hC hF v1
  | succ m =>
    have hin : inb (nI d) (tS T) = true := by rw [inb_nI (by omega)]; exact decide_eq_true (by omega)
    have h1 : sPar T (nI d) = .inr (enc (tPar T d)) := by unfold sPar; rw [if_pos hin, nI_clamp (by omega)]
    have h2 : ∀ b, sVis T (nI d) b = .inr (nI (visM T d b)) := fun b => by unfold sVis; rw [if_pos hin, nI_clamp (by omega)]
    rw [if_neg (by omega), parent_eq hC, bi_eq, h1, thr_r, bd_eq, visible_eq hC, bi_eq, h2, thr_r, bd_eq, visible_eq hC, bi_eq, h2, thr_r, bd_eq, nI_1]
    rw [show 3 * (m + 1) = 3 * m + 1 + 1 + 1 by omega, hf_s, hf_s, hf_s, gS_0, gS_1, gS_2] at he
    exact ih m _ _ _ (by omega) ⟨d + 1, by omega, rfl, rfl, by rw [← he, show 3 * (d + 1) = 3 * d + 1 + 1 + 1 by omega]; rfl⟩
theorem digest_eq (hv : TXv N f) (hT : TXc μ N f) (hC : CI μ T) : ∃ r, X3_digest μ = some r ∧ QD μ T (DG T N f) r := by
  unfold X3_digest
  refine it3g _ (fun m v1 v3 ξ => ∃ d, d + m = 11 ∧ v3 = nI d ∧ (CI ξ T ∧ frC μ ξ) ∧ K1 T N f (hf (gC T) m d v1) = DG T N f) ?_ big 11 _ _ μ (by decide) ⟨0, by omega, rfl, ⟨hC, frC_refl⟩, rfl⟩
  rintro kk m v1 v3 ξ ⟨d, hm, rfl, ⟨hC, hF⟩, he⟩ ih
  unfold X3_digest_l6
  rw [show (10 : Int32) = nI 10 from rfl, ifLt (by decide) (by omega)]
  cases m with
  | zero =>
    rw [if_pos (by omega)]
    rw [hf_0] at he
    rw [← he]
    exact dig33 hv hT hC hF v1
  | succ m =>
    have hs : sCnt T (nI d) = .inr (gC T d) := by
      unfold sCnt gC
      rw [if_pos (by rw [inb_nI (by omega)]; exact decide_eq_true (by omega))]
    obtain ⟨r, e, ζ, er, c1, c2⟩ := count_eq hC (nI d)
    have er' : r = (sCnt T (nI d), ζ) := er
    rw [if_neg (by omega), e, er', bn_eq, hs, thr_r, bd_eq, nI_1]
    rw [hf_s] at he
    exact ih m _ _ _ (by omega) ⟨d + 1, by omega, rfl, ⟨c1, frC_tr hF c2⟩, he⟩
end DGc
