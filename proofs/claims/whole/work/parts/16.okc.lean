/-! ### NameScopes.digest()J -/
theorem ok_X3_digest_l256 {l : Launch} {p : Program} {e : Env} {s : State} {m : MethodId} {args : Array Value} {below : List Frame} {meth : Method} {c : Code} {D : va_G} {cI cL : ClassId} {ad : Nat → Nat} (C : CX p l s m args meth c RX3 cX3_digest 5 (some .long) D cI cL (AA ad s.heap.size)) (hex : ∀ x ∈ c.exceptionTable.toList, False) {r : ((String ⊕ Int64) × Mm)} {k256 : Int64 → Int32 → Mm → Option ((String ⊕ Int64) × Mm)} (hk256 : ∀ (v1 : Int64) (v3 : Int32) (μ : Mm), k256 v1 v3 μ = some r → AV l p e s m args below meth c D cI cL ad 8 5 (rsL r.1) r.2 256 [(0, .ref (ad 0)), (1, .long v1), (3, .int v3)] [] μ) {v1 : Int64} {v3 : Int32} {μ : Mm}  (h : X3_digest_l256 k256 v1 v3 μ = some r) : AV l p e s m args below meth c D cI cL ad 8 5 (rsL r.1) r.2 256 [(0, .ref (ad 0)), (1, .long v1), (3, .int v3)] [] μ := by
  unfold X3_digest_l256 at h
  refine aw_iload_n (pc := 256) C dX3_digest_256 rfl 2 rfl ?_
  refine aw_aload_n (pc := 257) C dX3_digest_257 rfl 0 rfl ?_
  refine aw_get (pc := 258) C (a := 0) (k := 0) (v := .ref (ad 1)) inX3 rfl rfl (by decide) q160 dX3_digest_258 rfl ?_
  refine aw_getN (pc := 261) C (a := 1) (k := 1) (v := .int (μ.1 1 1)) inX2 rfl rfl (by decide) q32 dX3_digest_261 rfl ?_
  refine aw_icmp_ge (pc := 264) C 289 dX3_digest_264 rfl (fun hc => ?_) (fun hc => ?_)
  · replace h := ite_T h hc
    refine aw_lload_n (pc := 289) C dX3_digest_289 rfl 1 rfl ?_
    cases h
    exact aw_lret (pc := 290) C dX3_digest_290
  · replace h := ite_F h hc
    refine aw_ldc2_w (pc := 267) C dX3_digest_267 q264 ?_
    refine aw_lload_n (pc := 270) C dX3_digest_270 rfl 1 rfl ?_
    refine aw_lmul (pc := 271) C dX3_digest_271 ?_
    refine aw_aload_n (pc := 272) C dX3_digest_272 rfl 0 rfl ?_
    refine aw_get (pc := 273) C (a := 0) (k := 0) (v := .ref (ad 1)) inX3 rfl rfl (by decide) q160 dX3_digest_273 rfl ?_
    refine aw_iload_n (pc := 276) C dX3_digest_276 rfl 2 rfl ?_
    obtain ⟨q7, hq6, h⟩ := bi_some h
    refine aw_Vi (pc := 277) (a := 1) (Bs := [.int v3]) C (ok_X2_codeAt C.tr hq6) kv_X2_codeAt q444 rfl rfl rfl rfl dX3_digest_277 ⟨(show 1 ≤ 8 by decide), (show 21 ≤ 248 by decide)⟩ ⟨Nat.zero_le _, Nat.zero_le _⟩ [.long (31 * v1)] (Nat.le_of_ble_eq_true rfl) rfl ?_
    refine aw_i2l (pc := 280) C dX3_digest_280 ?_
    refine aw_ladd (pc := 281) C dX3_digest_281 ?_
    obtain ⟨x8, ex8, h⟩ := bd_some h
    refine aw_lstore_n (pc := 282) C (x := x8) (lv' := [(1, .long x8), (0, .ref (ad 0)), (3, .int v3)]) dX3_digest_282 rfl (by decide) ex8 rfl ?_
    refine aw_iinc (pc := 283) C (v := (v3 + 1)) (lv' := [(3, .int (v3 + 1)), (1, .long x8), (0, .ref (ad 0))]) dX3_digest_283 2 rfl (by decide) rfl rfl ?_
    refine aw_goto (pc := 286) C 256 dX3_digest_286 rfl ?_
    refine aw_sub [2, 1, 0] rfl ?_
    exact hk256 x8 (v3 + 1) μ h
theorem ok_X3_digest_l256_w {l : Launch} {p : Program} {e : Env} {s : State} {m : MethodId} {args : Array Value} {below : List Frame} {meth : Method} {c : Code} {D : va_G} {cI cL : ClassId} {ad : Nat → Nat} (C : CX p l s m args meth c RX3 cX3_digest 5 (some .long) D cI cL (AA ad s.heap.size)) (hex : ∀ x ∈ c.exceptionTable.toList, False) {r : ((String ⊕ Int64) × Mm)}  : ∀ (n : Nat) (v1 : Int64) (v3 : Int32) (μ : Mm) , itr (X3_digest_l256) (fun _ _ _ => none) n v1 v3 μ = some r → AV l p e s m args below meth c D cI cL ad 8 5 (rsL r.1) r.2 256 [(0, .ref (ad 0)), (1, .long v1), (3, .int v3)] [] μ := by
  intro n
  induction n with
  | zero => intro v1 v3 μ h; exact nomatch (show (none : Option ((String ⊕ Int64) × Mm)) = some r from h)
  | succ n ih => intro v1 v3 μ h; exact ok_X3_digest_l256 C hex  ih h
theorem ok_X3_digest_l206 {l : Launch} {p : Program} {e : Env} {s : State} {m : MethodId} {args : Array Value} {below : List Frame} {meth : Method} {c : Code} {D : va_G} {cI cL : ClassId} {ad : Nat → Nat} (C : CX p l s m args meth c RX3 cX3_digest 5 (some .long) D cI cL (AA ad s.heap.size)) (hex : ∀ x ∈ c.exceptionTable.toList, False) {r : ((String ⊕ Int64) × Mm)} {k192 : Int64 → Int32 → Mm → Option ((String ⊕ Int64) × Mm)} {k206 : Int64 → Int32 → Int32 → Mm → Option ((String ⊕ Int64) × Mm)} (hk192 : ∀ (v1 : Int64) (v3 : Int32) (μ : Mm), k192 v1 v3 μ = some r → AV l p e s m args below meth c D cI cL ad 8 5 (rsL r.1) r.2 192 [(0, .ref (ad 0)), (1, .long v1), (3, .int v3)] [] μ) (hk206 : ∀ (v1 : Int64) (v3 : Int32) (v4 : Int32) (μ : Mm), k206 v1 v3 v4 μ = some r → AV l p e s m args below meth c D cI cL ad 8 5 (rsL r.1) r.2 206 [(0, .ref (ad 0)), (1, .long v1), (3, .int v3), (4, .int v4)] [] μ) {v1 : Int64} {v3 : Int32} {v4 : Int32} {μ : Mm}  (h : X3_digest_l206 k192 k206 v1 v3 v4 μ = some r) : AV l p e s m args below meth c D cI cL ad 8 5 (rsL r.1) r.2 206 [(0, .ref (ad 0)), (1, .long v1), (3, .int v3), (4, .int v4)] [] μ := by
  unfold X3_digest_l206 at h
  refine aw_iload (pc := 206) C dX3_digest_206 3 rfl ?_
  refine aw_iconst (pc := 208) C (v := 3) dX3_digest_208 rfl ?_
  refine aw_icmp_gt (pc := 209) C 233 dX3_digest_209 rfl (fun hc => ?_) (fun hc => ?_)
  · replace h := ite_T h hc
    refine aw_iinc (pc := 233) C (v := (v3 + 1)) (lv' := [(3, .int (v3 + 1)), (0, .ref (ad 0)), (1, .long v1), (4, .int v4)]) dX3_digest_233 2 rfl (by decide) rfl rfl ?_
    refine aw_goto (pc := 236) C 192 dX3_digest_236 rfl ?_
    refine aw_sub [1, 2, 0] rfl ?_
    exact hk192 v1 (v3 + 1) μ h
  · replace h := ite_F h hc
    refine aw_ldc2_w (pc := 212) C dX3_digest_212 q264 ?_
    refine aw_lload_n (pc := 215) C dX3_digest_215 rfl 1 rfl ?_
    refine aw_lmul (pc := 216) C dX3_digest_216 ?_
    refine aw_aload_n (pc := 217) C dX3_digest_217 rfl 0 rfl ?_
    refine aw_iload_n (pc := 218) C dX3_digest_218 rfl 2 rfl ?_
    refine aw_iload (pc := 219) C dX3_digest_219 3 rfl ?_
    obtain ⟨y12, hq9, h⟩ := bi_some h
    rcases y12 with E11 | q10
    · rw [thr_l] at h
      cases h
      exact aw_callVT (pc := 221) (a := 0) (Bs := [.int v3, .int v4]) (rest := [.long (31 * v1)]) C hex (ok_X3_used C.tr (r := .inl E11) hq9) kv_X3_used q436 rfl rfl rfl rfl (Nat.le_of_ble_eq_true rfl) dX3_digest_221 ⟨(show 8 ≤ 8 by decide), (show 239 ≤ 248 by decide)⟩ ⟨Nat.le_refl _, Nat.le_refl _⟩ rfl
    · rw [thr_r] at h
      refine aw_Vi (pc := 221) (a := 0) (Bs := [.int v3, .int v4]) C (ok_X3_used C.tr (r := .inr q10) hq9) kv_X3_used q436 rfl rfl rfl rfl dX3_digest_221 ⟨(show 8 ≤ 8 by decide), (show 239 ≤ 248 by decide)⟩ ⟨Nat.zero_le _, Nat.zero_le _⟩ [.long (31 * v1)] (Nat.le_of_ble_eq_true rfl) rfl ?_
      refine aw_i2l (pc := 224) C dX3_digest_224 ?_
      refine aw_ladd (pc := 225) C dX3_digest_225 ?_
      obtain ⟨x13, ex13, h⟩ := bd_some h
      refine aw_lstore_n (pc := 226) C (x := x13) (lv' := [(1, .long x13), (0, .ref (ad 0)), (3, .int v3), (4, .int v4)]) dX3_digest_226 rfl (by decide) ex13 rfl ?_
      refine aw_iinc (pc := 227) C (v := (v4 + 1)) (lv' := [(4, .int (v4 + 1)), (1, .long x13), (0, .ref (ad 0)), (3, .int v3)]) dX3_digest_227 3 rfl (by decide) rfl rfl ?_
      refine aw_goto (pc := 230) C 206 dX3_digest_230 rfl ?_
      refine aw_sub [2, 1, 3, 0] rfl ?_
      exact hk206 x13 v3 (v4 + 1) μ h
theorem ok_X3_digest_l206_w {l : Launch} {p : Program} {e : Env} {s : State} {m : MethodId} {args : Array Value} {below : List Frame} {meth : Method} {c : Code} {D : va_G} {cI cL : ClassId} {ad : Nat → Nat} (C : CX p l s m args meth c RX3 cX3_digest 5 (some .long) D cI cL (AA ad s.heap.size)) (hex : ∀ x ∈ c.exceptionTable.toList, False) {r : ((String ⊕ Int64) × Mm)} {k192 : Int64 → Int32 → Mm → Option ((String ⊕ Int64) × Mm)} (hk192 : ∀ (v1 : Int64) (v3 : Int32) (μ : Mm), k192 v1 v3 μ = some r → AV l p e s m args below meth c D cI cL ad 8 5 (rsL r.1) r.2 192 [(0, .ref (ad 0)), (1, .long v1), (3, .int v3)] [] μ) : ∀ (n : Nat) (v1 : Int64) (v3 : Int32) (v4 : Int32) (μ : Mm) , itr (X3_digest_l206 k192) (fun _ _ _ _ => none) n v1 v3 v4 μ = some r → AV l p e s m args below meth c D cI cL ad 8 5 (rsL r.1) r.2 206 [(0, .ref (ad 0)), (1, .long v1), (3, .int v3), (4, .int v4)] [] μ := by
  intro n
  induction n with
  | zero => intro v1 v3 v4 μ h; exact nomatch (show (none : Option ((String ⊕ Int64) × Mm)) = some r from h)
  | succ n ih => intro v1 v3 v4 μ h; exact ok_X3_digest_l206 C hex  hk192 ih h
theorem ok_X3_digest_l192 {l : Launch} {p : Program} {e : Env} {s : State} {m : MethodId} {args : Array Value} {below : List Frame} {meth : Method} {c : Code} {D : va_G} {cI cL : ClassId} {ad : Nat → Nat} (C : CX p l s m args meth c RX3 cX3_digest 5 (some .long) D cI cL (AA ad s.heap.size)) (hex : ∀ x ∈ c.exceptionTable.toList, False) {r : ((String ⊕ Int64) × Mm)} {k192 : Int64 → Int32 → Mm → Option ((String ⊕ Int64) × Mm)} (hk192 : ∀ (v1 : Int64) (v3 : Int32) (μ : Mm), k192 v1 v3 μ = some r → AV l p e s m args below meth c D cI cL ad 8 5 (rsL r.1) r.2 192 [(0, .ref (ad 0)), (1, .long v1), (3, .int v3)] [] μ) {v1 : Int64} {v3 : Int32} {μ : Mm}  (h : X3_digest_l192 k192 v1 v3 μ = some r) : AV l p e s m args below meth c D cI cL ad 8 5 (rsL r.1) r.2 192 [(0, .ref (ad 0)), (1, .long v1), (3, .int v3)] [] μ := by
  unfold X3_digest_l192 at h
  refine aw_iload_n (pc := 192) C dX3_digest_192 rfl 2 rfl ?_
  refine aw_aload_n (pc := 193) C dX3_digest_193 rfl 0 rfl ?_
  refine aw_getNow (pc := 194) C q161 dX3_digest_194 (fun hF4 => ?_)
  refine aw_getN (pc := 197) C (a := (mNow μ)) (k := 13) (v := .int (μ.1 (mNow μ) 13)) inX0 (kdF hF4) rfl (by decide) q114 dX3_digest_197 rfl ?_
  refine aw_icmp_ge (pc := 200) C 239 dX3_digest_200 rfl (fun hc => ?_) (fun hc => ?_)
  · replace h := ite_T h hc
    refine aw_ldc2_w (pc := 239) C dX3_digest_239 q264 ?_
    refine aw_lload_n (pc := 242) C dX3_digest_242 rfl 1 rfl ?_
    refine aw_lmul (pc := 243) C dX3_digest_243 ?_
    refine aw_aload_n (pc := 244) C dX3_digest_244 rfl 0 rfl ?_
    refine aw_get (pc := 245) C (a := 0) (k := 0) (v := .ref (ad 1)) inX3 rfl rfl (by decide) q160 dX3_digest_245 rfl ?_
    refine aw_getN (pc := 248) C (a := 1) (k := 1) (v := .int (μ.1 1 1)) inX2 rfl rfl (by decide) q32 dX3_digest_248 rfl ?_
    refine aw_i2l (pc := 251) C dX3_digest_251 ?_
    refine aw_ladd (pc := 252) C dX3_digest_252 ?_
    obtain ⟨x5, ex5, h⟩ := bd_some h
    refine aw_lstore_n (pc := 253) C (x := x5) (lv' := [(1, .long x5), (0, .ref (ad 0)), (3, .int v3)]) dX3_digest_253 rfl (by decide) ex5 rfl ?_
    refine aw_iconst (pc := 254) C (v := 0) dX3_digest_254 rfl ?_
    refine aw_istore_n (pc := 255) C (x := 0) (lv' := [(3, .int 0), (1, .long x5), (0, .ref (ad 0))]) dX3_digest_255 rfl (by decide) rfl rfl ?_
    refine aw_sub [2, 1, 0] rfl ?_
    exact ok_X3_digest_l256_w C hex big x5 0 μ h
  · replace h := ite_F h hc
    refine aw_iconst (pc := 203) C (v := 0) dX3_digest_203 rfl ?_
    refine aw_istore (pc := 204) C (x := 0) (lv' := [(4, .int 0), (0, .ref (ad 0)), (1, .long v1), (3, .int v3)]) dX3_digest_204 (by decide) rfl rfl ?_
    refine aw_sub [1, 2, 3, 0] rfl ?_
    exact ok_X3_digest_l206_w C hex hk192 big v1 v3 0 μ h
theorem ok_X3_digest_l192_w {l : Launch} {p : Program} {e : Env} {s : State} {m : MethodId} {args : Array Value} {below : List Frame} {meth : Method} {c : Code} {D : va_G} {cI cL : ClassId} {ad : Nat → Nat} (C : CX p l s m args meth c RX3 cX3_digest 5 (some .long) D cI cL (AA ad s.heap.size)) (hex : ∀ x ∈ c.exceptionTable.toList, False) {r : ((String ⊕ Int64) × Mm)}  : ∀ (n : Nat) (v1 : Int64) (v3 : Int32) (μ : Mm) , itr (X3_digest_l192) (fun _ _ _ => none) n v1 v3 μ = some r → AV l p e s m args below meth c D cI cL ad 8 5 (rsL r.1) r.2 192 [(0, .ref (ad 0)), (1, .long v1), (3, .int v3)] [] μ := by
  intro n
  induction n with
  | zero => intro v1 v3 μ h; exact nomatch (show (none : Option ((String ⊕ Int64) × Mm)) = some r from h)
  | succ n ih => intro v1 v3 μ h; exact ok_X3_digest_l192 C hex  ih h
theorem ok_X3_digest_l156 {l : Launch} {p : Program} {e : Env} {s : State} {m : MethodId} {args : Array Value} {below : List Frame} {meth : Method} {c : Code} {D : va_G} {cI cL : ClassId} {ad : Nat → Nat} (C : CX p l s m args meth c RX3 cX3_digest 5 (some .long) D cI cL (AA ad s.heap.size)) (hex : ∀ x ∈ c.exceptionTable.toList, False) {r : ((String ⊕ Int64) × Mm)} {k142 : Int64 → Int32 → Mm → Option ((String ⊕ Int64) × Mm)} {k156 : Int64 → Int32 → Int32 → Mm → Option ((String ⊕ Int64) × Mm)} (hk142 : ∀ (v1 : Int64) (v3 : Int32) (μ : Mm), k142 v1 v3 μ = some r → AV l p e s m args below meth c D cI cL ad 8 5 (rsL r.1) r.2 142 [(0, .ref (ad 0)), (1, .long v1), (3, .int v3)] [] μ) (hk156 : ∀ (v1 : Int64) (v3 : Int32) (v4 : Int32) (μ : Mm), k156 v1 v3 v4 μ = some r → AV l p e s m args below meth c D cI cL ad 8 5 (rsL r.1) r.2 156 [(0, .ref (ad 0)), (1, .long v1), (3, .int v3), (4, .int v4)] [] μ) {v1 : Int64} {v3 : Int32} {v4 : Int32} {μ : Mm}  (h : X3_digest_l156 k142 k156 v1 v3 v4 μ = some r) : AV l p e s m args below meth c D cI cL ad 8 5 (rsL r.1) r.2 156 [(0, .ref (ad 0)), (1, .long v1), (3, .int v3), (4, .int v4)] [] μ := by
  unfold X3_digest_l156 at h
  refine aw_iload (pc := 156) C dX3_digest_156 3 rfl ?_
  refine aw_bipush (pc := 158) C (v := 7) dX3_digest_158 rfl ?_
  refine aw_icmp_gt (pc := 160) C 184 dX3_digest_160 rfl (fun hc => ?_) (fun hc => ?_)
  · replace h := ite_T h hc
    refine aw_iinc (pc := 184) C (v := (v3 + 1)) (lv' := [(3, .int (v3 + 1)), (0, .ref (ad 0)), (1, .long v1), (4, .int v4)]) dX3_digest_184 2 rfl (by decide) rfl rfl ?_
    refine aw_goto (pc := 187) C 142 dX3_digest_187 rfl ?_
    refine aw_sub [1, 2, 0] rfl ?_
    exact hk142 v1 (v3 + 1) μ h
  · replace h := ite_F h hc
    refine aw_ldc2_w (pc := 163) C dX3_digest_163 q264 ?_
    refine aw_lload_n (pc := 166) C dX3_digest_166 rfl 1 rfl ?_
    refine aw_lmul (pc := 167) C dX3_digest_167 ?_
    refine aw_aload_n (pc := 168) C dX3_digest_168 rfl 0 rfl ?_
    refine aw_iload_n (pc := 169) C dX3_digest_169 rfl 2 rfl ?_
    refine aw_iload (pc := 170) C dX3_digest_170 3 rfl ?_
    obtain ⟨y17, μ18, hq14, h⟩ := bn_some h
    rcases y17 with E16 | q15
    · rw [thr_l] at h
      cases h
      exact aw_callVT (pc := 172) (a := 0) (Bs := [.int v3, .int v4]) (rest := [.long (31 * v1)]) C hex (ok_X3_imported C.tr (r := (.inl E16, μ18)) hq14) kv_X3_imported q432 rfl rfl rfl rfl (Nat.le_of_ble_eq_true rfl) dX3_digest_172 ⟨(show 8 ≤ 8 by decide), (show 239 ≤ 248 by decide)⟩ ⟨Nat.le_refl _, Nat.le_refl _⟩ rfl
    · rw [thr_r] at h
      refine aw_Vi (pc := 172) (a := 0) (Bs := [.int v3, .int v4]) C (ok_X3_imported C.tr (r := (.inr q15, μ18)) hq14) kv_X3_imported q432 rfl rfl rfl rfl dX3_digest_172 ⟨(show 8 ≤ 8 by decide), (show 239 ≤ 248 by decide)⟩ ⟨Nat.zero_le _, Nat.zero_le _⟩ [.long (31 * v1)] (Nat.le_of_ble_eq_true rfl) rfl ?_
      refine aw_i2l (pc := 175) C dX3_digest_175 ?_
      refine aw_ladd (pc := 176) C dX3_digest_176 ?_
      obtain ⟨x19, ex19, h⟩ := bd_some h
      refine aw_lstore_n (pc := 177) C (x := x19) (lv' := [(1, .long x19), (0, .ref (ad 0)), (3, .int v3), (4, .int v4)]) dX3_digest_177 rfl (by decide) ex19 rfl ?_
      refine aw_iinc (pc := 178) C (v := (v4 + 1)) (lv' := [(4, .int (v4 + 1)), (1, .long x19), (0, .ref (ad 0)), (3, .int v3)]) dX3_digest_178 3 rfl (by decide) rfl rfl ?_
      refine aw_goto (pc := 181) C 156 dX3_digest_181 rfl ?_
      refine aw_sub [2, 1, 3, 0] rfl ?_
      exact hk156 x19 v3 (v4 + 1) μ18 h
theorem ok_X3_digest_l156_w {l : Launch} {p : Program} {e : Env} {s : State} {m : MethodId} {args : Array Value} {below : List Frame} {meth : Method} {c : Code} {D : va_G} {cI cL : ClassId} {ad : Nat → Nat} (C : CX p l s m args meth c RX3 cX3_digest 5 (some .long) D cI cL (AA ad s.heap.size)) (hex : ∀ x ∈ c.exceptionTable.toList, False) {r : ((String ⊕ Int64) × Mm)} {k142 : Int64 → Int32 → Mm → Option ((String ⊕ Int64) × Mm)} (hk142 : ∀ (v1 : Int64) (v3 : Int32) (μ : Mm), k142 v1 v3 μ = some r → AV l p e s m args below meth c D cI cL ad 8 5 (rsL r.1) r.2 142 [(0, .ref (ad 0)), (1, .long v1), (3, .int v3)] [] μ) : ∀ (n : Nat) (v1 : Int64) (v3 : Int32) (v4 : Int32) (μ : Mm) , itr (X3_digest_l156 k142) (fun _ _ _ _ => none) n v1 v3 v4 μ = some r → AV l p e s m args below meth c D cI cL ad 8 5 (rsL r.1) r.2 156 [(0, .ref (ad 0)), (1, .long v1), (3, .int v3), (4, .int v4)] [] μ := by
  intro n
  induction n with
  | zero => intro v1 v3 v4 μ h; exact nomatch (show (none : Option ((String ⊕ Int64) × Mm)) = some r from h)
  | succ n ih => intro v1 v3 v4 μ h; exact ok_X3_digest_l156 C hex  hk142 ih h
theorem ok_X3_digest_l142 {l : Launch} {p : Program} {e : Env} {s : State} {m : MethodId} {args : Array Value} {below : List Frame} {meth : Method} {c : Code} {D : va_G} {cI cL : ClassId} {ad : Nat → Nat} (C : CX p l s m args meth c RX3 cX3_digest 5 (some .long) D cI cL (AA ad s.heap.size)) (hex : ∀ x ∈ c.exceptionTable.toList, False) {r : ((String ⊕ Int64) × Mm)} {k142 : Int64 → Int32 → Mm → Option ((String ⊕ Int64) × Mm)} (hk142 : ∀ (v1 : Int64) (v3 : Int32) (μ : Mm), k142 v1 v3 μ = some r → AV l p e s m args below meth c D cI cL ad 8 5 (rsL r.1) r.2 142 [(0, .ref (ad 0)), (1, .long v1), (3, .int v3)] [] μ) {v1 : Int64} {v3 : Int32} {μ : Mm}  (h : X3_digest_l142 k142 v1 v3 μ = some r) : AV l p e s m args below meth c D cI cL ad 8 5 (rsL r.1) r.2 142 [(0, .ref (ad 0)), (1, .long v1), (3, .int v3)] [] μ := by
  unfold X3_digest_l142 at h
  refine aw_iload_n (pc := 142) C dX3_digest_142 rfl 2 rfl ?_
  refine aw_aload_n (pc := 143) C dX3_digest_143 rfl 0 rfl ?_
  refine aw_getNow (pc := 144) C q161 dX3_digest_144 (fun hF3 => ?_)
  refine aw_getN (pc := 147) C (a := (mNow μ)) (k := 6) (v := .int (μ.1 (mNow μ) 6)) inX0 (kdF hF3) rfl (by decide) q94 dX3_digest_147 rfl ?_
  refine aw_icmp_ge (pc := 150) C 190 dX3_digest_150 rfl (fun hc => ?_) (fun hc => ?_)
  · replace h := ite_T h hc
    refine aw_iconst (pc := 190) C (v := 0) dX3_digest_190 rfl ?_
    refine aw_istore_n (pc := 191) C (x := 0) (lv' := [(3, .int 0), (0, .ref (ad 0)), (1, .long v1)]) dX3_digest_191 rfl (by decide) rfl rfl ?_
    refine aw_sub [1, 2, 0] rfl ?_
    exact ok_X3_digest_l192_w C hex big v1 0 μ h
  · replace h := ite_F h hc
    refine aw_iconst (pc := 153) C (v := 0) dX3_digest_153 rfl ?_
    refine aw_istore (pc := 154) C (x := 0) (lv' := [(4, .int 0), (0, .ref (ad 0)), (1, .long v1), (3, .int v3)]) dX3_digest_154 (by decide) rfl rfl ?_
    refine aw_sub [1, 2, 3, 0] rfl ?_
    exact ok_X3_digest_l156_w C hex hk142 big v1 v3 0 μ h
theorem ok_X3_digest_l142_w {l : Launch} {p : Program} {e : Env} {s : State} {m : MethodId} {args : Array Value} {below : List Frame} {meth : Method} {c : Code} {D : va_G} {cI cL : ClassId} {ad : Nat → Nat} (C : CX p l s m args meth c RX3 cX3_digest 5 (some .long) D cI cL (AA ad s.heap.size)) (hex : ∀ x ∈ c.exceptionTable.toList, False) {r : ((String ⊕ Int64) × Mm)}  : ∀ (n : Nat) (v1 : Int64) (v3 : Int32) (μ : Mm) , itr (X3_digest_l142) (fun _ _ _ => none) n v1 v3 μ = some r → AV l p e s m args below meth c D cI cL ad 8 5 (rsL r.1) r.2 142 [(0, .ref (ad 0)), (1, .long v1), (3, .int v3)] [] μ := by
  intro n
  induction n with
  | zero => intro v1 v3 μ h; exact nomatch (show (none : Option ((String ⊕ Int64) × Mm)) = some r from h)
  | succ n ih => intro v1 v3 μ h; exact ok_X3_digest_l142 C hex  ih h
theorem ok_X3_digest_l107 {l : Launch} {p : Program} {e : Env} {s : State} {m : MethodId} {args : Array Value} {below : List Frame} {meth : Method} {c : Code} {D : va_G} {cI cL : ClassId} {ad : Nat → Nat} (C : CX p l s m args meth c RX3 cX3_digest 5 (some .long) D cI cL (AA ad s.heap.size)) (hex : ∀ x ∈ c.exceptionTable.toList, False) {r : ((String ⊕ Int64) × Mm)} {k93 : Int64 → Int32 → Mm → Option ((String ⊕ Int64) × Mm)} {k107 : Int64 → Int32 → Int32 → Mm → Option ((String ⊕ Int64) × Mm)} (hk93 : ∀ (v1 : Int64) (v3 : Int32) (μ : Mm), k93 v1 v3 μ = some r → AV l p e s m args below meth c D cI cL ad 8 5 (rsL r.1) r.2 93 [(0, .ref (ad 0)), (1, .long v1), (3, .int v3)] [] μ) (hk107 : ∀ (v1 : Int64) (v3 : Int32) (v4 : Int32) (μ : Mm), k107 v1 v3 v4 μ = some r → AV l p e s m args below meth c D cI cL ad 8 5 (rsL r.1) r.2 107 [(0, .ref (ad 0)), (1, .long v1), (3, .int v3), (4, .int v4)] [] μ) {v1 : Int64} {v3 : Int32} {v4 : Int32} {μ : Mm}  (h : X3_digest_l107 k93 k107 v1 v3 v4 μ = some r) : AV l p e s m args below meth c D cI cL ad 8 5 (rsL r.1) r.2 107 [(0, .ref (ad 0)), (1, .long v1), (3, .int v3), (4, .int v4)] [] μ := by
  unfold X3_digest_l107 at h
  refine aw_iload (pc := 107) C dX3_digest_107 3 rfl ?_
  refine aw_iconst (pc := 109) C (v := 5) dX3_digest_109 rfl ?_
  refine aw_icmp_gt (pc := 110) C 134 dX3_digest_110 rfl (fun hc => ?_) (fun hc => ?_)
  · replace h := ite_T h hc
    refine aw_iinc (pc := 134) C (v := (v3 + 1)) (lv' := [(3, .int (v3 + 1)), (0, .ref (ad 0)), (1, .long v1), (4, .int v4)]) dX3_digest_134 2 rfl (by decide) rfl rfl ?_
    refine aw_goto (pc := 137) C 93 dX3_digest_137 rfl ?_
    refine aw_sub [1, 2, 0] rfl ?_
    exact hk93 v1 (v3 + 1) μ h
  · replace h := ite_F h hc
    refine aw_ldc2_w (pc := 113) C dX3_digest_113 q264 ?_
    refine aw_lload_n (pc := 116) C dX3_digest_116 rfl 1 rfl ?_
    refine aw_lmul (pc := 117) C dX3_digest_117 ?_
    refine aw_aload_n (pc := 118) C dX3_digest_118 rfl 0 rfl ?_
    refine aw_iload_n (pc := 119) C dX3_digest_119 rfl 2 rfl ?_
    refine aw_iload (pc := 120) C dX3_digest_120 3 rfl ?_
    obtain ⟨y23, hq20, h⟩ := bi_some h
    rcases y23 with E22 | q21
    · rw [thr_l] at h
      cases h
      exact aw_callVT (pc := 122) (a := 0) (Bs := [.int v3, .int v4]) (rest := [.long (31 * v1)]) C hex (ok_X3_declaration C.tr (r := .inl E22) hq20) kv_X3_declaration q416 rfl rfl rfl rfl (Nat.le_of_ble_eq_true rfl) dX3_digest_122 ⟨(show 8 ≤ 8 by decide), (show 239 ≤ 248 by decide)⟩ ⟨Nat.le_refl _, Nat.le_refl _⟩ rfl
    · rw [thr_r] at h
      refine aw_Vi (pc := 122) (a := 0) (Bs := [.int v3, .int v4]) C (ok_X3_declaration C.tr (r := .inr q21) hq20) kv_X3_declaration q416 rfl rfl rfl rfl dX3_digest_122 ⟨(show 8 ≤ 8 by decide), (show 239 ≤ 248 by decide)⟩ ⟨Nat.zero_le _, Nat.zero_le _⟩ [.long (31 * v1)] (Nat.le_of_ble_eq_true rfl) rfl ?_
      refine aw_i2l (pc := 125) C dX3_digest_125 ?_
      refine aw_ladd (pc := 126) C dX3_digest_126 ?_
      obtain ⟨x24, ex24, h⟩ := bd_some h
      refine aw_lstore_n (pc := 127) C (x := x24) (lv' := [(1, .long x24), (0, .ref (ad 0)), (3, .int v3), (4, .int v4)]) dX3_digest_127 rfl (by decide) ex24 rfl ?_
      refine aw_iinc (pc := 128) C (v := (v4 + 1)) (lv' := [(4, .int (v4 + 1)), (1, .long x24), (0, .ref (ad 0)), (3, .int v3)]) dX3_digest_128 3 rfl (by decide) rfl rfl ?_
      refine aw_goto (pc := 131) C 107 dX3_digest_131 rfl ?_
      refine aw_sub [2, 1, 3, 0] rfl ?_
      exact hk107 x24 v3 (v4 + 1) μ h
theorem ok_X3_digest_l107_w {l : Launch} {p : Program} {e : Env} {s : State} {m : MethodId} {args : Array Value} {below : List Frame} {meth : Method} {c : Code} {D : va_G} {cI cL : ClassId} {ad : Nat → Nat} (C : CX p l s m args meth c RX3 cX3_digest 5 (some .long) D cI cL (AA ad s.heap.size)) (hex : ∀ x ∈ c.exceptionTable.toList, False) {r : ((String ⊕ Int64) × Mm)} {k93 : Int64 → Int32 → Mm → Option ((String ⊕ Int64) × Mm)} (hk93 : ∀ (v1 : Int64) (v3 : Int32) (μ : Mm), k93 v1 v3 μ = some r → AV l p e s m args below meth c D cI cL ad 8 5 (rsL r.1) r.2 93 [(0, .ref (ad 0)), (1, .long v1), (3, .int v3)] [] μ) : ∀ (n : Nat) (v1 : Int64) (v3 : Int32) (v4 : Int32) (μ : Mm) , itr (X3_digest_l107 k93) (fun _ _ _ _ => none) n v1 v3 v4 μ = some r → AV l p e s m args below meth c D cI cL ad 8 5 (rsL r.1) r.2 107 [(0, .ref (ad 0)), (1, .long v1), (3, .int v3), (4, .int v4)] [] μ := by
  intro n
  induction n with
  | zero => intro v1 v3 v4 μ h; exact nomatch (show (none : Option ((String ⊕ Int64) × Mm)) = some r from h)
  | succ n ih => intro v1 v3 v4 μ h; exact ok_X3_digest_l107 C hex  hk93 ih h
theorem ok_X3_digest_l93 {l : Launch} {p : Program} {e : Env} {s : State} {m : MethodId} {args : Array Value} {below : List Frame} {meth : Method} {c : Code} {D : va_G} {cI cL : ClassId} {ad : Nat → Nat} (C : CX p l s m args meth c RX3 cX3_digest 5 (some .long) D cI cL (AA ad s.heap.size)) (hex : ∀ x ∈ c.exceptionTable.toList, False) {r : ((String ⊕ Int64) × Mm)} {k93 : Int64 → Int32 → Mm → Option ((String ⊕ Int64) × Mm)} (hk93 : ∀ (v1 : Int64) (v3 : Int32) (μ : Mm), k93 v1 v3 μ = some r → AV l p e s m args below meth c D cI cL ad 8 5 (rsL r.1) r.2 93 [(0, .ref (ad 0)), (1, .long v1), (3, .int v3)] [] μ) {v1 : Int64} {v3 : Int32} {μ : Mm}  (h : X3_digest_l93 k93 v1 v3 μ = some r) : AV l p e s m args below meth c D cI cL ad 8 5 (rsL r.1) r.2 93 [(0, .ref (ad 0)), (1, .long v1), (3, .int v3)] [] μ := by
  unfold X3_digest_l93 at h
  refine aw_iload_n (pc := 93) C dX3_digest_93 rfl 2 rfl ?_
  refine aw_aload_n (pc := 94) C dX3_digest_94 rfl 0 rfl ?_
  refine aw_getNow (pc := 95) C q161 dX3_digest_95 (fun hF2 => ?_)
  refine aw_getN (pc := 98) C (a := (mNow μ)) (k := 2) (v := .int (μ.1 (mNow μ) 2)) inX0 (kdF hF2) rfl (by decide) q82 dX3_digest_98 rfl ?_
  refine aw_icmp_ge (pc := 101) C 140 dX3_digest_101 rfl (fun hc => ?_) (fun hc => ?_)
  · replace h := ite_T h hc
    refine aw_iconst (pc := 140) C (v := 0) dX3_digest_140 rfl ?_
    refine aw_istore_n (pc := 141) C (x := 0) (lv' := [(3, .int 0), (0, .ref (ad 0)), (1, .long v1)]) dX3_digest_141 rfl (by decide) rfl rfl ?_
    refine aw_sub [1, 2, 0] rfl ?_
    exact ok_X3_digest_l142_w C hex big v1 0 μ h
  · replace h := ite_F h hc
    refine aw_iconst (pc := 104) C (v := 0) dX3_digest_104 rfl ?_
    refine aw_istore (pc := 105) C (x := 0) (lv' := [(4, .int 0), (0, .ref (ad 0)), (1, .long v1), (3, .int v3)]) dX3_digest_105 (by decide) rfl rfl ?_
    refine aw_sub [1, 2, 3, 0] rfl ?_
    exact ok_X3_digest_l107_w C hex hk93 big v1 v3 0 μ h
theorem ok_X3_digest_l93_w {l : Launch} {p : Program} {e : Env} {s : State} {m : MethodId} {args : Array Value} {below : List Frame} {meth : Method} {c : Code} {D : va_G} {cI cL : ClassId} {ad : Nat → Nat} (C : CX p l s m args meth c RX3 cX3_digest 5 (some .long) D cI cL (AA ad s.heap.size)) (hex : ∀ x ∈ c.exceptionTable.toList, False) {r : ((String ⊕ Int64) × Mm)}  : ∀ (n : Nat) (v1 : Int64) (v3 : Int32) (μ : Mm) , itr (X3_digest_l93) (fun _ _ _ => none) n v1 v3 μ = some r → AV l p e s m args below meth c D cI cL ad 8 5 (rsL r.1) r.2 93 [(0, .ref (ad 0)), (1, .long v1), (3, .int v3)] [] μ := by
  intro n
  induction n with
  | zero => intro v1 v3 μ h; exact nomatch (show (none : Option ((String ⊕ Int64) × Mm)) = some r from h)
  | succ n ih => intro v1 v3 μ h; exact ok_X3_digest_l93 C hex  ih h
theorem ok_X3_digest_l33 {l : Launch} {p : Program} {e : Env} {s : State} {m : MethodId} {args : Array Value} {below : List Frame} {meth : Method} {c : Code} {D : va_G} {cI cL : ClassId} {ad : Nat → Nat} (C : CX p l s m args meth c RX3 cX3_digest 5 (some .long) D cI cL (AA ad s.heap.size)) (hex : ∀ x ∈ c.exceptionTable.toList, False) {r : ((String ⊕ Int64) × Mm)} {k33 : Int64 → Int32 → Mm → Option ((String ⊕ Int64) × Mm)} (hk33 : ∀ (v1 : Int64) (v3 : Int32) (μ : Mm), k33 v1 v3 μ = some r → AV l p e s m args below meth c D cI cL ad 8 5 (rsL r.1) r.2 33 [(0, .ref (ad 0)), (1, .long v1), (3, .int v3)] [] μ) {v1 : Int64} {v3 : Int32} {μ : Mm}  (h : X3_digest_l33 k33 v1 v3 μ = some r) : AV l p e s m args below meth c D cI cL ad 8 5 (rsL r.1) r.2 33 [(0, .ref (ad 0)), (1, .long v1), (3, .int v3)] [] μ := by
  unfold X3_digest_l33 at h
  refine aw_iload_n (pc := 33) C dX3_digest_33 rfl 2 rfl ?_
  refine aw_aload_n (pc := 34) C dX3_digest_34 rfl 0 rfl ?_
  refine aw_getNow (pc := 35) C q161 dX3_digest_35 (fun hF1 => ?_)
  refine aw_getN (pc := 38) C (a := (mNow μ)) (k := 0) (v := .int (μ.1 (mNow μ) 0)) inX0 (kdF hF1) rfl (by decide) q77 dX3_digest_38 rfl ?_
  refine aw_icmp_ge (pc := 41) C 91 dX3_digest_41 rfl (fun hc => ?_) (fun hc => ?_)
  · replace h := ite_T h hc
    refine aw_iconst (pc := 91) C (v := 0) dX3_digest_91 rfl ?_
    refine aw_istore_n (pc := 92) C (x := 0) (lv' := [(3, .int 0), (0, .ref (ad 0)), (1, .long v1)]) dX3_digest_92 rfl (by decide) rfl rfl ?_
    refine aw_sub [1, 2, 0] rfl ?_
    exact ok_X3_digest_l93_w C hex big v1 0 μ h
  · replace h := ite_F h hc
    refine aw_ldc2_w (pc := 44) C dX3_digest_44 q264 ?_
    refine aw_lload_n (pc := 47) C dX3_digest_47 rfl 1 rfl ?_
    refine aw_lmul (pc := 48) C dX3_digest_48 ?_
    refine aw_aload_n (pc := 49) C dX3_digest_49 rfl 0 rfl ?_
    refine aw_iload_n (pc := 50) C dX3_digest_50 rfl 2 rfl ?_
    obtain ⟨y28, hq25, h⟩ := bi_some h
    rcases y28 with E27 | q26
    · rw [thr_l] at h
      cases h
      exact aw_callVT (pc := 51) (a := 0) (Bs := [.int v3]) (rest := [.long (31 * v1)]) C hex (ok_X3_parent C.tr (r := .inl E27) hq25) kv_X3_parent q387 rfl rfl rfl rfl (Nat.le_of_ble_eq_true rfl) dX3_digest_51 ⟨(show 8 ≤ 8 by decide), (show 238 ≤ 248 by decide)⟩ ⟨Nat.le_refl _, Nat.le_refl _⟩ rfl
    · rw [thr_r] at h
      refine aw_Vi (pc := 51) (a := 0) (Bs := [.int v3]) C (ok_X3_parent C.tr (r := .inr q26) hq25) kv_X3_parent q387 rfl rfl rfl rfl dX3_digest_51 ⟨(show 8 ≤ 8 by decide), (show 238 ≤ 248 by decide)⟩ ⟨Nat.zero_le _, Nat.zero_le _⟩ [.long (31 * v1)] (Nat.le_of_ble_eq_true rfl) rfl ?_
      refine aw_i2l (pc := 54) C dX3_digest_54 ?_
      refine aw_ladd (pc := 55) C dX3_digest_55 ?_
      obtain ⟨x29, ex29, h⟩ := bd_some h
      refine aw_lstore_n (pc := 56) C (x := x29) (lv' := [(1, .long x29), (0, .ref (ad 0)), (3, .int v3)]) dX3_digest_56 rfl (by decide) ex29 rfl ?_
      refine aw_ldc2_w (pc := 57) C dX3_digest_57 q264 ?_
      refine aw_lload_n (pc := 60) C dX3_digest_60 rfl 0 rfl ?_
      refine aw_lmul (pc := 61) C dX3_digest_61 ?_
      refine aw_aload_n (pc := 62) C dX3_digest_62 rfl 1 rfl ?_
      refine aw_iload_n (pc := 63) C dX3_digest_63 rfl 2 rfl ?_
      refine aw_iconst (pc := 64) C (v := 0) dX3_digest_64 rfl ?_
      obtain ⟨y33, hq30, h⟩ := bi_some h
      rcases y33 with E32 | q31
      · rw [thr_l] at h
        cases h
        exact aw_callVT (pc := 65) (a := 0) (Bs := [.int v3, .int 0]) (rest := [.long (31 * x29)]) C hex (ok_X3_visible C.tr (r := .inl E32) hq30) kv_X3_visible q410 rfl rfl rfl rfl (Nat.le_of_ble_eq_true rfl) dX3_digest_65 ⟨(show 8 ≤ 8 by decide), (show 242 ≤ 248 by decide)⟩ ⟨Nat.le_refl _, Nat.le_refl _⟩ rfl
      · rw [thr_r] at h
        refine aw_Vi (pc := 65) (a := 0) (Bs := [.int v3, .int 0]) C (ok_X3_visible C.tr (r := .inr q31) hq30) kv_X3_visible q410 rfl rfl rfl rfl dX3_digest_65 ⟨(show 8 ≤ 8 by decide), (show 242 ≤ 248 by decide)⟩ ⟨Nat.zero_le _, Nat.zero_le _⟩ [.long (31 * x29)] (Nat.le_of_ble_eq_true rfl) rfl ?_
        refine aw_i2l (pc := 68) C dX3_digest_68 ?_
        refine aw_ladd (pc := 69) C dX3_digest_69 ?_
        obtain ⟨x34, ex34, h⟩ := bd_some h
        refine aw_lstore_n (pc := 70) C (x := x34) (lv' := [(1, .long x34), (0, .ref (ad 0)), (3, .int v3)]) dX3_digest_70 rfl (by decide) ex34 rfl ?_
        refine aw_ldc2_w (pc := 71) C dX3_digest_71 q264 ?_
        refine aw_lload_n (pc := 74) C dX3_digest_74 rfl 0 rfl ?_
        refine aw_lmul (pc := 75) C dX3_digest_75 ?_
        refine aw_aload_n (pc := 76) C dX3_digest_76 rfl 1 rfl ?_
        refine aw_iload_n (pc := 77) C dX3_digest_77 rfl 2 rfl ?_
        refine aw_iconst (pc := 78) C (v := 1) dX3_digest_78 rfl ?_
        obtain ⟨y38, hq35, h⟩ := bi_some h
        rcases y38 with E37 | q36
        · rw [thr_l] at h
          cases h
          exact aw_callVT (pc := 79) (a := 0) (Bs := [.int v3, .int 1]) (rest := [.long (31 * x34)]) C hex (ok_X3_visible C.tr (r := .inl E37) hq35) kv_X3_visible q410 rfl rfl rfl rfl (Nat.le_of_ble_eq_true rfl) dX3_digest_79 ⟨(show 8 ≤ 8 by decide), (show 242 ≤ 248 by decide)⟩ ⟨Nat.le_refl _, Nat.le_refl _⟩ rfl
        · rw [thr_r] at h
          refine aw_Vi (pc := 79) (a := 0) (Bs := [.int v3, .int 1]) C (ok_X3_visible C.tr (r := .inr q36) hq35) kv_X3_visible q410 rfl rfl rfl rfl dX3_digest_79 ⟨(show 8 ≤ 8 by decide), (show 242 ≤ 248 by decide)⟩ ⟨Nat.zero_le _, Nat.zero_le _⟩ [.long (31 * x34)] (Nat.le_of_ble_eq_true rfl) rfl ?_
          refine aw_i2l (pc := 82) C dX3_digest_82 ?_
          refine aw_ladd (pc := 83) C dX3_digest_83 ?_
          obtain ⟨x39, ex39, h⟩ := bd_some h
          refine aw_lstore_n (pc := 84) C (x := x39) (lv' := [(1, .long x39), (0, .ref (ad 0)), (3, .int v3)]) dX3_digest_84 rfl (by decide) ex39 rfl ?_
          refine aw_iinc (pc := 85) C (v := (v3 + 1)) (lv' := [(3, .int (v3 + 1)), (1, .long x39), (0, .ref (ad 0))]) dX3_digest_85 2 rfl (by decide) rfl rfl ?_
          refine aw_goto (pc := 88) C 33 dX3_digest_88 rfl ?_
          refine aw_sub [2, 1, 0] rfl ?_
          exact hk33 x39 (v3 + 1) μ h
theorem ok_X3_digest_l33_w {l : Launch} {p : Program} {e : Env} {s : State} {m : MethodId} {args : Array Value} {below : List Frame} {meth : Method} {c : Code} {D : va_G} {cI cL : ClassId} {ad : Nat → Nat} (C : CX p l s m args meth c RX3 cX3_digest 5 (some .long) D cI cL (AA ad s.heap.size)) (hex : ∀ x ∈ c.exceptionTable.toList, False) {r : ((String ⊕ Int64) × Mm)}  : ∀ (n : Nat) (v1 : Int64) (v3 : Int32) (μ : Mm) , itr (X3_digest_l33) (fun _ _ _ => none) n v1 v3 μ = some r → AV l p e s m args below meth c D cI cL ad 8 5 (rsL r.1) r.2 33 [(0, .ref (ad 0)), (1, .long v1), (3, .int v3)] [] μ := by
  intro n
  induction n with
  | zero => intro v1 v3 μ h; exact nomatch (show (none : Option ((String ⊕ Int64) × Mm)) = some r from h)
  | succ n ih => intro v1 v3 μ h; exact ok_X3_digest_l33 C hex  ih h
theorem ok_X3_digest_l6 {l : Launch} {p : Program} {e : Env} {s : State} {m : MethodId} {args : Array Value} {below : List Frame} {meth : Method} {c : Code} {D : va_G} {cI cL : ClassId} {ad : Nat → Nat} (C : CX p l s m args meth c RX3 cX3_digest 5 (some .long) D cI cL (AA ad s.heap.size)) (hex : ∀ x ∈ c.exceptionTable.toList, False) {r : ((String ⊕ Int64) × Mm)} {k6 : Int64 → Int32 → Mm → Option ((String ⊕ Int64) × Mm)} (hk6 : ∀ (v1 : Int64) (v3 : Int32) (μ : Mm), k6 v1 v3 μ = some r → AV l p e s m args below meth c D cI cL ad 8 5 (rsL r.1) r.2 6 [(0, .ref (ad 0)), (1, .long v1), (3, .int v3)] [] μ) {v1 : Int64} {v3 : Int32} {μ : Mm}  (h : X3_digest_l6 k6 v1 v3 μ = some r) : AV l p e s m args below meth c D cI cL ad 8 5 (rsL r.1) r.2 6 [(0, .ref (ad 0)), (1, .long v1), (3, .int v3)] [] μ := by
  unfold X3_digest_l6 at h
  refine aw_iload_n (pc := 6) C dX3_digest_6 rfl 2 rfl ?_
  refine aw_bipush (pc := 7) C (v := 10) dX3_digest_7 rfl ?_
  refine aw_icmp_gt (pc := 9) C 31 dX3_digest_9 rfl (fun hc => ?_) (fun hc => ?_)
  · replace h := ite_T h hc
    refine aw_iconst (pc := 31) C (v := 0) dX3_digest_31 rfl ?_
    refine aw_istore_n (pc := 32) C (x := 0) (lv' := [(3, .int 0), (0, .ref (ad 0)), (1, .long v1)]) dX3_digest_32 rfl (by decide) rfl rfl ?_
    refine aw_sub [1, 2, 0] rfl ?_
    exact ok_X3_digest_l33_w C hex big v1 0 μ h
  · replace h := ite_F h hc
    refine aw_ldc2_w (pc := 12) C dX3_digest_12 q264 ?_
    refine aw_lload_n (pc := 15) C dX3_digest_15 rfl 1 rfl ?_
    refine aw_lmul (pc := 16) C dX3_digest_16 ?_
    refine aw_aload_n (pc := 17) C dX3_digest_17 rfl 0 rfl ?_
    refine aw_iload_n (pc := 18) C dX3_digest_18 rfl 2 rfl ?_
    obtain ⟨y43, μ44, hq40, h⟩ := bn_some h
    rcases y43 with E42 | q41
    · rw [thr_l] at h
      cases h
      exact aw_callVT (pc := 19) (a := 0) (Bs := [.int v3]) (rest := [.long (31 * v1)]) C hex (ok_X3_count C.tr (r := (.inl E42, μ44)) hq40) kv_X3_count q265 rfl rfl rfl rfl (Nat.le_of_ble_eq_true rfl) dX3_digest_19 ⟨(show 8 ≤ 8 by decide), (show 238 ≤ 248 by decide)⟩ ⟨Nat.le_refl _, Nat.le_refl _⟩ rfl
    · rw [thr_r] at h
      refine aw_Vi (pc := 19) (a := 0) (Bs := [.int v3]) C (ok_X3_count C.tr (r := (.inr q41, μ44)) hq40) kv_X3_count q265 rfl rfl rfl rfl dX3_digest_19 ⟨(show 8 ≤ 8 by decide), (show 238 ≤ 248 by decide)⟩ ⟨Nat.zero_le _, Nat.zero_le _⟩ [.long (31 * v1)] (Nat.le_of_ble_eq_true rfl) rfl ?_
      refine aw_i2l (pc := 22) C dX3_digest_22 ?_
      refine aw_ladd (pc := 23) C dX3_digest_23 ?_
      obtain ⟨x45, ex45, h⟩ := bd_some h
      refine aw_lstore_n (pc := 24) C (x := x45) (lv' := [(1, .long x45), (0, .ref (ad 0)), (3, .int v3)]) dX3_digest_24 rfl (by decide) ex45 rfl ?_
      refine aw_iinc (pc := 25) C (v := (v3 + 1)) (lv' := [(3, .int (v3 + 1)), (1, .long x45), (0, .ref (ad 0))]) dX3_digest_25 2 rfl (by decide) rfl rfl ?_
      refine aw_goto (pc := 28) C 6 dX3_digest_28 rfl ?_
      refine aw_sub [2, 1, 0] rfl ?_
      exact hk6 x45 (v3 + 1) μ44 h
theorem ok_X3_digest_l6_w {l : Launch} {p : Program} {e : Env} {s : State} {m : MethodId} {args : Array Value} {below : List Frame} {meth : Method} {c : Code} {D : va_G} {cI cL : ClassId} {ad : Nat → Nat} (C : CX p l s m args meth c RX3 cX3_digest 5 (some .long) D cI cL (AA ad s.heap.size)) (hex : ∀ x ∈ c.exceptionTable.toList, False) {r : ((String ⊕ Int64) × Mm)}  : ∀ (n : Nat) (v1 : Int64) (v3 : Int32) (μ : Mm) , itr (X3_digest_l6) (fun _ _ _ => none) n v1 v3 μ = some r → AV l p e s m args below meth c D cI cL ad 8 5 (rsL r.1) r.2 6 [(0, .ref (ad 0)), (1, .long v1), (3, .int v3)] [] μ := by
  intro n
  induction n with
  | zero => intro v1 v3 μ h; exact nomatch (show (none : Option ((String ⊕ Int64) × Mm)) = some r from h)
  | succ n ih => intro v1 v3 μ h; exact ok_X3_digest_l6 C hex  ih h
theorem ok_X3_digest {l : Launch} (htr : l.stackTraces = false) {μ : Mm} {r : ((String ⊕ Int64) × Mm)}  (h : X3_digest μ = some r) : MetX l yX3_digest cX3_digest 5 (some .long) 8 (fun ad => [.ref (ad 0)]) μ (rsL r.1) r.2 := by
  refine MetX.of htr (by decide) rfl (fun ad => Nat.le_of_ble_eq_true rfl) (fun p e s m args below meth c D cI cL ad C hex hw => ?_)
  show AV l p e s m args below meth c D cI cL ad 8 5 (rsL r.1) r.2 0 [(0, .ref (ad 0))] [] μ
  unfold X3_digest at h
  refine aw_ldc2_w (pc := 0) C dX3_digest_0 q263 ?_
  refine aw_lstore_n (pc := 3) C (x := 1997) (lv' := [(1, .long 1997), (0, .ref (ad 0))]) dX3_digest_3 rfl (by decide) rfl rfl ?_
  refine aw_iconst (pc := 4) C (v := 0) dX3_digest_4 rfl ?_
  refine aw_istore_n (pc := 5) C (x := 0) (lv' := [(3, .int 0), (1, .long 1997), (0, .ref (ad 0))]) dX3_digest_5 rfl (by decide) rfl rfl ?_
  refine aw_sub [2, 1, 0] rfl ?_
  exact ok_X3_digest_l6_w C hex big 1997 0 μ h
/-! ### NameScopes.exchange()V -/
theorem ok_X3_exchange {l : Launch} (htr : l.stackTraces = false) {μ : Mm} {r : Mm}  (h : X3_exchange μ = some r) : MetX l yX3_exchange cX3_exchange 2 none 0 (fun ad => [.ref (ad 0)]) μ (.inr none) r := by
  refine MetX.of htr (by decide) rfl (fun ad => Nat.le_of_ble_eq_true rfl) (fun p e s m args below meth c D cI cL ad C hex hw => ?_)
  show AV l p e s m args below meth c D cI cL ad 0 2 (.inr none) r 0 [(0, .ref (ad 0))] [] μ
  unfold X3_exchange at h
  refine aw_aload_n (pc := 0) C dX3_exchange_0 rfl 0 rfl ?_
  refine aw_getNow (pc := 1) C q161 dX3_exchange_1 (fun hF1 => ?_)
  refine aw_astore_n (pc := 4) C (x := (ad (mNow μ))) (lv' := [(1, .ref (ad (mNow μ))), (0, .ref (ad 0))]) dX3_exchange_4 rfl (by decide) rfl rfl ?_
  refine aw_aload_n (pc := 5) C dX3_exchange_5 rfl 1 rfl ?_
  refine aw_aload_n (pc := 6) C dX3_exchange_6 rfl 1 rfl ?_
  refine aw_getOth (pc := 7) C q162 dX3_exchange_7 (fun hF2 => ?_)
  obtain ⟨μ3, eμ3, h⟩ := bd_some h
  refine aw_putNow (pc := 10) C q161 hF2 dX3_exchange_10 eμ3 ?_
  refine aw_aload_n (pc := 13) C dX3_exchange_13 rfl 1 rfl ?_
  refine aw_aload_n (pc := 14) C dX3_exchange_14 rfl 0 rfl ?_
  obtain ⟨μ4, eμ4, h⟩ := bd_some h
  refine aw_putOth (pc := 15) C q162 hF1 dX3_exchange_15 eμ4 ?_
  cases h
  exact aw_vret (pc := 18) C dX3_exchange_18
/-! ### NameScopes.firstChanged(IZ)I -/
theorem ok_X3_firstChanged_l2 {l : Launch} {p : Program} {e : Env} {s : State} {m : MethodId} {args : Array Value} {below : List Frame} {meth : Method} {c : Code} {D : va_G} {cI cL : ClassId} {ad : Nat → Nat} (C : CX p l s m args meth c RX3 cX3_firstChanged 6 (some .int) D cI cL (AA ad s.heap.size)) (hex : ∀ x ∈ c.exceptionTable.toList, False) {r : Int32} {v1 : Int32} {v2 : Int32} {μ : Mm} {k2 : Int32 → Option Int32} (hk2 : ∀ (v3 : Int32), k2 v3 = some r → AV l p e s m args below meth c D cI cL ad 2 6 (.inr (some (.int r))) μ 2 [(0, .ref (ad 0)), (1, .int v1), (2, .int v2), (3, .int v3)] [] μ) {v3 : Int32}  (h : X3_firstChanged_l2 v1 v2 μ k2 v3 = some r) : AV l p e s m args below meth c D cI cL ad 2 6 (.inr (some (.int r))) μ 2 [(0, .ref (ad 0)), (1, .int v1), (2, .int v2), (3, .int v3)] [] μ := by
  unfold X3_firstChanged_l2 at h
  refine aw_iload_n (pc := 2) C dX3_firstChanged_2 rfl 3 rfl ?_
  refine aw_aload_n (pc := 3) C dX3_firstChanged_3 rfl 0 rfl ?_
  refine aw_getNow (pc := 4) C q161 dX3_firstChanged_4 (fun hF1 => ?_)
  refine aw_getN (pc := 7) C (a := (mNow μ)) (k := 13) (v := .int (μ.1 (mNow μ) 13)) inX0 (kdF hF1) rfl (by decide) q114 dX3_firstChanged_7 rfl ?_
  refine aw_icmp_ge (pc := 10) C 65 dX3_firstChanged_10 rfl (fun hc => ?_) (fun hc => ?_)
  · replace h := ite_T h hc
    refine aw_iconst (pc := 65) C (v := (-1)) dX3_firstChanged_65 rfl ?_
    cases h
    exact aw_iret (pc := 66) C dX3_firstChanged_66
  · replace h := ite_F h hc
    refine aw_aload_n (pc := 13) C dX3_firstChanged_13 rfl 0 rfl ?_
    refine aw_getNow (pc := 14) C q161 dX3_firstChanged_14 (fun hF2 => ?_)
    refine aw_iload_n (pc := 17) C dX3_firstChanged_17 rfl 3 rfl ?_
    obtain ⟨q4, hq3, h⟩ := bi_some h
    refine aw_Vi (pc := 18) (a := (mNow μ)) (Bs := [.int v3]) C (ok_X0_outcome C.tr hF2 hq3) kv_X0_outcome q370 (kdF hF2) rfl rfl rfl dX3_firstChanged_18 ⟨(show 2 ≤ 2 by decide), (show 52 ≤ 62 by decide)⟩ ⟨Nat.zero_le _, Nat.zero_le _⟩ [] (Nat.le_of_ble_eq_true rfl) rfl ?_
    refine aw_istore (pc := 21) C (x := q4) (lv' := [(4, .int q4), (0, .ref (ad 0)), (1, .int v1), (2, .int v2), (3, .int v3)]) dX3_firstChanged_21 (by decide) rfl rfl ?_
    refine aw_iload (pc := 23) C dX3_firstChanged_23 0 rfl ?_
    refine aw_iconst (pc := 25) C (v := 1) dX3_firstChanged_25 rfl ?_
    refine aw_iload_n (pc := 26) C dX3_firstChanged_26 rfl 2 rfl ?_
    refine aw_ishl (pc := 27) C dX3_firstChanged_27 ?_
    have kJ : AV l p e s m args below meth c D cI cL ad 2 6 (.inr (some (.int r))) μ 36 [(4, .int q4), (0, .ref (ad 0)), (1, .int v1), (2, .int v2), (3, .int v3)] [.int (if q4 = (1 <<< (v1 &&& 31)) then (1 : Int32) else 0)] μ := by
      obtain ⟨x5, ex5, h⟩ := bd_some h
      refine aw_istore (pc := 36) C (x := x5) (lv' := [(5, .int x5), (4, .int q4), (0, .ref (ad 0)), (1, .int v1), (2, .int v2), (3, .int v3)]) dX3_firstChanged_36 (by decide) ex5 rfl ?_
      refine aw_iload (pc := 38) C dX3_firstChanged_38 0 rfl ?_
      refine aw_iload_n (pc := 40) C dX3_firstChanged_40 rfl 4 rfl ?_
      refine aw_icmp_ne (pc := 41) C 59 dX3_firstChanged_41 rfl (fun hc => ?_) (fun hc => ?_)
      · replace h := ite_F h hc
        refine aw_iinc (pc := 59) C (v := (v3 + 1)) (lv' := [(3, .int (v3 + 1)), (5, .int x5), (4, .int q4), (0, .ref (ad 0)), (1, .int v1), (2, .int v2)]) dX3_firstChanged_59 5 rfl (by decide) rfl rfl ?_
        refine aw_goto (pc := 62) C 2 dX3_firstChanged_62 rfl ?_
        refine aw_sub [3, 4, 5, 0] rfl ?_
        exact hk2 (v3 + 1) h
      · replace h := ite_T h hc
        refine aw_iload (pc := 44) C dX3_firstChanged_44 1 rfl ?_
        refine aw_aload_n (pc := 46) C dX3_firstChanged_46 rfl 2 rfl ?_
        refine aw_getOth (pc := 47) C q162 dX3_firstChanged_47 (fun hF6 => ?_)
        refine aw_iload_n (pc := 50) C dX3_firstChanged_50 rfl 5 rfl ?_
        obtain ⟨q8, hq7, h⟩ := bi_some h
        refine aw_Vi (pc := 51) (a := (mOth μ)) (Bs := [.int v3]) C (ok_X0_outcome C.tr hF6 hq7) kv_X0_outcome q370 (kdF hF6) rfl rfl rfl dX3_firstChanged_51 ⟨(show 2 ≤ 2 by decide), (show 52 ≤ 62 by decide)⟩ ⟨Nat.zero_le _, Nat.zero_le _⟩ [.int q4] (Nat.le_of_ble_eq_true rfl) rfl ?_
        refine aw_icmp_eq (pc := 54) C 59 dX3_firstChanged_54 rfl (fun hc => ?_) (fun hc => ?_)
        · replace h := ite_T h hc
          refine aw_iinc (pc := 59) C (v := (v3 + 1)) (lv' := [(3, .int (v3 + 1)), (5, .int x5), (4, .int q4), (0, .ref (ad 0)), (1, .int v1), (2, .int v2)]) dX3_firstChanged_59 5 rfl (by decide) rfl rfl ?_
          refine aw_goto (pc := 62) C 2 dX3_firstChanged_62 rfl ?_
          refine aw_sub [3, 4, 5, 0] rfl ?_
          exact hk2 (v3 + 1) h
        · replace h := ite_F h hc
          refine aw_iload_n (pc := 57) C dX3_firstChanged_57 rfl 5 rfl ?_
          cases h
          exact aw_iret (pc := 58) C dX3_firstChanged_58
    refine aw_icmp_ne (pc := 28) C 35 dX3_firstChanged_28 rfl (fun hd1 => ?_) (fun hd1 => ?_)
    · refine aw_iconst (pc := 35) C (v := 0) dX3_firstChanged_35 rfl ?_
      rw [if_neg hd1] at kJ
      exact kJ
    · refine aw_iconst (pc := 31) C (v := 1) dX3_firstChanged_31 rfl ?_
      refine aw_goto (pc := 32) C 36 dX3_firstChanged_32 rfl ?_
      rw [if_pos hd1] at kJ
      exact kJ
theorem ok_X3_firstChanged_l2_w {l : Launch} {p : Program} {e : Env} {s : State} {m : MethodId} {args : Array Value} {below : List Frame} {meth : Method} {c : Code} {D : va_G} {cI cL : ClassId} {ad : Nat → Nat} (C : CX p l s m args meth c RX3 cX3_firstChanged 6 (some .int) D cI cL (AA ad s.heap.size)) (hex : ∀ x ∈ c.exceptionTable.toList, False) {r : Int32} {v1 : Int32} {v2 : Int32} {μ : Mm} : ∀ (n : Nat) (v3 : Int32) , itr (X3_firstChanged_l2 v1 v2 μ) (fun _ => none) n v3 = some r → AV l p e s m args below meth c D cI cL ad 2 6 (.inr (some (.int r))) μ 2 [(0, .ref (ad 0)), (1, .int v1), (2, .int v2), (3, .int v3)] [] μ := by
  intro n
  induction n with
  | zero => intro v3 h; exact nomatch (show (none : Option Int32) = some r from h)
  | succ n ih => intro v3 h; exact ok_X3_firstChanged_l2 C hex (v1 := v1) (v2 := v2) (μ := μ) ih h
theorem ok_X3_firstChanged {l : Launch} (htr : l.stackTraces = false) {v1 : Int32} {v2 : Int32} {μ : Mm} {r : Int32}  (h : X3_firstChanged v1 v2 μ = some r) : MetX l yX3_firstChanged cX3_firstChanged 6 (some .int) 2 (fun ad => [.ref (ad 0), .int v1, .int v2]) μ (.inr (some (.int r))) μ := by
  refine MetX.of htr (by decide) rfl (fun ad => Nat.le_of_ble_eq_true rfl) (fun p e s m args below meth c D cI cL ad C hex hw => ?_)
  show AV l p e s m args below meth c D cI cL ad 2 6 (.inr (some (.int r))) μ 0 [(0, .ref (ad 0)), (1, .int v1), (2, .int v2)] [] μ
  unfold X3_firstChanged at h
  refine aw_iconst (pc := 0) C (v := 0) dX3_firstChanged_0 rfl ?_
  refine aw_istore_n (pc := 1) C (x := 0) (lv' := [(3, .int 0), (0, .ref (ad 0)), (1, .int v1), (2, .int v2)]) dX3_firstChanged_1 rfl (by decide) rfl rfl ?_
  refine aw_sub [1, 2, 3, 0] rfl ?_
  exact ok_X3_firstChanged_l2_w C hex big 0 h
/-! ### NameScopes.firstError()I -/
theorem ok_X3_firstError {l : Launch} (htr : l.stackTraces = false) {μ : Mm} {r : Int32}  (h : X3_firstError μ = some r) : MetX l yX3_firstError cX3_firstError 1 (some .int) 3 (fun ad => [.ref (ad 0)]) μ (.inr (some (.int r))) μ := by
  refine MetX.of htr (by decide) rfl (fun ad => Nat.le_of_ble_eq_true rfl) (fun p e s m args below meth c D cI cL ad C hex hw => ?_)
  show AV l p e s m args below meth c D cI cL ad 3 1 (.inr (some (.int r))) μ 0 [(0, .ref (ad 0))] [] μ
  unfold X3_firstError at h
  refine aw_aload_n (pc := 0) C dX3_firstError_0 rfl 0 rfl ?_
  refine aw_get (pc := 1) C (a := 0) (k := 0) (v := .ref (ad 1)) inX3 rfl rfl (by decide) q160 dX3_firstError_1 rfl ?_
  obtain ⟨q2, hq1, h⟩ := bi_some h
  refine aw_Vi (pc := 4) (a := 1) (Bs := []) C (ok_X2_firstWrong C.tr hq1) kv_X2_firstWrong q215 rfl rfl rfl rfl dX3_firstError_4 ⟨(show 3 ≤ 3 by decide), (show 84 ≤ 93 by decide)⟩ ⟨Nat.zero_le _, Nat.zero_le _⟩ [] (Nat.le_of_ble_eq_true rfl) rfl ?_
  cases h
  exact aw_iret (pc := 7) C dX3_firstError_7
/-! ### NameScopes.reasonAgainst(II)I -/
theorem ok_X3_reasonAgainst {l : Launch} (htr : l.stackTraces = false) {v1 : Int32} {v2 : Int32} {μ : Mm} {r : (Int32 × Mm)}  (h : X3_reasonAgainst v1 v2 μ = some r) : MetX l yX3_reasonAgainst cX3_reasonAgainst 4 (some .int) 4 (fun ad => [.ref (ad 0), .int v1, .int v2]) μ (.inr (some (.int r.1))) r.2 := by
  refine MetX.of htr (by decide) rfl (fun ad => Nat.le_of_ble_eq_true rfl) (fun p e s m args below meth c D cI cL ad C hex hw => ?_)
  show AV l p e s m args below meth c D cI cL ad 4 4 (.inr (some (.int r.1))) r.2 0 [(0, .ref (ad 0)), (1, .int v1), (2, .int v2)] [] μ
  unfold X3_reasonAgainst at h
  refine aw_aload_n (pc := 0) C dX3_reasonAgainst_0 rfl 0 rfl ?_
  refine aw_getNow (pc := 1) C q161 dX3_reasonAgainst_1 (fun hF1 => ?_)
  refine aw_getN (pc := 4) C (a := (mNow μ)) (k := 3) (v := .ref (ad ((mNow μ) + 2))) inX0 (kdF hF1) rfl (by decide) q85 dX3_reasonAgainst_4 rfl ?_
  refine aw_iload_n (pc := 7) C dX3_reasonAgainst_7 rfl 1 rfl ?_
  obtain ⟨g2, h⟩ := ck_some h
  refine aw_iaload (pc := 8) C (a := ((mNow μ) + 2)) ((kdFk (k := 2) hF1 rfl rfl)) g2 dX3_reasonAgainst_8 ?_
  obtain ⟨x3, ex3, h⟩ := bd_some h
  refine aw_istore_n (pc := 9) C (x := x3) (lv' := [(3, .int x3), (0, .ref (ad 0)), (1, .int v1), (2, .int v2)]) dX3_reasonAgainst_9 rfl (by decide) ex3 rfl ?_
  refine aw_aload_n (pc := 10) C dX3_reasonAgainst_10 rfl 1 rfl ?_
  refine aw_getNow (pc := 11) C q161 dX3_reasonAgainst_11 (fun hF4 => ?_)
  refine aw_getN (pc := 14) C (a := (mNow μ)) (k := 17) (v := .ref (ad ((mNow μ) + 14))) inX0 (kdF hF4) rfl (by decide) q122 dX3_reasonAgainst_14 rfl ?_
  refine aw_getN (pc := 17) C (a := ((mNow μ) + 14)) (k := 1) (v := .ref (ad (((mNow μ) + 14) + 2))) inX1 (kdL_ (isFL hF4)) rfl (by decide) q56 dX3_reasonAgainst_17 rfl ?_
  refine aw_iload_n (pc := 20) C dX3_reasonAgainst_20 rfl 0 rfl ?_
  refine aw_bipush (pc := 21) C (v := 26) dX3_reasonAgainst_21 rfl ?_
  refine aw_imul (pc := 23) C dX3_reasonAgainst_23 ?_
  refine aw_iload_n (pc := 24) C dX3_reasonAgainst_24 rfl 3 rfl ?_
  refine aw_iadd (pc := 25) C dX3_reasonAgainst_25 ?_
  obtain ⟨g5, h⟩ := ck_some h
  refine aw_iaload (pc := 26) C (a := (((mNow μ) + 14) + 2)) ((kdLk (k := 2) (isFL hF4) rfl rfl)) g5 dX3_reasonAgainst_26 ?_
  refine aw_if_eq (pc := 27) C 32 dX3_reasonAgainst_27 rfl (fun hc => ?_) (fun hc => ?_)
  · replace h := ite_T h hc
    refine aw_aload_n (pc := 32) C dX3_reasonAgainst_32 rfl 1 rfl ?_
    refine aw_getOth (pc := 33) C q162 dX3_reasonAgainst_33 (fun hF6 => ?_)
    refine aw_aload_n (pc := 36) C dX3_reasonAgainst_36 rfl 1 rfl ?_
    refine aw_getNow (pc := 37) C q161 dX3_reasonAgainst_37 (fun hF7 => ?_)
    obtain ⟨μ10, hq8, h⟩ := bi_some h
    refine aw_Vv (pc := 40) (a := (mOth μ)) (Bs := [.ref (ad (mNow μ))]) C (ok_X0_copyFrom C.tr hF6 hF7 hq8) kv_X0_copyFrom q356 (kdF hF6) rfl rfl rfl dX3_reasonAgainst_40 ⟨(show 3 ≤ 4 by decide), (show 83 ≤ 124 by decide)⟩ ⟨Nat.zero_le _, Nat.zero_le _⟩ [] (Nat.le_of_ble_eq_true rfl) rfl ?_
    refine aw_aload_n (pc := 43) C dX3_reasonAgainst_43 rfl 1 rfl ?_
    refine aw_getOth (pc := 44) C q162 dX3_reasonAgainst_44 (fun hF11 => ?_)
    refine aw_iload_n (pc := 47) C dX3_reasonAgainst_47 rfl 2 rfl ?_
    refine aw_iload_n (pc := 48) C dX3_reasonAgainst_48 rfl 3 rfl ?_
    refine aw_aload_n (pc := 49) C dX3_reasonAgainst_49 rfl 1 rfl ?_
    refine aw_getNow (pc := 50) C q161 dX3_reasonAgainst_50 (fun hF12 => ?_)
    obtain ⟨μ15, hq13, h⟩ := bi_some h
    refine aw_Vv (pc := 53) (a := (mOth μ10)) (Bs := [.int v1, .int v2, .ref (ad (mNow μ10))]) C (ok_X0_giveName C.tr hF11 hF12 hq13) kv_X0_giveName q679 (kdF hF11) rfl rfl rfl dX3_reasonAgainst_53 ⟨(show 4 ≤ 4 by decide), (show 119 ≤ 124 by decide)⟩ ⟨Nat.zero_le _, Nat.zero_le _⟩ [] (Nat.le_of_ble_eq_true rfl) rfl ?_
    refine aw_aload_n (pc := 56) C dX3_reasonAgainst_56 rfl 1 rfl ?_
    refine aw_getOth (pc := 57) C q162 dX3_reasonAgainst_57 (fun hF16 => ?_)
    obtain ⟨μ19, hq17, h⟩ := bi_some h
    refine aw_Vv (pc := 60) (a := (mOth μ15)) (Bs := []) C (ok_X0_settle C.tr hF16 hq17) kv_X0_settle q178 (kdF hF16) rfl rfl rfl dX3_reasonAgainst_60 ⟨(show 3 ≤ 4 by decide), (show 82 ≤ 124 by decide)⟩ ⟨Nat.zero_le _, Nat.zero_le _⟩ [] (Nat.le_of_ble_eq_true rfl) rfl ?_
    refine aw_aload_n (pc := 63) C dX3_reasonAgainst_63 rfl 1 rfl ?_
    refine aw_iload_n (pc := 64) C dX3_reasonAgainst_64 rfl 2 rfl ?_
    refine aw_iconst (pc := 65) C (v := 1) dX3_reasonAgainst_65 rfl ?_
    obtain ⟨q21, hq20, h⟩ := bi_some h
    refine aw_Vi (pc := 66) (a := 0) (Bs := [.int v1, .int 1]) C (ok_X3_firstChanged C.tr hq20) kv_X3_firstChanged q687 rfl rfl rfl rfl dX3_reasonAgainst_66 ⟨(show 3 ≤ 4 by decide), (show 87 ≤ 124 by decide)⟩ ⟨Nat.zero_le _, Nat.zero_le _⟩ [] (Nat.le_of_ble_eq_true rfl) rfl ?_
    refine aw_iconst (pc := 69) C (v := (-1)) dX3_reasonAgainst_69 rfl ?_
    refine aw_icmp_eq (pc := 70) C 75 dX3_reasonAgainst_70 rfl (fun hc => ?_) (fun hc => ?_)
    · replace h := ite_T h hc
      refine aw_aload_n (pc := 75) C dX3_reasonAgainst_75 rfl 1 rfl ?_
      refine aw_iload_n (pc := 76) C dX3_reasonAgainst_76 rfl 2 rfl ?_
      refine aw_iconst (pc := 77) C (v := 0) dX3_reasonAgainst_77 rfl ?_
      obtain ⟨q23, hq22, h⟩ := bi_some h
      refine aw_Vi (pc := 78) (a := 0) (Bs := [.int v1, .int 0]) C (ok_X3_firstChanged C.tr hq22) kv_X3_firstChanged q687 rfl rfl rfl rfl dX3_reasonAgainst_78 ⟨(show 3 ≤ 4 by decide), (show 87 ≤ 124 by decide)⟩ ⟨Nat.zero_le _, Nat.zero_le _⟩ [] (Nat.le_of_ble_eq_true rfl) rfl ?_
      refine aw_iconst (pc := 81) C (v := (-1)) dX3_reasonAgainst_81 rfl ?_
      have kJ : AV l p e s m args below meth c D cI cL ad 4 4 (.inr (some (.int r.1))) r.2 90 [(3, .int x3), (0, .ref (ad 0)), (1, .int v1), (2, .int v2)] [.int (if q23 = (-1) then (0 : Int32) else 3)] μ19 := by
        cases h
        exact aw_iret (pc := 90) C dX3_reasonAgainst_90
      refine aw_icmp_eq (pc := 82) C 89 dX3_reasonAgainst_82 rfl (fun hd1 => ?_) (fun hd1 => ?_)
      · refine aw_iconst (pc := 89) C (v := 0) dX3_reasonAgainst_89 rfl ?_
        rw [if_pos hd1] at kJ
        exact kJ
      · refine aw_iconst (pc := 85) C (v := 3) dX3_reasonAgainst_85 rfl ?_
        refine aw_goto (pc := 86) C 90 dX3_reasonAgainst_86 rfl ?_
        rw [if_neg hd1] at kJ
        exact kJ
    · replace h := ite_F h hc
      refine aw_iconst (pc := 73) C (v := 2) dX3_reasonAgainst_73 rfl ?_
      cases h
      exact aw_iret (pc := 74) C dX3_reasonAgainst_74
  · replace h := ite_F h hc
    refine aw_iconst (pc := 30) C (v := 1) dX3_reasonAgainst_30 rfl ?_
    cases h
    exact aw_iret (pc := 31) C dX3_reasonAgainst_31
/-! ### NameScopes.freeName(I)I -/
theorem ok_X3_freeName_l13 {l : Launch} {p : Program} {e : Env} {s : State} {m : MethodId} {args : Array Value} {below : List Frame} {meth : Method} {c : Code} {D : va_G} {cI cL : ClassId} {ad : Nat → Nat} (C : CX p l s m args meth c RX3 cX3_freeName 3 (some .int) D cI cL (AA ad s.heap.size)) (hex : ∀ x ∈ c.exceptionTable.toList, False) {r : ((String ⊕ Int32) × Mm)} {v1 : Int32} {k13 : Int32 → Mm → Option ((String ⊕ Int32) × Mm)} (hk13 : ∀ (v2 : Int32) (μ : Mm), k13 v2 μ = some r → AV l p e s m args below meth c D cI cL ad 7 3 (rsI r.1) r.2 13 [(0, .ref (ad 0)), (1, .int v1), (2, .int v2)] [] μ) {v2 : Int32} {μ : Mm}  (h : X3_freeName_l13 v1 k13 v2 μ = some r) : AV l p e s m args below meth c D cI cL ad 7 3 (rsI r.1) r.2 13 [(0, .ref (ad 0)), (1, .int v1), (2, .int v2)] [] μ := by
  unfold X3_freeName_l13 at h
  refine aw_iload_n (pc := 13) C dX3_freeName_13 rfl 2 rfl ?_
  refine aw_bipush (pc := 14) C (v := 26) dX3_freeName_14 rfl ?_
  refine aw_icmp_ge (pc := 16) C 36 dX3_freeName_16 rfl (fun hc => ?_) (fun hc => ?_)
  · replace h := ite_T h hc
    refine aw_iconst (pc := 36) C (v := (-1)) dX3_freeName_36 rfl ?_
    cases h
    exact aw_iret (pc := 37) C dX3_freeName_37
  · replace h := ite_F h hc
    refine aw_aload_n (pc := 19) C dX3_freeName_19 rfl 0 rfl ?_
    refine aw_iload_n (pc := 20) C dX3_freeName_20 rfl 1 rfl ?_
    refine aw_iload_n (pc := 21) C dX3_freeName_21 rfl 2 rfl ?_
    obtain ⟨q7, μ8, hq6, h⟩ := bn_some h
    refine aw_Vi (pc := 22) (a := 0) (Bs := [.int v1, .int v2]) C (ok_X3_reasonAgainst C.tr hq6) kv_X3_reasonAgainst q675 rfl rfl rfl rfl dX3_freeName_22 ⟨(show 5 ≤ 7 by decide), (show 147 ≤ 217 by decide)⟩ ⟨Nat.zero_le _, Nat.zero_le _⟩ [] (Nat.le_of_ble_eq_true rfl) rfl ?_
    refine aw_if_ne (pc := 25) C 30 dX3_freeName_25 rfl (fun hc => ?_) (fun hc => ?_)
    · replace h := ite_F h hc
      refine aw_iinc (pc := 30) C (v := (v2 + 1)) (lv' := [(2, .int (v2 + 1)), (0, .ref (ad 0)), (1, .int v1)]) dX3_freeName_30 2 rfl (by decide) rfl rfl ?_
      refine aw_goto (pc := 33) C 13 dX3_freeName_33 rfl ?_
      refine aw_sub [1, 2, 0] rfl ?_
      exact hk13 (v2 + 1) μ8 h
    · replace h := ite_T h hc
      refine aw_iload_n (pc := 28) C dX3_freeName_28 rfl 2 rfl ?_
      cases h
      exact aw_iret (pc := 29) C dX3_freeName_29
theorem ok_X3_freeName_l13_w {l : Launch} {p : Program} {e : Env} {s : State} {m : MethodId} {args : Array Value} {below : List Frame} {meth : Method} {c : Code} {D : va_G} {cI cL : ClassId} {ad : Nat → Nat} (C : CX p l s m args meth c RX3 cX3_freeName 3 (some .int) D cI cL (AA ad s.heap.size)) (hex : ∀ x ∈ c.exceptionTable.toList, False) {r : ((String ⊕ Int32) × Mm)} {v1 : Int32} : ∀ (n : Nat) (v2 : Int32) (μ : Mm) , itr (X3_freeName_l13 v1) (fun _ _ => none) n v2 μ = some r → AV l p e s m args below meth c D cI cL ad 7 3 (rsI r.1) r.2 13 [(0, .ref (ad 0)), (1, .int v1), (2, .int v2)] [] μ := by
  intro n
  induction n with
  | zero => intro v2 μ h; exact nomatch (show (none : Option ((String ⊕ Int32) × Mm)) = some r from h)
  | succ n ih => intro v2 μ h; exact ok_X3_freeName_l13 C hex (v1 := v1) ih h
theorem ok_X3_freeName {l : Launch} (htr : l.stackTraces = false) {v1 : Int32} {μ : Mm} {r : ((String ⊕ Int32) × Mm)}  (h : X3_freeName v1 μ = some r) : MetX l yX3_freeName cX3_freeName 3 (some .int) 7 (fun ad => [.ref (ad 0), .int v1]) μ (rsI r.1) r.2 := by
  refine MetX.of htr (by decide) rfl (fun ad => Nat.le_of_ble_eq_true rfl) (fun p e s m args below meth c D cI cL ad C hex hw => ?_)
  show AV l p e s m args below meth c D cI cL ad 7 3 (rsI r.1) r.2 0 [(0, .ref (ad 0)), (1, .int v1)] [] μ
  unfold X3_freeName at h
  refine aw_iload_n (pc := 0) C dX3_freeName_0 rfl 1 rfl ?_
  refine aw_aload_n (pc := 1) C dX3_freeName_1 rfl 0 rfl ?_
  refine aw_getNow (pc := 2) C q161 dX3_freeName_2 (fun hF1 => ?_)
  refine aw_getN (pc := 5) C (a := (mNow μ)) (k := 2) (v := .int (μ.1 (mNow μ) 2)) inX0 (kdF hF1) rfl (by decide) q82 dX3_freeName_5 rfl ?_
  obtain ⟨y5, hq2, h⟩ := bi_some h
  rcases y5 with E4 | q3
  · rw [thr_l] at h
    cases h
    exact aw_callST (pc := 8) (Bs := [.int v1, .int (μ.1 (mNow μ) 2)]) (rest := []) C hex (ok_X3_needIndex C.tr (r := .inl E4) hq2) kv_X3_needIndex q391 rfl rfl (Nat.le_of_ble_eq_true rfl) dX3_freeName_8 ⟨(show 7 ≤ 7 by decide), (show 207 ≤ 217 by decide)⟩ ⟨Nat.le_refl _, Nat.le_refl _⟩ rfl
  · rw [thr_r] at h
    refine aw_Sv (pc := 8) (Bs := [.int v1, .int (μ.1 (mNow μ) 2)]) C (ok_X3_needIndex C.tr (r := .inr q3) hq2) kv_X3_needIndex q391 rfl rfl dX3_freeName_8 ⟨(show 7 ≤ 7 by decide), (show 207 ≤ 217 by decide)⟩ ⟨Nat.zero_le _, Nat.zero_le _⟩ [] (Nat.le_of_ble_eq_true rfl) rfl ?_
    refine aw_iconst (pc := 11) C (v := 0) dX3_freeName_11 rfl ?_
    refine aw_istore_n (pc := 12) C (x := 0) (lv' := [(2, .int 0), (0, .ref (ad 0)), (1, .int v1)]) dX3_freeName_12 rfl (by decide) rfl rfl ?_
    refine aw_sub [1, 2, 0] rfl ?_
    exact ok_X3_freeName_l13_w C hex big 0 μ h
/-! ### NameScopes.usesToRename(I)I -/
theorem ok_X3_usesToRename_l4 {l : Launch} {p : Program} {e : Env} {s : State} {m : MethodId} {args : Array Value} {below : List Frame} {meth : Method} {c : Code} {D : va_G} {cI cL : ClassId} {ad : Nat → Nat} (C : CX p l s m args meth c RX3 cX3_usesToRename 4 (some .int) D cI cL (AA ad s.heap.size)) (hex : ∀ x ∈ c.exceptionTable.toList, False) {r : Int32} {v1 : Int32} {μ : Mm} {k4 : Int32 → Int32 → Option Int32} (hk4 : ∀ (v2 : Int32) (v3 : Int32), k4 v2 v3 = some r → AV l p e s m args below meth c D cI cL ad 3 4 (.inr (some (.int r))) μ 4 [(0, .ref (ad 0)), (1, .int v1), (2, .int v2), (3, .int v3)] [] μ) {v2 : Int32} {v3 : Int32}  (h : X3_usesToRename_l4 v1 μ k4 v2 v3 = some r) : AV l p e s m args below meth c D cI cL ad 3 4 (.inr (some (.int r))) μ 4 [(0, .ref (ad 0)), (1, .int v1), (2, .int v2), (3, .int v3)] [] μ := by
  unfold X3_usesToRename_l4 at h
  refine aw_iload_n (pc := 4) C dX3_usesToRename_4 rfl 3 rfl ?_
  refine aw_aload_n (pc := 5) C dX3_usesToRename_5 rfl 0 rfl ?_
  refine aw_getNow (pc := 6) C q161 dX3_usesToRename_6 (fun hF1 => ?_)
  refine aw_getN (pc := 9) C (a := (mNow μ)) (k := 13) (v := .int (μ.1 (mNow μ) 13)) inX0 (kdF hF1) rfl (by decide) q114 dX3_usesToRename_9 rfl ?_
  refine aw_icmp_ge (pc := 12) C 41 dX3_usesToRename_12 rfl (fun hc => ?_) (fun hc => ?_)
  · replace h := ite_T h hc
    refine aw_iload_n (pc := 41) C dX3_usesToRename_41 rfl 2 rfl ?_
    cases h
    exact aw_iret (pc := 42) C dX3_usesToRename_42
  · replace h := ite_F h hc
    refine aw_iload_n (pc := 15) C dX3_usesToRename_15 rfl 2 rfl ?_
    refine aw_aload_n (pc := 16) C dX3_usesToRename_16 rfl 0 rfl ?_
    refine aw_getNow (pc := 17) C q161 dX3_usesToRename_17 (fun hF2 => ?_)
    refine aw_iload_n (pc := 20) C dX3_usesToRename_20 rfl 3 rfl ?_
    refine aw_iload_n (pc := 21) C dX3_usesToRename_21 rfl 1 rfl ?_
    obtain ⟨q4, hq3, h⟩ := bi_some h
    refine aw_Vi (pc := 22) (a := (mNow μ)) (Bs := [.int v3, .int v1]) C (ok_X0_followsRenaming C.tr hF2 hq3) kv_X0_followsRenaming q702 (kdF hF2) rfl rfl rfl dX3_usesToRename_22 ⟨(show 3 ≤ 3 by decide), (show 84 ≤ 93 by decide)⟩ ⟨Nat.zero_le _, Nat.zero_le _⟩ [.int v2] (Nat.le_of_ble_eq_true rfl) rfl ?_
    have kJ : AV l p e s m args below meth c D cI cL ad 3 4 (.inr (some (.int r))) μ 33 [(0, .ref (ad 0)), (1, .int v1), (2, .int v2), (3, .int v3)] [.int (if q4 = 0 then (0 : Int32) else 1), .int v2] μ := by
      refine aw_iadd (pc := 33) C dX3_usesToRename_33 ?_
      obtain ⟨x5, ex5, h⟩ := bd_some h
      refine aw_istore_n (pc := 34) C (x := x5) (lv' := [(2, .int x5), (0, .ref (ad 0)), (1, .int v1), (3, .int v3)]) dX3_usesToRename_34 rfl (by decide) ex5 rfl ?_
      refine aw_iinc (pc := 35) C (v := (v3 + 1)) (lv' := [(3, .int (v3 + 1)), (2, .int x5), (0, .ref (ad 0)), (1, .int v1)]) dX3_usesToRename_35 3 rfl (by decide) rfl rfl ?_
      refine aw_goto (pc := 38) C 4 dX3_usesToRename_38 rfl ?_
      refine aw_sub [2, 3, 1, 0] rfl ?_
      exact hk4 x5 (v3 + 1) h
    refine aw_if_eq (pc := 25) C 32 dX3_usesToRename_25 rfl (fun hd1 => ?_) (fun hd1 => ?_)
    · refine aw_iconst (pc := 32) C (v := 0) dX3_usesToRename_32 rfl ?_
      rw [if_pos hd1] at kJ
      exact kJ
    · refine aw_iconst (pc := 28) C (v := 1) dX3_usesToRename_28 rfl ?_
      refine aw_goto (pc := 29) C 33 dX3_usesToRename_29 rfl ?_
      rw [if_neg hd1] at kJ
      exact kJ
theorem ok_X3_usesToRename_l4_w {l : Launch} {p : Program} {e : Env} {s : State} {m : MethodId} {args : Array Value} {below : List Frame} {meth : Method} {c : Code} {D : va_G} {cI cL : ClassId} {ad : Nat → Nat} (C : CX p l s m args meth c RX3 cX3_usesToRename 4 (some .int) D cI cL (AA ad s.heap.size)) (hex : ∀ x ∈ c.exceptionTable.toList, False) {r : Int32} {v1 : Int32} {μ : Mm} : ∀ (n : Nat) (v2 : Int32) (v3 : Int32) , itr (X3_usesToRename_l4 v1 μ) (fun _ _ => none) n v2 v3 = some r → AV l p e s m args below meth c D cI cL ad 3 4 (.inr (some (.int r))) μ 4 [(0, .ref (ad 0)), (1, .int v1), (2, .int v2), (3, .int v3)] [] μ := by
  intro n
  induction n with
  | zero => intro v2 v3 h; exact nomatch (show (none : Option Int32) = some r from h)
  | succ n ih => intro v2 v3 h; exact ok_X3_usesToRename_l4 C hex (v1 := v1) (μ := μ) ih h
theorem ok_X3_usesToRename {l : Launch} (htr : l.stackTraces = false) {v1 : Int32} {μ : Mm} {r : Int32}  (h : X3_usesToRename v1 μ = some r) : MetX l yX3_usesToRename cX3_usesToRename 4 (some .int) 3 (fun ad => [.ref (ad 0), .int v1]) μ (.inr (some (.int r))) μ := by
  refine MetX.of htr (by decide) rfl (fun ad => Nat.le_of_ble_eq_true rfl) (fun p e s m args below meth c D cI cL ad C hex hw => ?_)
  show AV l p e s m args below meth c D cI cL ad 3 4 (.inr (some (.int r))) μ 0 [(0, .ref (ad 0)), (1, .int v1)] [] μ
  unfold X3_usesToRename at h
  refine aw_iconst (pc := 0) C (v := 0) dX3_usesToRename_0 rfl ?_
  refine aw_istore_n (pc := 1) C (x := 0) (lv' := [(2, .int 0), (0, .ref (ad 0)), (1, .int v1)]) dX3_usesToRename_1 rfl (by decide) rfl rfl ?_
  refine aw_iconst (pc := 2) C (v := 0) dX3_usesToRename_2 rfl ?_
  refine aw_istore_n (pc := 3) C (x := 0) (lv' := [(3, .int 0), (2, .int 0), (0, .ref (ad 0)), (1, .int v1)]) dX3_usesToRename_3 rfl (by decide) rfl rfl ?_
  refine aw_sub [2, 3, 1, 0] rfl ?_
  exact ok_X3_usesToRename_l4_w C hex big 0 0 h
/-! ### NameScopes.ifRenamed(III)I -/
theorem ok_X3_ifRenamed_j60 {l : Launch} {p : Program} {e : Env} {s : State} {m : MethodId} {args : Array Value} {below : List Frame} {meth : Method} {c : Code} {D : va_G} {cI cL : ClassId} {ad : Nat → Nat} (C : CX p l s m args meth c RX3 cX3_ifRenamed 5 (some .int) D cI cL (AA ad s.heap.size)) (hex : ∀ x ∈ c.exceptionTable.toList, False) {r : ((String ⊕ Int32) × Mm)} {v1 : Int32} {v2 : Int32} {v3 : Int32} {v4 : Int32} {μ : Mm}  (h : X3_ifRenamed_j60 v1 v2 v3 v4 μ = some r) : AV l p e s m args below meth c D cI cL ad 7 5 (rsI r.1) r.2 60 [(0, .ref (ad 0)), (1, .int v1), (4, .int v4)] [] μ := by
  unfold X3_ifRenamed_j60 at h
  refine aw_aload_n (pc := 60) C dX3_ifRenamed_60 rfl 0 rfl ?_
  refine aw_iload_n (pc := 61) C dX3_ifRenamed_61 rfl 1 rfl ?_
  refine aw_iload (pc := 62) C dX3_ifRenamed_62 2 rfl ?_
  refine aw_iconst (pc := 64) C (v := 2) dX3_ifRenamed_64 rfl ?_
  have kJ : AV l p e s m args below meth c D cI cL ad 7 5 (rsI r.1) r.2 73 [(0, .ref (ad 0)), (1, .int v1), (4, .int v4)] [.int (if v4 = 2 then (1 : Int32) else 0), .int v1, .ref (ad 0)] μ := by
    obtain ⟨q18, hq17, h⟩ := bi_some h
    refine aw_Vi (pc := 73) (a := 0) (Bs := [.int v1, .int (if v4 = 2 then (1 : Int32) else 0)]) C (ok_X3_firstChanged C.tr hq17) kv_X3_firstChanged q687 rfl rfl rfl rfl dX3_ifRenamed_73 ⟨(show 3 ≤ 7 by decide), (show 87 ≤ 217 by decide)⟩ ⟨Nat.zero_le _, Nat.zero_le _⟩ [] (Nat.le_of_ble_eq_true rfl) rfl ?_
    refine aw_goto (pc := 76) C 80 dX3_ifRenamed_76 rfl ?_
    cases h
    exact aw_iret (pc := 80) C dX3_ifRenamed_80
  refine aw_icmp_ne (pc := 65) C 72 dX3_ifRenamed_65 rfl (fun hd1 => ?_) (fun hd1 => ?_)
  · refine aw_iconst (pc := 72) C (v := 0) dX3_ifRenamed_72 rfl ?_
    rw [if_neg hd1] at kJ
    exact kJ
  · refine aw_iconst (pc := 68) C (v := 1) dX3_ifRenamed_68 rfl ?_
    refine aw_goto (pc := 69) C 73 dX3_ifRenamed_69 rfl ?_
    rw [if_pos hd1] at kJ
    exact kJ
theorem ok_X3_ifRenamed {l : Launch} (htr : l.stackTraces = false) {v1 : Int32} {v2 : Int32} {v3 : Int32} {μ : Mm} {r : ((String ⊕ Int32) × Mm)}  (h : X3_ifRenamed v1 v2 v3 μ = some r) : MetX l yX3_ifRenamed cX3_ifRenamed 5 (some .int) 7 (fun ad => [.ref (ad 0), .int v1, .int v2, .int v3]) μ (rsI r.1) r.2 := by
  refine MetX.of htr (by decide) rfl (fun ad => Nat.le_of_ble_eq_true rfl) (fun p e s m args below meth c D cI cL ad C hex hw => ?_)
  show AV l p e s m args below meth c D cI cL ad 7 5 (rsI r.1) r.2 0 [(0, .ref (ad 0)), (1, .int v1), (2, .int v2), (3, .int v3)] [] μ
  unfold X3_ifRenamed at h
  refine aw_iload_n (pc := 0) C dX3_ifRenamed_0 rfl 1 rfl ?_
  refine aw_aload_n (pc := 1) C dX3_ifRenamed_1 rfl 0 rfl ?_
  refine aw_getNow (pc := 2) C q161 dX3_ifRenamed_2 (fun hF1 => ?_)
  refine aw_getN (pc := 5) C (a := (mNow μ)) (k := 2) (v := .int (μ.1 (mNow μ) 2)) inX0 (kdF hF1) rfl (by decide) q82 dX3_ifRenamed_5 rfl ?_
  obtain ⟨y5, hq2, h⟩ := bi_some h
  rcases y5 with E4 | q3
  · rw [thr_l] at h
    cases h
    exact aw_callST (pc := 8) (Bs := [.int v1, .int (μ.1 (mNow μ) 2)]) (rest := []) C hex (ok_X3_needIndex C.tr (r := .inl E4) hq2) kv_X3_needIndex q391 rfl rfl (Nat.le_of_ble_eq_true rfl) dX3_ifRenamed_8 ⟨(show 7 ≤ 7 by decide), (show 207 ≤ 217 by decide)⟩ ⟨Nat.le_refl _, Nat.le_refl _⟩ rfl
  · rw [thr_r] at h
    refine aw_Sv (pc := 8) (Bs := [.int v1, .int (μ.1 (mNow μ) 2)]) C (ok_X3_needIndex C.tr (r := .inr q3) hq2) kv_X3_needIndex q391 rfl rfl dX3_ifRenamed_8 ⟨(show 7 ≤ 7 by decide), (show 207 ≤ 217 by decide)⟩ ⟨Nat.zero_le _, Nat.zero_le _⟩ [] (Nat.le_of_ble_eq_true rfl) rfl ?_
    refine aw_iload_n (pc := 11) C dX3_ifRenamed_11 rfl 2 rfl ?_
    refine aw_bipush (pc := 12) C (v := 26) dX3_ifRenamed_12 rfl ?_
    obtain ⟨y9, hq6, h⟩ := bi_some h
    rcases y9 with E8 | q7
    · rw [thr_l] at h
      cases h
      exact aw_callST (pc := 14) (Bs := [.int v2, .int 26]) (rest := []) C hex (ok_X3_needBelow C.tr (r := .inl E8) hq6) kv_X3_needBelow q269 rfl rfl (Nat.le_of_ble_eq_true rfl) dX3_ifRenamed_14 ⟨(show 7 ≤ 7 by decide), (show 207 ≤ 217 by decide)⟩ ⟨Nat.le_refl _, Nat.le_refl _⟩ rfl
    · rw [thr_r] at h
      refine aw_Sv (pc := 14) (Bs := [.int v2, .int 26]) C (ok_X3_needBelow C.tr (r := .inr q7) hq6) kv_X3_needBelow q269 rfl rfl dX3_ifRenamed_14 ⟨(show 7 ≤ 7 by decide), (show 207 ≤ 217 by decide)⟩ ⟨Nat.zero_le _, Nat.zero_le _⟩ [] (Nat.le_of_ble_eq_true rfl) rfl ?_
      refine aw_iload_n (pc := 17) C dX3_ifRenamed_17 rfl 3 rfl ?_
      refine aw_iconst (pc := 18) C (v := 3) dX3_ifRenamed_18 rfl ?_
      obtain ⟨y13, hq10, h⟩ := bi_some h
      rcases y13 with E12 | q11
      · rw [thr_l] at h
        cases h
        exact aw_callST (pc := 19) (Bs := [.int v3, .int 3]) (rest := []) C hex (ok_X3_needBelow C.tr (r := .inl E12) hq10) kv_X3_needBelow q269 rfl rfl (Nat.le_of_ble_eq_true rfl) dX3_ifRenamed_19 ⟨(show 7 ≤ 7 by decide), (show 207 ≤ 217 by decide)⟩ ⟨Nat.le_refl _, Nat.le_refl _⟩ rfl
      · rw [thr_r] at h
        refine aw_Sv (pc := 19) (Bs := [.int v3, .int 3]) C (ok_X3_needBelow C.tr (r := .inr q11) hq10) kv_X3_needBelow q269 rfl rfl dX3_ifRenamed_19 ⟨(show 7 ≤ 7 by decide), (show 207 ≤ 217 by decide)⟩ ⟨Nat.zero_le _, Nat.zero_le _⟩ [] (Nat.le_of_ble_eq_true rfl) rfl ?_
        refine aw_iload_n (pc := 22) C dX3_ifRenamed_22 rfl 3 rfl ?_
        refine aw_iconst (pc := 23) C (v := 2) dX3_ifRenamed_23 rfl ?_
        refine aw_icmp_ne (pc := 24) C 33 dX3_ifRenamed_24 rfl (fun hc => ?_) (fun hc => ?_)
        · replace h := ite_F h hc
          refine aw_aload_n (pc := 33) C dX3_ifRenamed_33 rfl 0 rfl ?_
          refine aw_iload_n (pc := 34) C dX3_ifRenamed_34 rfl 1 rfl ?_
          refine aw_iload_n (pc := 35) C dX3_ifRenamed_35 rfl 2 rfl ?_
          obtain ⟨q15, μ16, hq14, h⟩ := bn_some h
          refine aw_Vi (pc := 36) (a := 0) (Bs := [.int v1, .int v2]) C (ok_X3_reasonAgainst C.tr hq14) kv_X3_reasonAgainst q675 rfl rfl rfl rfl dX3_ifRenamed_36 ⟨(show 5 ≤ 7 by decide), (show 147 ≤ 217 by decide)⟩ ⟨Nat.zero_le _, Nat.zero_le _⟩ [] (Nat.le_of_ble_eq_true rfl) rfl ?_
          refine aw_istore (pc := 39) C (x := q15) (lv' := [(4, .int q15), (0, .ref (ad 0)), (1, .int v1), (2, .int v2), (3, .int v3)]) dX3_ifRenamed_39 (by decide) rfl rfl ?_
          refine aw_iload_n (pc := 41) C dX3_ifRenamed_41 rfl 4 rfl ?_
          refine aw_if_ne (pc := 42) C 48 dX3_ifRenamed_42 rfl (fun hc => ?_) (fun hc => ?_)
          · replace h := ite_F h hc
            refine aw_iload (pc := 48) C dX3_ifRenamed_48 0 rfl ?_
            refine aw_iconst (pc := 50) C (v := 2) dX3_ifRenamed_50 rfl ?_
            refine aw_icmp_eq (pc := 51) C 60 dX3_ifRenamed_51 rfl (fun hc => ?_) (fun hc => ?_)
            · replace h := ite_T h hc
              refine aw_sub [1, 2, 0] rfl ?_
              exact ok_X3_ifRenamed_j60 C hex h
            · replace h := ite_F h hc
              refine aw_iload (pc := 54) C dX3_ifRenamed_54 0 rfl ?_
              refine aw_iconst (pc := 56) C (v := 3) dX3_ifRenamed_56 rfl ?_
              refine aw_icmp_ne (pc := 57) C 79 dX3_ifRenamed_57 rfl (fun hc => ?_) (fun hc => ?_)
              · replace h := ite_F h hc
                refine aw_iconst (pc := 79) C (v := (-1)) dX3_ifRenamed_79 rfl ?_
                cases h
                exact aw_iret (pc := 80) C dX3_ifRenamed_80
              · replace h := ite_T h hc
                refine aw_sub [1, 2, 0] rfl ?_
                exact ok_X3_ifRenamed_j60 C hex h
          · replace h := ite_T h hc
            refine aw_iload (pc := 45) C dX3_ifRenamed_45 0 rfl ?_
            cases h
            exact aw_iret (pc := 47) C dX3_ifRenamed_47
        · replace h := ite_T h hc
          refine aw_aload_n (pc := 27) C dX3_ifRenamed_27 rfl 0 rfl ?_
          refine aw_iload_n (pc := 28) C dX3_ifRenamed_28 rfl 1 rfl ?_
          obtain ⟨q20, hq19, h⟩ := bi_some h
          refine aw_Vi (pc := 29) (a := 0) (Bs := [.int v1]) C (ok_X3_usesToRename C.tr hq19) kv_X3_usesToRename q698 rfl rfl rfl rfl dX3_ifRenamed_29 ⟨(show 4 ≤ 7 by decide), (show 116 ≤ 217 by decide)⟩ ⟨Nat.zero_le _, Nat.zero_le _⟩ [] (Nat.le_of_ble_eq_true rfl) rfl ?_
          cases h
          exact aw_iret (pc := 32) C dX3_ifRenamed_32
/-! ### NameScopes.importAll(IIIZ)I -/
theorem ok_X3_importAll {l : Launch} (htr : l.stackTraces = false) {v1 : Int32} {v2 : Int32} {v3 : Int32} {v4 : Int32} {μ : Mm} {r : ((String ⊕ Int32) × Mm)}  (h : X3_importAll v1 v2 v3 v4 μ = some r) : MetX l yX3_importAll cX3_importAll 6 (some .int) 7 (fun ad => [.ref (ad 0), .int v1, .int v2, .int v3, .int v4]) μ (rsI r.1) r.2 := by
  refine MetX.of htr (by decide) rfl (fun ad => Nat.le_of_ble_eq_true rfl) (fun p e s m args below meth c D cI cL ad C hex hw => ?_)
  show AV l p e s m args below meth c D cI cL ad 7 6 (rsI r.1) r.2 0 [(0, .ref (ad 0)), (1, .int v1), (2, .int v2), (3, .int v3), (4, .int v4)] [] μ
  unfold X3_importAll at h
  refine aw_aload_n (pc := 0) C dX3_importAll_0 rfl 0 rfl ?_
  refine aw_getNow (pc := 1) C q161 dX3_importAll_1 (fun hF1 => ?_)
  refine aw_iload_n (pc := 4) C dX3_importAll_4 rfl 1 rfl ?_
  refine aw_iload_n (pc := 5) C dX3_importAll_5 rfl 2 rfl ?_
  refine aw_iload_n (pc := 6) C dX3_importAll_6 rfl 3 rfl ?_
  have kJ : AV l p e s m args below meth c D cI cL ad 7 6 (rsI r.1) r.2 21 [(0, .ref (ad 0)), (1, .int v1), (2, .int v2), (3, .int v3), (4, .int v4)] [.int (if v3 < 0 then (0 : Int32) else (if 67108864 ≤ v3 then (0 : Int32) else 1)), .int v2, .int v1, .ref (ad (mNow μ))] μ := by
    obtain ⟨q3, hq2, h⟩ := bi_some h
    refine aw_Vi (pc := 21) (a := (mNow μ)) (Bs := [.int v1, .int v2, .int (if v3 < 0 then (0 : Int32) else (if 67108864 ≤ v3 then (0 : Int32) else 1))]) C (ok_X0_refusalOfImport C.tr hF1 hq2) kv_X0_refusalOfImport q521 (kdF hF1) rfl rfl rfl dX3_importAll_21 ⟨(show 2 ≤ 7 by decide), (show 54 ≤ 217 by decide)⟩ ⟨Nat.zero_le _, Nat.zero_le _⟩ [] (Nat.le_of_ble_eq_true rfl) rfl ?_
    obtain ⟨y7, hq4, h⟩ := bi_some h
    rcases y7 with E6 | q5
    · rw [thr_l] at h
      cases h
      exact aw_callST (pc := 24) (Bs := [.int q3]) (rest := []) C hex (ok_X3_throwIfRefused C.tr (r := .inl E6) hq4) kv_X3_throwIfRefused q465 rfl rfl (Nat.le_of_ble_eq_true rfl) dX3_importAll_24 ⟨(show 7 ≤ 7 by decide), (show 206 ≤ 217 by decide)⟩ ⟨Nat.le_refl _, Nat.le_refl _⟩ rfl
    · rw [thr_r] at h
      refine aw_Sv (pc := 24) (Bs := [.int q3]) C (ok_X3_throwIfRefused C.tr (r := .inr q5) hq4) kv_X3_throwIfRefused q465 rfl rfl dX3_importAll_24 ⟨(show 7 ≤ 7 by decide), (show 206 ≤ 217 by decide)⟩ ⟨Nat.zero_le _, Nat.zero_le _⟩ [] (Nat.le_of_ble_eq_true rfl) rfl ?_
      refine aw_aload_n (pc := 27) C dX3_importAll_27 rfl 0 rfl ?_
      refine aw_getNow (pc := 28) C q161 dX3_importAll_28 (fun hF8 => ?_)
      refine aw_iload_n (pc := 31) C dX3_importAll_31 rfl 1 rfl ?_
      refine aw_iload_n (pc := 32) C dX3_importAll_32 rfl 2 rfl ?_
      refine aw_iconst (pc := 33) C (v := (-1)) dX3_importAll_33 rfl ?_
      refine aw_iconst (pc := 34) C (v := (-1)) dX3_importAll_34 rfl ?_
      refine aw_iload_n (pc := 35) C dX3_importAll_35 rfl 3 rfl ?_
      refine aw_iload (pc := 36) C dX3_importAll_36 4 rfl ?_
      have kJ : AV l p e s m args below meth c D cI cL ad 7 6 (rsI r.1) r.2 46 [(0, .ref (ad 0)), (1, .int v1), (2, .int v2), (3, .int v3), (4, .int v4)] [.int (if v4 = 0 then (0 : Int32) else 1), .int v3, .int (-1), .int (-1), .int v2, .int v1, .ref (ad (mNow μ))] μ := by
        obtain ⟨q10, μ11, hq9, h⟩ := bn_some h
        refine aw_Vi (pc := 46) (a := (mNow μ)) (Bs := [.int v1, .int v2, .int (-1), .int (-1), .int v3, .int (if v4 = 0 then (0 : Int32) else 1)]) C (ok_X0_putImport C.tr hF8 hq9) kv_X0_putImport q525 (kdF hF8) rfl rfl rfl dX3_importAll_46 ⟨(show 1 ≤ 7 by decide), (show 26 ≤ 217 by decide)⟩ ⟨Nat.zero_le _, Nat.zero_le _⟩ [] (Nat.le_of_ble_eq_true rfl) rfl ?_
        refine aw_istore (pc := 49) C (x := q10) (lv' := [(5, .int q10), (0, .ref (ad 0)), (1, .int v1), (2, .int v2), (3, .int v3), (4, .int v4)]) dX3_importAll_49 (by decide) rfl rfl ?_
        refine aw_aload_n (pc := 51) C dX3_importAll_51 rfl 1 rfl ?_
        refine aw_getNow (pc := 52) C q161 dX3_importAll_52 (fun hF12 => ?_)
        obtain ⟨μ15, hq13, h⟩ := bi_some h
        refine aw_Vv (pc := 55) (a := (mNow μ11)) (Bs := []) C (ok_X0_settle C.tr hF12 hq13) kv_X0_settle q178 (kdF hF12) rfl rfl rfl dX3_importAll_55 ⟨(show 3 ≤ 7 by decide), (show 82 ≤ 217 by decide)⟩ ⟨Nat.zero_le _, Nat.zero_le _⟩ [] (Nat.le_of_ble_eq_true rfl) rfl ?_
        refine aw_iload (pc := 58) C dX3_importAll_58 0 rfl ?_
        cases h
        exact aw_iret (pc := 60) C dX3_importAll_60
      refine aw_if_eq (pc := 38) C 45 dX3_importAll_38 rfl (fun hd1 => ?_) (fun hd1 => ?_)
      · refine aw_iconst (pc := 45) C (v := 0) dX3_importAll_45 rfl ?_
        rw [if_pos hd1] at kJ
        exact kJ
      · refine aw_iconst (pc := 41) C (v := 1) dX3_importAll_41 rfl ?_
        refine aw_goto (pc := 42) C 46 dX3_importAll_42 rfl ?_
        rw [if_neg hd1] at kJ
        exact kJ
  refine aw_if_lt (pc := 7) C 20 dX3_importAll_7 rfl (fun hd1 => ?_) (fun hd1 => ?_)
  · refine aw_iconst (pc := 20) C (v := 0) dX3_importAll_20 rfl ?_
    rw [if_pos hd1] at kJ
    exact kJ
  · refine aw_iload_n (pc := 10) C dX3_importAll_10 rfl 3 rfl ?_
    refine aw_ldc (pc := 11) C dX3_importAll_11 q536 ?_
    refine aw_icmp_ge (pc := 13) C 20 dX3_importAll_13 rfl (fun hd2 => ?_) (fun hd2 => ?_)
    · refine aw_iconst (pc := 20) C (v := 0) dX3_importAll_20 rfl ?_
      rw [if_neg hd1, if_pos hd2] at kJ
      exact kJ
    · refine aw_iconst (pc := 16) C (v := 1) dX3_importAll_16 rfl ?_
      refine aw_goto (pc := 17) C 21 dX3_importAll_17 rfl ?_
      rw [if_neg hd1, if_neg hd2] at kJ
      exact kJ
/-! ### NameScopes.importOne(IIIIZ)I -/
theorem ok_X3_importOne_j26 {l : Launch} {p : Program} {e : Env} {s : State} {m : MethodId} {args : Array Value} {below : List Frame} {meth : Method} {c : Code} {D : va_G} {cI cL : ClassId} {ad : Nat → Nat} (C : CX p l s m args meth c RX3 cX3_importOne 7 (some .int) D cI cL (AA ad s.heap.size)) (hex : ∀ x ∈ c.exceptionTable.toList, False) {r : ((String ⊕ Int32) × Mm)} {v1 : Int32} {v2 : Int32} {v3 : Int32} {v4 : Int32} {v5 : Int32} {s0 : Int32} {s1 : Int32} {s2 : Int32} {s3 : Nat} {μ : Mm} (hs3 : isF s3) (h : X3_importOne_j26 v1 v2 v3 v4 v5 s0 s1 s2 s3 μ = some r) : AV l p e s m args below meth c D cI cL ad 7 7 (rsI r.1) r.2 26 [(0, .ref (ad 0)), (1, .int v1), (2, .int v2), (3, .int v3), (4, .int v4), (5, .int v5)] [.int s0, .int s1, .int s2, .ref (ad s3)] μ := by
  unfold X3_importOne_j26 at h
  obtain ⟨q5, hq4, h⟩ := bi_some h
  refine aw_Vi (pc := 26) (a := s3) (Bs := [.int s2, .int s1, .int s0]) C (ok_X0_refusalOfImport C.tr hs3 hq4) kv_X0_refusalOfImport q521 (kdF hs3) rfl rfl rfl dX3_importOne_26 ⟨(show 2 ≤ 7 by decide), (show 54 ≤ 217 by decide)⟩ ⟨Nat.zero_le _, Nat.zero_le _⟩ [] (Nat.le_of_ble_eq_true rfl) rfl ?_
  obtain ⟨y9, hq6, h⟩ := bi_some h
  rcases y9 with E8 | q7
  · rw [thr_l] at h
    cases h
    exact aw_callST (pc := 29) (Bs := [.int q5]) (rest := []) C hex (ok_X3_throwIfRefused C.tr (r := .inl E8) hq6) kv_X3_throwIfRefused q465 rfl rfl (Nat.le_of_ble_eq_true rfl) dX3_importOne_29 ⟨(show 7 ≤ 7 by decide), (show 206 ≤ 217 by decide)⟩ ⟨Nat.le_refl _, Nat.le_refl _⟩ rfl
  · rw [thr_r] at h
    refine aw_Sv (pc := 29) (Bs := [.int q5]) C (ok_X3_throwIfRefused C.tr (r := .inr q7) hq6) kv_X3_throwIfRefused q465 rfl rfl dX3_importOne_29 ⟨(show 7 ≤ 7 by decide), (show 206 ≤ 217 by decide)⟩ ⟨Nat.zero_le _, Nat.zero_le _⟩ [] (Nat.le_of_ble_eq_true rfl) rfl ?_
    refine aw_aload_n (pc := 32) C dX3_importOne_32 rfl 0 rfl ?_
    refine aw_getNow (pc := 33) C q161 dX3_importOne_33 (fun hF10 => ?_)
    refine aw_iload_n (pc := 36) C dX3_importOne_36 rfl 1 rfl ?_
    refine aw_iload_n (pc := 37) C dX3_importOne_37 rfl 2 rfl ?_
    refine aw_iload_n (pc := 38) C dX3_importOne_38 rfl 3 rfl ?_
    refine aw_iload (pc := 39) C dX3_importOne_39 4 rfl ?_
    refine aw_iconst (pc := 41) C (v := 0) dX3_importOne_41 rfl ?_
    refine aw_iload (pc := 42) C dX3_importOne_42 5 rfl ?_
    have kJ : AV l p e s m args below meth c D cI cL ad 7 7 (rsI r.1) r.2 52 [(0, .ref (ad 0)), (1, .int v1), (2, .int v2), (3, .int v3), (4, .int v4), (5, .int v5)] [.int (if v5 = 0 then (0 : Int32) else 1), .int 0, .int v4, .int v3, .int v2, .int v1, .ref (ad (mNow μ))] μ := by
      obtain ⟨q12, μ13, hq11, h⟩ := bn_some h
      refine aw_Vi (pc := 52) (a := (mNow μ)) (Bs := [.int v1, .int v2, .int v3, .int v4, .int 0, .int (if v5 = 0 then (0 : Int32) else 1)]) C (ok_X0_putImport C.tr hF10 hq11) kv_X0_putImport q525 (kdF hF10) rfl rfl rfl dX3_importOne_52 ⟨(show 1 ≤ 7 by decide), (show 26 ≤ 217 by decide)⟩ ⟨Nat.zero_le _, Nat.zero_le _⟩ [] (Nat.le_of_ble_eq_true rfl) rfl ?_
      refine aw_istore (pc := 55) C (x := q12) (lv' := [(6, .int q12), (0, .ref (ad 0)), (1, .int v1), (2, .int v2), (3, .int v3), (4, .int v4), (5, .int v5)]) dX3_importOne_55 (by decide) rfl rfl ?_
      refine aw_aload_n (pc := 57) C dX3_importOne_57 rfl 1 rfl ?_
      refine aw_getNow (pc := 58) C q161 dX3_importOne_58 (fun hF14 => ?_)
      obtain ⟨μ17, hq15, h⟩ := bi_some h
      refine aw_Vv (pc := 61) (a := (mNow μ13)) (Bs := []) C (ok_X0_settle C.tr hF14 hq15) kv_X0_settle q178 (kdF hF14) rfl rfl rfl dX3_importOne_61 ⟨(show 3 ≤ 7 by decide), (show 82 ≤ 217 by decide)⟩ ⟨Nat.zero_le _, Nat.zero_le _⟩ [] (Nat.le_of_ble_eq_true rfl) rfl ?_
      refine aw_iload (pc := 64) C dX3_importOne_64 0 rfl ?_
      cases h
      exact aw_iret (pc := 66) C dX3_importOne_66
    refine aw_if_eq (pc := 44) C 51 dX3_importOne_44 rfl (fun hd1 => ?_) (fun hd1 => ?_)
    · refine aw_iconst (pc := 51) C (v := 0) dX3_importOne_51 rfl ?_
      rw [if_pos hd1] at kJ
      exact kJ
    · refine aw_iconst (pc := 47) C (v := 1) dX3_importOne_47 rfl ?_
      refine aw_goto (pc := 48) C 52 dX3_importOne_48 rfl ?_
      rw [if_neg hd1] at kJ
      exact kJ
theorem ok_X3_importOne_j25 {l : Launch} {p : Program} {e : Env} {s : State} {m : MethodId} {args : Array Value} {below : List Frame} {meth : Method} {c : Code} {D : va_G} {cI cL : ClassId} {ad : Nat → Nat} (C : CX p l s m args meth c RX3 cX3_importOne 7 (some .int) D cI cL (AA ad s.heap.size)) (hex : ∀ x ∈ c.exceptionTable.toList, False) {r : ((String ⊕ Int32) × Mm)} {v1 : Int32} {v2 : Int32} {v3 : Int32} {v4 : Int32} {v5 : Int32} {s0 : Int32} {s1 : Int32} {s2 : Nat} {μ : Mm} (hs2 : isF s2) (h : X3_importOne_j25 v1 v2 v3 v4 v5 s0 s1 s2 μ = some r) : AV l p e s m args below meth c D cI cL ad 7 7 (rsI r.1) r.2 25 [(0, .ref (ad 0)), (1, .int v1), (2, .int v2), (3, .int v3), (4, .int v4), (5, .int v5)] [.int s0, .int s1, .ref (ad s2)] μ := by
  unfold X3_importOne_j25 at h
  refine aw_iconst (pc := 25) C (v := 0) dX3_importOne_25 rfl ?_
  refine aw_sub [0, 1, 2, 3, 4, 5] rfl ?_
  exact ok_X3_importOne_j26 C hex hs2 h
theorem ok_X3_importOne {l : Launch} (htr : l.stackTraces = false) {v1 : Int32} {v2 : Int32} {v3 : Int32} {v4 : Int32} {v5 : Int32} {μ : Mm} {r : ((String ⊕ Int32) × Mm)}  (h : X3_importOne v1 v2 v3 v4 v5 μ = some r) : MetX l yX3_importOne cX3_importOne 7 (some .int) 7 (fun ad => [.ref (ad 0), .int v1, .int v2, .int v3, .int v4, .int v5]) μ (rsI r.1) r.2 := by
  refine MetX.of htr (by decide) rfl (fun ad => Nat.le_of_ble_eq_true rfl) (fun p e s m args below meth c D cI cL ad C hex hw => ?_)
  show AV l p e s m args below meth c D cI cL ad 7 7 (rsI r.1) r.2 0 [(0, .ref (ad 0)), (1, .int v1), (2, .int v2), (3, .int v3), (4, .int v4), (5, .int v5)] [] μ
  unfold X3_importOne at h
  refine aw_aload_n (pc := 0) C dX3_importOne_0 rfl 0 rfl ?_
  refine aw_getNow (pc := 1) C q161 dX3_importOne_1 (fun hF1 => ?_)
  refine aw_iload_n (pc := 4) C dX3_importOne_4 rfl 1 rfl ?_
  refine aw_iload_n (pc := 5) C dX3_importOne_5 rfl 2 rfl ?_
  refine aw_iload_n (pc := 6) C dX3_importOne_6 rfl 3 rfl ?_
  obtain ⟨q3, hq2, h⟩ := bi_some h
  refine aw_Si (pc := 7) (Bs := [.int v3]) C (ok_X3_isName C.tr hq2) kv_X3_isName q520 rfl rfl dX3_importOne_7 ⟨(show 1 ≤ 7 by decide), (show 20 ≤ 217 by decide)⟩ ⟨Nat.zero_le _, Nat.zero_le _⟩ [.int v2, .int v1, .ref (ad (mNow μ))] (Nat.le_of_ble_eq_true rfl) rfl ?_
  refine aw_if_eq (pc := 10) C 25 dX3_importOne_10 rfl (fun hc => ?_) (fun hc => ?_)
  · replace h := ite_T h hc
    refine aw_sub [0, 1, 2, 3, 4, 5] rfl ?_
    exact ok_X3_importOne_j25 C hex hF1 h
  · replace h := ite_F h hc
    refine aw_iload (pc := 13) C dX3_importOne_13 4 rfl ?_
    obtain ⟨q19, hq18, h⟩ := bi_some h
    refine aw_Si (pc := 15) (Bs := [.int v4]) C (ok_X3_isName C.tr hq18) kv_X3_isName q520 rfl rfl dX3_importOne_15 ⟨(show 1 ≤ 7 by decide), (show 20 ≤ 217 by decide)⟩ ⟨Nat.zero_le _, Nat.zero_le _⟩ [.int v2, .int v1, .ref (ad (mNow μ))] (Nat.le_of_ble_eq_true rfl) rfl ?_
    have kJ : AV l p e s m args below meth c D cI cL ad 7 7 (rsI r.1) r.2 26 [(0, .ref (ad 0)), (1, .int v1), (2, .int v2), (3, .int v3), (4, .int v4), (5, .int v5)] [.int (if q19 = 0 then (0 : Int32) else 1), .int v2, .int v1, .ref (ad (mNow μ))] μ := by
      obtain ⟨q21, hq20, h⟩ := bi_some h
      refine aw_Vi (pc := 26) (a := (mNow μ)) (Bs := [.int v1, .int v2, .int (if q19 = 0 then (0 : Int32) else 1)]) C (ok_X0_refusalOfImport C.tr hF1 hq20) kv_X0_refusalOfImport q521 (kdF hF1) rfl rfl rfl dX3_importOne_26 ⟨(show 2 ≤ 7 by decide), (show 54 ≤ 217 by decide)⟩ ⟨Nat.zero_le _, Nat.zero_le _⟩ [] (Nat.le_of_ble_eq_true rfl) rfl ?_
      obtain ⟨y25, hq22, h⟩ := bi_some h
      rcases y25 with E24 | q23
      · rw [thr_l] at h
        cases h
        exact aw_callST (pc := 29) (Bs := [.int q21]) (rest := []) C hex (ok_X3_throwIfRefused C.tr (r := .inl E24) hq22) kv_X3_throwIfRefused q465 rfl rfl (Nat.le_of_ble_eq_true rfl) dX3_importOne_29 ⟨(show 7 ≤ 7 by decide), (show 206 ≤ 217 by decide)⟩ ⟨Nat.le_refl _, Nat.le_refl _⟩ rfl
      · rw [thr_r] at h
        refine aw_Sv (pc := 29) (Bs := [.int q21]) C (ok_X3_throwIfRefused C.tr (r := .inr q23) hq22) kv_X3_throwIfRefused q465 rfl rfl dX3_importOne_29 ⟨(show 7 ≤ 7 by decide), (show 206 ≤ 217 by decide)⟩ ⟨Nat.zero_le _, Nat.zero_le _⟩ [] (Nat.le_of_ble_eq_true rfl) rfl ?_
        refine aw_aload_n (pc := 32) C dX3_importOne_32 rfl 0 rfl ?_
        refine aw_getNow (pc := 33) C q161 dX3_importOne_33 (fun hF26 => ?_)
        refine aw_iload_n (pc := 36) C dX3_importOne_36 rfl 1 rfl ?_
        refine aw_iload_n (pc := 37) C dX3_importOne_37 rfl 2 rfl ?_
        refine aw_iload_n (pc := 38) C dX3_importOne_38 rfl 3 rfl ?_
        refine aw_iload (pc := 39) C dX3_importOne_39 4 rfl ?_
        refine aw_iconst (pc := 41) C (v := 0) dX3_importOne_41 rfl ?_
        refine aw_iload (pc := 42) C dX3_importOne_42 5 rfl ?_
        have kJ : AV l p e s m args below meth c D cI cL ad 7 7 (rsI r.1) r.2 52 [(0, .ref (ad 0)), (1, .int v1), (2, .int v2), (3, .int v3), (4, .int v4), (5, .int v5)] [.int (if v5 = 0 then (0 : Int32) else 1), .int 0, .int v4, .int v3, .int v2, .int v1, .ref (ad (mNow μ))] μ := by
          obtain ⟨q28, μ29, hq27, h⟩ := bn_some h
          refine aw_Vi (pc := 52) (a := (mNow μ)) (Bs := [.int v1, .int v2, .int v3, .int v4, .int 0, .int (if v5 = 0 then (0 : Int32) else 1)]) C (ok_X0_putImport C.tr hF26 hq27) kv_X0_putImport q525 (kdF hF26) rfl rfl rfl dX3_importOne_52 ⟨(show 1 ≤ 7 by decide), (show 26 ≤ 217 by decide)⟩ ⟨Nat.zero_le _, Nat.zero_le _⟩ [] (Nat.le_of_ble_eq_true rfl) rfl ?_
          refine aw_istore (pc := 55) C (x := q28) (lv' := [(6, .int q28), (0, .ref (ad 0)), (1, .int v1), (2, .int v2), (3, .int v3), (4, .int v4), (5, .int v5)]) dX3_importOne_55 (by decide) rfl rfl ?_
          refine aw_aload_n (pc := 57) C dX3_importOne_57 rfl 1 rfl ?_
          refine aw_getNow (pc := 58) C q161 dX3_importOne_58 (fun hF30 => ?_)
          obtain ⟨μ33, hq31, h⟩ := bi_some h
          refine aw_Vv (pc := 61) (a := (mNow μ29)) (Bs := []) C (ok_X0_settle C.tr hF30 hq31) kv_X0_settle q178 (kdF hF30) rfl rfl rfl dX3_importOne_61 ⟨(show 3 ≤ 7 by decide), (show 82 ≤ 217 by decide)⟩ ⟨Nat.zero_le _, Nat.zero_le _⟩ [] (Nat.le_of_ble_eq_true rfl) rfl ?_
          refine aw_iload (pc := 64) C dX3_importOne_64 0 rfl ?_
          cases h
          exact aw_iret (pc := 66) C dX3_importOne_66
        refine aw_if_eq (pc := 44) C 51 dX3_importOne_44 rfl (fun hd1 => ?_) (fun hd1 => ?_)
        · refine aw_iconst (pc := 51) C (v := 0) dX3_importOne_51 rfl ?_
          rw [if_pos hd1] at kJ
          exact kJ
        · refine aw_iconst (pc := 47) C (v := 1) dX3_importOne_47 rfl ?_
          refine aw_goto (pc := 48) C 52 dX3_importOne_48 rfl ?_
          rw [if_neg hd1] at kJ
          exact kJ
    refine aw_if_eq (pc := 18) C 25 dX3_importOne_18 rfl (fun hd1 => ?_) (fun hd1 => ?_)
    · refine aw_iconst (pc := 25) C (v := 0) dX3_importOne_25 rfl ?_
      rw [if_pos hd1] at kJ
      exact kJ
    · refine aw_iconst (pc := 21) C (v := 1) dX3_importOne_21 rfl ?_
      refine aw_goto (pc := 22) C 26 dX3_importOne_22 rfl ?_
      rw [if_neg hd1] at kJ
      exact kJ
/-! ### NameScopes.load()I -/
theorem ok_X3_load {l : Launch} (htr : l.stackTraces = false) {μ : Mm} {r : ((String ⊕ Int32) × Mm)}  (h : X3_load μ = some r) : MetX l yX3_load cX3_load 2 (some .int) 6 (fun ad => [.ref (ad 0)]) μ (rsI r.1) r.2 := by
  refine MetX.of htr (by decide) rfl (fun ad => Nat.le_of_ble_eq_true rfl) (fun p e s m args below meth c D cI cL ad C hex hw => ?_)
  show AV l p e s m args below meth c D cI cL ad 6 2 (rsI r.1) r.2 0 [(0, .ref (ad 0))] [] μ
  unfold X3_load at h
  refine aw_aload_n (pc := 0) C dX3_load_0 rfl 0 rfl ?_
  refine aw_get (pc := 1) C (a := 0) (k := 0) (v := .ref (ad 1)) inX3 rfl rfl (by decide) q160 dX3_load_1 rfl ?_
  obtain ⟨q2, hq1, h⟩ := bi_some h
  refine aw_Vi (pc := 4) (a := 1) (Bs := []) C (ok_X2_isComplete C.tr hq1) kv_X2_isComplete q599 rfl rfl rfl rfl dX3_load_4 ⟨(show 3 ≤ 6 by decide), (show 84 ≤ 186 by decide)⟩ ⟨Nat.zero_le _, Nat.zero_le _⟩ [] (Nat.le_of_ble_eq_true rfl) rfl ?_
  refine aw_if_ne (pc := 7) C 20 dX3_load_7 rfl (fun hc => ?_) (fun hc => ?_)
  · replace h := ite_F h hc
    refine aw_aload_n (pc := 20) C dX3_load_20 rfl 0 rfl ?_
    refine aw_getOth (pc := 21) C q162 dX3_load_21 (fun hF3 => ?_)
    refine aw_aload_n (pc := 24) C dX3_load_24 rfl 0 rfl ?_
    refine aw_getNow (pc := 25) C q161 dX3_load_25 (fun hF4 => ?_)
    obtain ⟨μ7, hq5, h⟩ := bi_some h
    refine aw_Vv (pc := 28) (a := (mOth μ)) (Bs := [.ref (ad (mNow μ))]) C (ok_X0_copyFrom C.tr hF3 hF4 hq5) kv_X0_copyFrom q356 (kdF hF3) rfl rfl rfl dX3_load_28 ⟨(show 3 ≤ 6 by decide), (show 83 ≤ 186 by decide)⟩ ⟨Nat.zero_le _, Nat.zero_le _⟩ [] (Nat.le_of_ble_eq_true rfl) rfl ?_
    refine aw_aload_n (pc := 31) C dX3_load_31 rfl 0 rfl ?_
    refine aw_get (pc := 32) C (a := 0) (k := 0) (v := .ref (ad 1)) inX3 rfl rfl (by decide) q160 dX3_load_32 rfl ?_
    refine aw_aload_n (pc := 35) C dX3_load_35 rfl 0 rfl ?_
    refine aw_getOth (pc := 36) C q162 dX3_load_36 (fun hF8 => ?_)
    obtain ⟨q10, μ11, hq9, h⟩ := bn_some h
    refine aw_Vi (pc := 39) (a := 1) (Bs := [.ref (ad (mOth μ7))]) C (ok_X2_putItems C.tr hF8 hq9) kv_X2_putItems q604 rfl rfl rfl rfl dX3_load_39 ⟨(show 5 ≤ 6 by decide), (show 148 ≤ 186 by decide)⟩ ⟨Nat.zero_le _, Nat.zero_le _⟩ [] (Nat.le_of_ble_eq_true rfl) rfl ?_
    refine aw_istore_n (pc := 42) C (x := q10) (lv' := [(1, .int q10), (0, .ref (ad 0))]) dX3_load_42 rfl (by decide) rfl rfl ?_
    refine aw_iload_n (pc := 43) C dX3_load_43 rfl 0 rfl ?_
    refine aw_iconst (pc := 44) C (v := (-1)) dX3_load_44 rfl ?_
    refine aw_icmp_ne (pc := 45) C 58 dX3_load_45 rfl (fun hc => ?_) (fun hc => ?_)
    · replace h := ite_F h hc
      refine aw_aload_n (pc := 58) C dX3_load_58 rfl 1 rfl ?_
      refine aw_getOth (pc := 59) C q162 dX3_load_59 (fun hF12 => ?_)
      obtain ⟨μ15, hq13, h⟩ := bi_some h
      refine aw_Vv (pc := 62) (a := (mOth μ11)) (Bs := []) C (ok_X0_settle C.tr hF12 hq13) kv_X0_settle q178 (kdF hF12) rfl rfl rfl dX3_load_62 ⟨(show 3 ≤ 6 by decide), (show 82 ≤ 186 by decide)⟩ ⟨Nat.zero_le _, Nat.zero_le _⟩ [] (Nat.le_of_ble_eq_true rfl) rfl ?_
      refine aw_aload_n (pc := 65) C dX3_load_65 rfl 1 rfl ?_
      obtain ⟨μ18, hq16, h⟩ := bi_some h
      refine aw_Vv (pc := 66) (a := 0) (Bs := []) C (ok_X3_exchange C.tr hq16) kv_X3_exchange q567 rfl rfl rfl rfl dX3_load_66 ⟨(show 1 ≤ 6 by decide), (show 21 ≤ 186 by decide)⟩ ⟨Nat.zero_le _, Nat.zero_le _⟩ [] (Nat.le_of_ble_eq_true rfl) rfl ?_
      refine aw_aload_n (pc := 69) C dX3_load_69 rfl 1 rfl ?_
      refine aw_get (pc := 70) C (a := 0) (k := 0) (v := .ref (ad 1)) inX3 rfl rfl (by decide) q160 dX3_load_70 rfl ?_
      refine aw_iconst (pc := 73) C (v := 0) dX3_load_73 rfl ?_
      obtain ⟨μ19, eμ19, h⟩ := bd_some h
      refine aw_putIN (pc := 74) C (a := 1) (k := 1) (ty := .int) inX2 tyX2 tyX2_ok nmX2 rfl rfl (by decide) q32 rfl (by decide +kernel) rfl rfl (by show 1 < 2; decide) dX3_load_74 fl_2_1 eμ19 ?_
      refine aw_iload_n (pc := 77) C dX3_load_77 rfl 0 rfl ?_
      cases h
      exact aw_iret (pc := 78) C dX3_load_78
    · replace h := ite_T h hc
      cases h
      exact aw_throw (pc := 48) C hex okt_109_135_113 dX3_load_48 dX3_load_51 dX3_load_52 dX3_load_54 dX3_load_57 (show 5 < 6 by decide) (show 82 ≤ 186 by decide) (Nat.le_refl _) (Nat.le_refl _)
  · replace h := ite_T h hc
    cases h
    exact aw_throw (pc := 10) C hex okt_99_125_103 dX3_load_10 dX3_load_13 dX3_load_14 dX3_load_16 dX3_load_19 (show 5 < 6 by decide) (show 82 ≤ 186 by decide) (Nat.le_refl _) (Nat.le_refl _)
/-! ### NameScopes.offers(II)I -/
theorem ok_X3_offers {l : Launch} (htr : l.stackTraces = false) {v1 : Int32} {v2 : Int32} {μ : Mm} {r : (String ⊕ Int32)}  (h : X3_offers v1 v2 μ = some r) : MetX l yX3_offers cX3_offers 3 (some .int) 7 (fun ad => [.ref (ad 0), .int v1, .int v2]) μ (rsI r) μ := by
  refine MetX.of htr (by decide) rfl (fun ad => Nat.le_of_ble_eq_true rfl) (fun p e s m args below meth c D cI cL ad C hex hw => ?_)
  show AV l p e s m args below meth c D cI cL ad 7 3 (rsI r) μ 0 [(0, .ref (ad 0)), (1, .int v1), (2, .int v2)] [] μ
  unfold X3_offers at h
  refine aw_iload_n (pc := 0) C dX3_offers_0 rfl 1 rfl ?_
  refine aw_aload_n (pc := 1) C dX3_offers_1 rfl 0 rfl ?_
  refine aw_getNow (pc := 2) C q161 dX3_offers_2 (fun hF1 => ?_)
  refine aw_getN (pc := 5) C (a := (mNow μ)) (k := 0) (v := .int (μ.1 (mNow μ) 0)) inX0 (kdF hF1) rfl (by decide) q77 dX3_offers_5 rfl ?_
  obtain ⟨y5, hq2, h⟩ := bi_some h
  rcases y5 with E4 | q3
  · rw [thr_l] at h
    cases h
    exact aw_callST (pc := 8) (Bs := [.int v1, .int (μ.1 (mNow μ) 0)]) (rest := []) C hex (ok_X3_needIndex C.tr (r := .inl E4) hq2) kv_X3_needIndex q391 rfl rfl (Nat.le_of_ble_eq_true rfl) dX3_offers_8 ⟨(show 7 ≤ 7 by decide), (show 207 ≤ 217 by decide)⟩ ⟨Nat.le_refl _, Nat.le_refl _⟩ rfl
  · rw [thr_r] at h
    refine aw_Sv (pc := 8) (Bs := [.int v1, .int (μ.1 (mNow μ) 0)]) C (ok_X3_needIndex C.tr (r := .inr q3) hq2) kv_X3_needIndex q391 rfl rfl dX3_offers_8 ⟨(show 7 ≤ 7 by decide), (show 207 ≤ 217 by decide)⟩ ⟨Nat.zero_le _, Nat.zero_le _⟩ [] (Nat.le_of_ble_eq_true rfl) rfl ?_
    refine aw_iload_n (pc := 11) C dX3_offers_11 rfl 2 rfl ?_
    refine aw_bipush (pc := 12) C (v := 26) dX3_offers_12 rfl ?_
    obtain ⟨y9, hq6, h⟩ := bi_some h
    rcases y9 with E8 | q7
    · rw [thr_l] at h
      cases h
      exact aw_callST (pc := 14) (Bs := [.int v2, .int 26]) (rest := []) C hex (ok_X3_needBelow C.tr (r := .inl E8) hq6) kv_X3_needBelow q269 rfl rfl (Nat.le_of_ble_eq_true rfl) dX3_offers_14 ⟨(show 7 ≤ 7 by decide), (show 207 ≤ 217 by decide)⟩ ⟨Nat.le_refl _, Nat.le_refl _⟩ rfl
    · rw [thr_r] at h
      refine aw_Sv (pc := 14) (Bs := [.int v2, .int 26]) C (ok_X3_needBelow C.tr (r := .inr q7) hq6) kv_X3_needBelow q269 rfl rfl dX3_offers_14 ⟨(show 7 ≤ 7 by decide), (show 207 ≤ 217 by decide)⟩ ⟨Nat.zero_le _, Nat.zero_le _⟩ [] (Nat.le_of_ble_eq_true rfl) rfl ?_
      refine aw_aload_n (pc := 17) C dX3_offers_17 rfl 0 rfl ?_
      refine aw_getNow (pc := 18) C q161 dX3_offers_18 (fun hF10 => ?_)
      refine aw_getN (pc := 21) C (a := (mNow μ)) (k := 17) (v := .ref (ad ((mNow μ) + 14))) inX0 (kdF hF10) rfl (by decide) q122 dX3_offers_21 rfl ?_
      refine aw_getN (pc := 24) C (a := ((mNow μ) + 14)) (k := 0) (v := .ref (ad (((mNow μ) + 14) + 1))) inX1 (kdL_ (isFL hF10)) rfl (by decide) q52 dX3_offers_24 rfl ?_
      refine aw_iload_n (pc := 27) C dX3_offers_27 rfl 1 rfl ?_
      refine aw_bipush (pc := 28) C (v := 26) dX3_offers_28 rfl ?_
      refine aw_imul (pc := 30) C dX3_offers_30 ?_
      refine aw_iload_n (pc := 31) C dX3_offers_31 rfl 2 rfl ?_
      refine aw_iadd (pc := 32) C dX3_offers_32 ?_
      obtain ⟨g11, h⟩ := ck_some h
      refine aw_iaload (pc := 33) C (a := (((mNow μ) + 14) + 1)) ((kdLk (k := 1) (isFL hF10) rfl rfl)) g11 dX3_offers_33 ?_
      obtain ⟨q13, hq12, h⟩ := bi_some h
      refine aw_Si (pc := 34) (Bs := [.int (μ.1 (((mNow μ) + 14) + 1) (((v1 * 26) + v2) : Int32).toNatClampNeg)]) C (ok_J6_bitCount_0f7a4 C.tr hq12) kv_J6_bitCount_0f7a4 q415 rfl rfl dX3_offers_34 ⟨(show 1 ≤ 7 by decide), (show 20 ≤ 217 by decide)⟩ ⟨Nat.zero_le _, Nat.zero_le _⟩ [] (Nat.le_of_ble_eq_true rfl) rfl ?_
      cases h
      exact aw_iret (pc := 37) C dX3_offers_37
/-! ### NameScopes.removeDeclaration(I)I -/
theorem ok_X3_removeDeclaration_j111 {l : Launch} {p : Program} {e : Env} {s : State} {m : MethodId} {args : Array Value} {below : List Frame} {meth : Method} {c : Code} {D : va_G} {cI cL : ClassId} {ad : Nat → Nat} (C : CX p l s m args meth c RX3 cX3_removeDeclaration 8 (some .int) D cI cL (AA ad s.heap.size)) (hex : ∀ x ∈ c.exceptionTable.toList, False) {r : (Int32 × Mm)} {v1 : Int32} {k37 : Int32 → Int32 → Int32 → Mm → Option (Int32 × Mm)} (hk37 : ∀ (v2 : Int32) (v3 : Int32) (v4 : Int32) (μ : Mm), k37 v2 v3 v4 μ = some r → AV l p e s m args below meth c D cI cL ad 4 8 (.inr (some (.int r.1))) r.2 37 [(0, .ref (ad 0)), (1, .int v1), (2, .int v2), (3, .int v3), (4, .int v4)] [] μ) {v3 : Int32} {v4 : Int32} {s0 : Int32} {μ : Mm}  (h : X3_removeDeclaration_j111 v1 k37 v3 v4 s0 μ = some r) : AV l p e s m args below meth c D cI cL ad 4 8 (.inr (some (.int r.1))) r.2 111 [(0, .ref (ad 0)), (1, .int v1), (3, .int v3), (4, .int v4)] [.int s0] μ := by
  unfold X3_removeDeclaration_j111 at h
  refine aw_iconst (pc := 111) C (v := 1) dX3_removeDeclaration_111 rfl ?_
  refine aw_goto (pc := 112) C 116 dX3_removeDeclaration_112 rfl ?_
  refine aw_iadd (pc := 116) C dX3_removeDeclaration_116 ?_
  obtain ⟨x24, ex24, h⟩ := bd_some h
  refine aw_istore_n (pc := 117) C (x := x24) (lv' := [(2, .int x24), (0, .ref (ad 0)), (1, .int v1), (3, .int v3), (4, .int v4)]) dX3_removeDeclaration_117 rfl (by decide) ex24 rfl ?_
  refine aw_iinc (pc := 118) C (v := (v4 + 1)) (lv' := [(4, .int (v4 + 1)), (2, .int x24), (0, .ref (ad 0)), (1, .int v1), (3, .int v3)]) dX3_removeDeclaration_118 4 rfl (by decide) rfl rfl ?_
  refine aw_goto (pc := 121) C 37 dX3_removeDeclaration_121 rfl ?_
  refine aw_sub [2, 3, 1, 4, 0] rfl ?_
  exact hk37 x24 v3 (v4 + 1) μ h
theorem ok_X3_removeDeclaration_l37 {l : Launch} {p : Program} {e : Env} {s : State} {m : MethodId} {args : Array Value} {below : List Frame} {meth : Method} {c : Code} {D : va_G} {cI cL : ClassId} {ad : Nat → Nat} (C : CX p l s m args meth c RX3 cX3_removeDeclaration 8 (some .int) D cI cL (AA ad s.heap.size)) (hex : ∀ x ∈ c.exceptionTable.toList, False) {r : (Int32 × Mm)} {v1 : Int32} {k37 : Int32 → Int32 → Int32 → Mm → Option (Int32 × Mm)} (hk37 : ∀ (v2 : Int32) (v3 : Int32) (v4 : Int32) (μ : Mm), k37 v2 v3 v4 μ = some r → AV l p e s m args below meth c D cI cL ad 4 8 (.inr (some (.int r.1))) r.2 37 [(0, .ref (ad 0)), (1, .int v1), (2, .int v2), (3, .int v3), (4, .int v4)] [] μ) {v2 : Int32} {v3 : Int32} {v4 : Int32} {μ : Mm}  (h : X3_removeDeclaration_l37 v1 k37 v2 v3 v4 μ = some r) : AV l p e s m args below meth c D cI cL ad 4 8 (.inr (some (.int r.1))) r.2 37 [(0, .ref (ad 0)), (1, .int v1), (2, .int v2), (3, .int v3), (4, .int v4)] [] μ := by
  unfold X3_removeDeclaration_l37 at h
  refine aw_iload (pc := 37) C dX3_removeDeclaration_37 4 rfl ?_
  refine aw_aload_n (pc := 39) C dX3_removeDeclaration_39 rfl 0 rfl ?_
  refine aw_getNow (pc := 40) C q161 dX3_removeDeclaration_40 (fun hF15 => ?_)
  refine aw_getN (pc := 43) C (a := (mNow μ)) (k := 13) (v := .int (μ.1 (mNow μ) 13)) inX0 (kdF hF15) rfl (by decide) q114 dX3_removeDeclaration_43 rfl ?_
  refine aw_icmp_ge (pc := 46) C 124 dX3_removeDeclaration_46 rfl (fun hc => ?_) (fun hc => ?_)
  · replace h := ite_T h hc
    refine aw_aload_n (pc := 124) C dX3_removeDeclaration_124 rfl 0 rfl ?_
    obtain ⟨μ18, hq16, h⟩ := bi_some h
    refine aw_Vv (pc := 125) (a := 0) (Bs := []) C (ok_X3_exchange C.tr hq16) kv_X3_exchange q567 rfl rfl rfl rfl dX3_removeDeclaration_125 ⟨(show 1 ≤ 4 by decide), (show 21 ≤ 124 by decide)⟩ ⟨Nat.zero_le _, Nat.zero_le _⟩ [] (Nat.le_of_ble_eq_true rfl) rfl ?_
    refine aw_iload_n (pc := 128) C dX3_removeDeclaration_128 rfl 2 rfl ?_
    cases h
    exact aw_iret (pc := 129) C dX3_removeDeclaration_129
  · replace h := ite_F h hc
    refine aw_aload_n (pc := 49) C dX3_removeDeclaration_49 rfl 0 rfl ?_
    refine aw_getNow (pc := 50) C q161 dX3_removeDeclaration_50 (fun hF19 => ?_)
    refine aw_iload (pc := 53) C dX3_removeDeclaration_53 4 rfl ?_
    obtain ⟨q21, hq20, h⟩ := bi_some h
    refine aw_Vi (pc := 55) (a := (mNow μ)) (Bs := [.int v4]) C (ok_X0_outcome C.tr hF19 hq20) kv_X0_outcome q370 (kdF hF19) rfl rfl rfl dX3_removeDeclaration_55 ⟨(show 2 ≤ 4 by decide), (show 52 ≤ 124 by decide)⟩ ⟨Nat.zero_le _, Nat.zero_le _⟩ [] (Nat.le_of_ble_eq_true rfl) rfl ?_
    refine aw_istore (pc := 58) C (x := q21) (lv' := [(5, .int q21), (0, .ref (ad 0)), (1, .int v1), (2, .int v2), (3, .int v3), (4, .int v4)]) dX3_removeDeclaration_58 (by decide) rfl rfl ?_
    refine aw_iload (pc := 60) C dX3_removeDeclaration_60 0 rfl ?_
    refine aw_iload_n (pc := 62) C dX3_removeDeclaration_62 rfl 4 rfl ?_
    refine aw_iand (pc := 63) C dX3_removeDeclaration_63 ?_
    refine aw_iload (pc := 64) C dX3_removeDeclaration_64 0 rfl ?_
    refine aw_iconst (pc := 66) C (v := 1) dX3_removeDeclaration_66 rfl ?_
    refine aw_ishr (pc := 67) C dX3_removeDeclaration_67 ?_
    refine aw_iload_n (pc := 68) C dX3_removeDeclaration_68 rfl 4 rfl ?_
    refine aw_iconst (pc := 69) C (v := (-1)) dX3_removeDeclaration_69 rfl ?_
    refine aw_ixor (pc := 70) C dX3_removeDeclaration_70 ?_
    refine aw_iand (pc := 71) C dX3_removeDeclaration_71 ?_
    refine aw_ior (pc := 72) C dX3_removeDeclaration_72 ?_
    obtain ⟨x22, ex22, h⟩ := bd_some h
    refine aw_istore (pc := 73) C (x := x22) (lv' := [(6, .int x22), (5, .int q21), (0, .ref (ad 0)), (1, .int v1), (2, .int v2), (3, .int v3), (4, .int v4)]) dX3_removeDeclaration_73 (by decide) ex22 rfl ?_
    refine aw_iload (pc := 75) C dX3_removeDeclaration_75 1 rfl ?_
    refine aw_iload_n (pc := 77) C dX3_removeDeclaration_77 rfl 3 rfl ?_
    refine aw_ishr (pc := 78) C dX3_removeDeclaration_78 ?_
    refine aw_iconst (pc := 79) C (v := 1) dX3_removeDeclaration_79 rfl ?_
    refine aw_iand (pc := 80) C dX3_removeDeclaration_80 ?_
    have kJ : AV l p e s m args below meth c D cI cL ad 4 8 (.inr (some (.int r.1))) r.2 89 [(6, .int x22), (5, .int q21), (0, .ref (ad 0)), (1, .int v1), (2, .int v2), (3, .int v3), (4, .int v4)] [.int (if ((q21 >>> (v1 &&& 31)) &&& 1) = 0 then (0 : Int32) else 1)] μ := by
      obtain ⟨x23, ex23, h⟩ := bd_some h
      refine aw_istore (pc := 89) C (x := x23) (lv' := [(7, .int x23), (6, .int x22), (5, .int q21), (0, .ref (ad 0)), (1, .int v1), (2, .int v2), (3, .int v3), (4, .int v4)]) dX3_removeDeclaration_89 (by decide) ex23 rfl ?_
      refine aw_iload_n (pc := 91) C dX3_removeDeclaration_91 rfl 5 rfl ?_
      refine aw_iload (pc := 92) C dX3_removeDeclaration_92 0 rfl ?_
      refine aw_if_ne (pc := 94) C 111 dX3_removeDeclaration_94 rfl (fun hc => ?_) (fun hc => ?_)
      · replace h := ite_F h hc
        refine aw_sub [3, 4, 6, 7] rfl ?_
        exact ok_X3_removeDeclaration_j111 C hex hk37 h
      · replace h := ite_T h hc
        refine aw_iload (pc := 97) C dX3_removeDeclaration_97 1 rfl ?_
        refine aw_aload_n (pc := 99) C dX3_removeDeclaration_99 rfl 3 rfl ?_
        refine aw_getOth (pc := 100) C q162 dX3_removeDeclaration_100 (fun hF25 => ?_)
        refine aw_iload (pc := 103) C dX3_removeDeclaration_103 7 rfl ?_
        obtain ⟨q27, hq26, h⟩ := bi_some h
        refine aw_Vi (pc := 105) (a := (mOth μ)) (Bs := [.int v4]) C (ok_X0_outcome C.tr hF25 hq26) kv_X0_outcome q370 (kdF hF25) rfl rfl rfl dX3_removeDeclaration_105 ⟨(show 2 ≤ 4 by decide), (show 52 ≤ 124 by decide)⟩ ⟨Nat.zero_le _, Nat.zero_le _⟩ [.int x22, .int v2] (Nat.le_of_ble_eq_true rfl) rfl ?_
        have kJ : AV l p e s m args below meth c D cI cL ad 4 8 (.inr (some (.int r.1))) r.2 116 [(7, .int x23), (6, .int x22), (5, .int q21), (0, .ref (ad 0)), (1, .int v1), (2, .int v2), (3, .int v3), (4, .int v4)] [.int (if x22 = q27 then (0 : Int32) else 1), .int v2] μ := by
          refine aw_iadd (pc := 116) C dX3_removeDeclaration_116 ?_
          obtain ⟨x28, ex28, h⟩ := bd_some h
          refine aw_istore_n (pc := 117) C (x := x28) (lv' := [(2, .int x28), (7, .int x23), (6, .int x22), (5, .int q21), (0, .ref (ad 0)), (1, .int v1), (3, .int v3), (4, .int v4)]) dX3_removeDeclaration_117 rfl (by decide) ex28 rfl ?_
          refine aw_iinc (pc := 118) C (v := (v4 + 1)) (lv' := [(4, .int (v4 + 1)), (2, .int x28), (7, .int x23), (6, .int x22), (5, .int q21), (0, .ref (ad 0)), (1, .int v1), (3, .int v3)]) dX3_removeDeclaration_118 7 rfl (by decide) rfl rfl ?_
          refine aw_goto (pc := 121) C 37 dX3_removeDeclaration_121 rfl ?_
          refine aw_sub [5, 6, 1, 7, 0] rfl ?_
          exact hk37 x28 v3 (v4 + 1) μ h
        refine aw_icmp_eq (pc := 108) C 115 dX3_removeDeclaration_108 rfl (fun hd1 => ?_) (fun hd1 => ?_)
        · refine aw_iconst (pc := 115) C (v := 0) dX3_removeDeclaration_115 rfl ?_
          rw [if_pos hd1] at kJ
          exact kJ
        · refine aw_iconst (pc := 111) C (v := 1) dX3_removeDeclaration_111 rfl ?_
          refine aw_goto (pc := 112) C 116 dX3_removeDeclaration_112 rfl ?_
          rw [if_neg hd1] at kJ
          exact kJ
    refine aw_if_eq (pc := 81) C 88 dX3_removeDeclaration_81 rfl (fun hd1 => ?_) (fun hd1 => ?_)
    · refine aw_iconst (pc := 88) C (v := 0) dX3_removeDeclaration_88 rfl ?_
      rw [if_pos hd1] at kJ
      exact kJ
    · refine aw_iconst (pc := 84) C (v := 1) dX3_removeDeclaration_84 rfl ?_
      refine aw_goto (pc := 85) C 89 dX3_removeDeclaration_85 rfl ?_
      rw [if_neg hd1] at kJ
      exact kJ
theorem ok_X3_removeDeclaration_l37_w {l : Launch} {p : Program} {e : Env} {s : State} {m : MethodId} {args : Array Value} {below : List Frame} {meth : Method} {c : Code} {D : va_G} {cI cL : ClassId} {ad : Nat → Nat} (C : CX p l s m args meth c RX3 cX3_removeDeclaration 8 (some .int) D cI cL (AA ad s.heap.size)) (hex : ∀ x ∈ c.exceptionTable.toList, False) {r : (Int32 × Mm)} {v1 : Int32} : ∀ (n : Nat) (v2 : Int32) (v3 : Int32) (v4 : Int32) (μ : Mm) , itr (X3_removeDeclaration_l37 v1) (fun _ _ _ _ => none) n v2 v3 v4 μ = some r → AV l p e s m args below meth c D cI cL ad 4 8 (.inr (some (.int r.1))) r.2 37 [(0, .ref (ad 0)), (1, .int v1), (2, .int v2), (3, .int v3), (4, .int v4)] [] μ := by
  intro n
  induction n with
  | zero => intro v2 v3 v4 μ h; exact nomatch (show (none : Option (Int32 × Mm)) = some r from h)
  | succ n ih => intro v2 v3 v4 μ h; exact ok_X3_removeDeclaration_l37 C hex (v1 := v1) ih h
theorem ok_X3_removeDeclaration {l : Launch} (htr : l.stackTraces = false) {v1 : Int32} {μ : Mm} {r : (Int32 × Mm)}  (h : X3_removeDeclaration v1 μ = some r) : MetX l yX3_removeDeclaration cX3_removeDeclaration 8 (some .int) 4 (fun ad => [.ref (ad 0), .int v1]) μ (.inr (some (.int r.1))) r.2 := by
  refine MetX.of htr (by decide) rfl (fun ad => Nat.le_of_ble_eq_true rfl) (fun p e s m args below meth c D cI cL ad C hex hw => ?_)
  show AV l p e s m args below meth c D cI cL ad 4 8 (.inr (some (.int r.1))) r.2 0 [(0, .ref (ad 0)), (1, .int v1)] [] μ
  unfold X3_removeDeclaration at h
  refine aw_aload_n (pc := 0) C dX3_removeDeclaration_0 rfl 0 rfl ?_
  refine aw_getOth (pc := 1) C q162 dX3_removeDeclaration_1 (fun hF1 => ?_)
  refine aw_aload_n (pc := 4) C dX3_removeDeclaration_4 rfl 0 rfl ?_
  refine aw_getNow (pc := 5) C q161 dX3_removeDeclaration_5 (fun hF2 => ?_)
  obtain ⟨μ5, hq3, h⟩ := bi_some h
  refine aw_Vv (pc := 8) (a := (mOth μ)) (Bs := [.ref (ad (mNow μ))]) C (ok_X0_copyFrom C.tr hF1 hF2 hq3) kv_X0_copyFrom q356 (kdF hF1) rfl rfl rfl dX3_removeDeclaration_8 ⟨(show 3 ≤ 4 by decide), (show 83 ≤ 124 by decide)⟩ ⟨Nat.zero_le _, Nat.zero_le _⟩ [] (Nat.le_of_ble_eq_true rfl) rfl ?_
  refine aw_aload_n (pc := 11) C dX3_removeDeclaration_11 rfl 0 rfl ?_
  refine aw_getOth (pc := 12) C q162 dX3_removeDeclaration_12 (fun hF6 => ?_)
  refine aw_iload_n (pc := 15) C dX3_removeDeclaration_15 rfl 1 rfl ?_
  obtain ⟨μ9, hq7, h⟩ := bi_some h
  refine aw_Vv (pc := 16) (a := (mOth μ5)) (Bs := [.int v1]) C (ok_X0_dropDeclaration C.tr hF6 hq7) kv_X0_dropDeclaration q563 (kdF hF6) rfl rfl rfl dX3_removeDeclaration_16 ⟨(show 4 ≤ 4 by decide), (show 114 ≤ 124 by decide)⟩ ⟨Nat.zero_le _, Nat.zero_le _⟩ [] (Nat.le_of_ble_eq_true rfl) rfl ?_
  refine aw_aload_n (pc := 19) C dX3_removeDeclaration_19 rfl 0 rfl ?_
  refine aw_getOth (pc := 20) C q162 dX3_removeDeclaration_20 (fun hF10 => ?_)
  obtain ⟨μ13, hq11, h⟩ := bi_some h
  refine aw_Vv (pc := 23) (a := (mOth μ9)) (Bs := []) C (ok_X0_settle C.tr hF10 hq11) kv_X0_settle q178 (kdF hF10) rfl rfl rfl dX3_removeDeclaration_23 ⟨(show 3 ≤ 4 by decide), (show 82 ≤ 124 by decide)⟩ ⟨Nat.zero_le _, Nat.zero_le _⟩ [] (Nat.le_of_ble_eq_true rfl) rfl ?_
  refine aw_iconst (pc := 26) C (v := 0) dX3_removeDeclaration_26 rfl ?_
  refine aw_istore_n (pc := 27) C (x := 0) (lv' := [(2, .int 0), (0, .ref (ad 0)), (1, .int v1)]) dX3_removeDeclaration_27 rfl (by decide) rfl rfl ?_
  refine aw_iconst (pc := 28) C (v := 1) dX3_removeDeclaration_28 rfl ?_
  refine aw_iload_n (pc := 29) C dX3_removeDeclaration_29 rfl 2 rfl ?_
  refine aw_ishl (pc := 30) C dX3_removeDeclaration_30 ?_
  refine aw_iconst (pc := 31) C (v := 1) dX3_removeDeclaration_31 rfl ?_
  refine aw_isub (pc := 32) C dX3_removeDeclaration_32 ?_
  obtain ⟨x14, ex14, h⟩ := bd_some h
  refine aw_istore_n (pc := 33) C (x := x14) (lv' := [(3, .int x14), (2, .int 0), (0, .ref (ad 0)), (1, .int v1)]) dX3_removeDeclaration_33 rfl (by decide) ex14 rfl ?_
  refine aw_iconst (pc := 34) C (v := 0) dX3_removeDeclaration_34 rfl ?_
  refine aw_istore (pc := 35) C (x := 0) (lv' := [(4, .int 0), (3, .int x14), (2, .int 0), (0, .ref (ad 0)), (1, .int v1)]) dX3_removeDeclaration_35 (by decide) rfl rfl ?_
  refine aw_sub [3, 4, 2, 1, 0] rfl ?_
  exact ok_X3_removeDeclaration_l37_w C hex big 0 x14 0 μ13 h
/-! ### NameScopes.removeImport(I)I -/
theorem ok_X3_removeImport {l : Launch} (htr : l.stackTraces = false) {v1 : Int32} {μ : Mm} {r : (Int32 × Mm)}  (h : X3_removeImport v1 μ = some r) : MetX l yX3_removeImport cX3_removeImport 3 (some .int) 5 (fun ad => [.ref (ad 0), .int v1]) μ (.inr (some (.int r.1))) r.2 := by
  refine MetX.of htr (by decide) rfl (fun ad => Nat.le_of_ble_eq_true rfl) (fun p e s m args below meth c D cI cL ad C hex hw => ?_)
  show AV l p e s m args below meth c D cI cL ad 5 3 (.inr (some (.int r.1))) r.2 0 [(0, .ref (ad 0)), (1, .int v1)] [] μ
  unfold X3_removeImport at h
  refine aw_aload_n (pc := 0) C dX3_removeImport_0 rfl 0 rfl ?_
  refine aw_iload_n (pc := 1) C dX3_removeImport_1 rfl 1 rfl ?_
  obtain ⟨q2, μ3, hq1, h⟩ := bn_some h
  refine aw_Vi (pc := 2) (a := 0) (Bs := [.int v1]) C (ok_X3_lossWithout C.tr hq1) kv_X3_lossWithout q348 rfl rfl rfl rfl dX3_removeImport_2 ⟨(show 5 ≤ 5 by decide), (show 147 ≤ 155 by decide)⟩ ⟨Nat.zero_le _, Nat.zero_le _⟩ [] (Nat.le_of_ble_eq_true rfl) rfl ?_
  refine aw_istore_n (pc := 5) C (x := q2) (lv' := [(2, .int q2), (0, .ref (ad 0)), (1, .int v1)]) dX3_removeImport_5 rfl (by decide) rfl rfl ?_
  refine aw_aload_n (pc := 6) C dX3_removeImport_6 rfl 1 rfl ?_
  refine aw_getNow (pc := 7) C q161 dX3_removeImport_7 (fun hF4 => ?_)
  refine aw_iload_n (pc := 10) C dX3_removeImport_10 rfl 2 rfl ?_
  obtain ⟨μ7, hq5, h⟩ := bi_some h
  refine aw_Vv (pc := 11) (a := (mNow μ3)) (Bs := [.int v1]) C (ok_X0_dropImport C.tr hF4 hq5) kv_X0_dropImport q363 (kdF hF4) rfl rfl rfl dX3_removeImport_11 ⟨(show 4 ≤ 5 by decide), (show 114 ≤ 155 by decide)⟩ ⟨Nat.zero_le _, Nat.zero_le _⟩ [] (Nat.le_of_ble_eq_true rfl) rfl ?_
  refine aw_aload_n (pc := 14) C dX3_removeImport_14 rfl 1 rfl ?_
  refine aw_getNow (pc := 15) C q161 dX3_removeImport_15 (fun hF8 => ?_)
  obtain ⟨μ11, hq9, h⟩ := bi_some h
  refine aw_Vv (pc := 18) (a := (mNow μ7)) (Bs := []) C (ok_X0_settle C.tr hF8 hq9) kv_X0_settle q178 (kdF hF8) rfl rfl rfl dX3_removeImport_18 ⟨(show 3 ≤ 5 by decide), (show 82 ≤ 155 by decide)⟩ ⟨Nat.zero_le _, Nat.zero_le _⟩ [] (Nat.le_of_ble_eq_true rfl) rfl ?_
  refine aw_iload_n (pc := 21) C dX3_removeImport_21 rfl 0 rfl ?_
  cases h
  exact aw_iret (pc := 22) C dX3_removeImport_22
/-! ### NameScopes.remove(II)I -/
theorem ok_X3_remove_j42 {l : Launch} {p : Program} {e : Env} {s : State} {m : MethodId} {args : Array Value} {below : List Frame} {meth : Method} {c : Code} {D : va_G} {cI cL : ClassId} {ad : Nat → Nat} (C : CX p l s m args meth c RX3 cX3_remove 3 (some .int) D cI cL (AA ad s.heap.size)) (hex : ∀ x ∈ c.exceptionTable.toList, False) {r : ((String ⊕ Int32) × Mm)} {v1 : Int32} {v2 : Int32} {s0 : Int32} {s1 : Int32} {μ : Mm}  (h : X3_remove_j42 v1 v2 s0 s1 μ = some r) : AV l p e s m args below meth c D cI cL ad 7 3 (rsI r.1) r.2 42 [(0, .ref (ad 0)), (1, .int v1), (2, .int v2)] [.int s0, .int s1] μ := by
  unfold X3_remove_j42 at h
  obtain ⟨y9, hq6, h⟩ := bi_some h
  rcases y9 with E8 | q7
  · rw [thr_l] at h
    cases h
    exact aw_callST (pc := 42) (Bs := [.int s1, .int s0]) (rest := []) C hex (ok_X3_needIndex C.tr (r := .inl E8) hq6) kv_X3_needIndex q391 rfl rfl (Nat.le_of_ble_eq_true rfl) dX3_remove_42 ⟨(show 7 ≤ 7 by decide), (show 207 ≤ 217 by decide)⟩ ⟨Nat.le_refl _, Nat.le_refl _⟩ rfl
  · rw [thr_r] at h
    refine aw_Sv (pc := 42) (Bs := [.int s1, .int s0]) C (ok_X3_needIndex C.tr (r := .inr q7) hq6) kv_X3_needIndex q391 rfl rfl dX3_remove_42 ⟨(show 7 ≤ 7 by decide), (show 207 ≤ 217 by decide)⟩ ⟨Nat.zero_le _, Nat.zero_le _⟩ [] (Nat.le_of_ble_eq_true rfl) rfl ?_
    refine aw_iload_n (pc := 45) C dX3_remove_45 rfl 1 rfl ?_
    by_cases hs10 : v1 = 0
    · replace h := ite_T h hs10
      refine aw_lookup (pc := 46) C 72 dX3_remove_46 (by decide) (by rw [hs10] <;> rfl) rfl ?_
      refine aw_aload_n (pc := 72) C dX3_remove_72 rfl 0 rfl ?_
      refine aw_iload_n (pc := 73) C dX3_remove_73 rfl 2 rfl ?_
      obtain ⟨q12, μ13, hq11, h⟩ := bn_some h
      refine aw_Vi (pc := 74) (a := 0) (Bs := [.int v2]) C (ok_X3_removeDeclaration C.tr hq11) kv_X3_removeDeclaration q559 rfl rfl rfl rfl dX3_remove_74 ⟨(show 5 ≤ 7 by decide), (show 151 ≤ 217 by decide)⟩ ⟨Nat.zero_le _, Nat.zero_le _⟩ [] (Nat.le_of_ble_eq_true rfl) rfl ?_
      cases h
      exact aw_iret (pc := 77) C dX3_remove_77
    replace h := ite_F h hs10
    by_cases hs14 : v1 = 1
    · replace h := ite_T h hs14
      refine aw_lookup (pc := 46) C 78 dX3_remove_46 (by decide) (by rw [hs14] <;> rfl) rfl ?_
      refine aw_aload_n (pc := 78) C dX3_remove_78 rfl 0 rfl ?_
      refine aw_iload_n (pc := 79) C dX3_remove_79 rfl 2 rfl ?_
      obtain ⟨q16, μ17, hq15, h⟩ := bn_some h
      refine aw_Vi (pc := 80) (a := 0) (Bs := [.int v2]) C (ok_X3_removeImport C.tr hq15) kv_X3_removeImport q571 rfl rfl rfl rfl dX3_remove_80 ⟨(show 6 ≤ 7 by decide), (show 177 ≤ 217 by decide)⟩ ⟨Nat.zero_le _, Nat.zero_le _⟩ [] (Nat.le_of_ble_eq_true rfl) rfl ?_
      cases h
      exact aw_iret (pc := 83) C dX3_remove_83
    replace h := ite_F h hs14
    refine aw_lookup (pc := 46) C 84 dX3_remove_46 (by decide) (off := 38) (by show Op.lookupswitch.offset [(0, 26), (1, 32)] 38 (Int32.toInt v1) = 38; rw [lv_osw (k := 0) hs10 (by decide), lv_osw (k := 1) hs14 (by decide)]; rfl) rfl ?_
    refine aw_aload_n (pc := 84) C dX3_remove_84 rfl 0 rfl ?_
    refine aw_getNow (pc := 85) C q161 dX3_remove_85 (fun hF18 => ?_)
    refine aw_iload_n (pc := 88) C dX3_remove_88 rfl 2 rfl ?_
    obtain ⟨μ21, hq19, h⟩ := bi_some h
    refine aw_Vv (pc := 89) (a := (mNow μ)) (Bs := [.int v2]) C (ok_X0_dropUse C.tr hF18 hq19) kv_X0_dropUse q575 (kdF hF18) rfl rfl rfl dX3_remove_89 ⟨(show 4 ≤ 7 by decide), (show 114 ≤ 217 by decide)⟩ ⟨Nat.zero_le _, Nat.zero_le _⟩ [] (Nat.le_of_ble_eq_true rfl) rfl ?_
    refine aw_aload_n (pc := 92) C dX3_remove_92 rfl 0 rfl ?_
    refine aw_getNow (pc := 93) C q161 dX3_remove_93 (fun hF22 => ?_)
    obtain ⟨μ25, hq23, h⟩ := bi_some h
    refine aw_Vv (pc := 96) (a := (mNow μ21)) (Bs := []) C (ok_X0_settle C.tr hF22 hq23) kv_X0_settle q178 (kdF hF22) rfl rfl rfl dX3_remove_96 ⟨(show 3 ≤ 7 by decide), (show 82 ≤ 217 by decide)⟩ ⟨Nat.zero_le _, Nat.zero_le _⟩ [] (Nat.le_of_ble_eq_true rfl) rfl ?_
    refine aw_iconst (pc := 99) C (v := 0) dX3_remove_99 rfl ?_
    cases h
    exact aw_iret (pc := 100) C dX3_remove_100
theorem ok_X3_remove {l : Launch} (htr : l.stackTraces = false) {v1 : Int32} {v2 : Int32} {μ : Mm} {r : ((String ⊕ Int32) × Mm)}  (h : X3_remove v1 v2 μ = some r) : MetX l yX3_remove cX3_remove 3 (some .int) 7 (fun ad => [.ref (ad 0), .int v1, .int v2]) μ (rsI r.1) r.2 := by
  refine MetX.of htr (by decide) rfl (fun ad => Nat.le_of_ble_eq_true rfl) (fun p e s m args below meth c D cI cL ad C hex hw => ?_)
  show AV l p e s m args below meth c D cI cL ad 7 3 (rsI r.1) r.2 0 [(0, .ref (ad 0)), (1, .int v1), (2, .int v2)] [] μ
  unfold X3_remove at h
  refine aw_iload_n (pc := 0) C dX3_remove_0 rfl 1 rfl ?_
  refine aw_iconst (pc := 1) C (v := 3) dX3_remove_1 rfl ?_
  obtain ⟨y4, hq1, h⟩ := bi_some h
  rcases y4 with E3 | q2
  · rw [thr_l] at h
    cases h
    exact aw_callST (pc := 2) (Bs := [.int v1, .int 3]) (rest := []) C hex (ok_X3_needBelow C.tr (r := .inl E3) hq1) kv_X3_needBelow q269 rfl rfl (Nat.le_of_ble_eq_true rfl) dX3_remove_2 ⟨(show 7 ≤ 7 by decide), (show 207 ≤ 217 by decide)⟩ ⟨Nat.le_refl _, Nat.le_refl _⟩ rfl
  · rw [thr_r] at h
    refine aw_Sv (pc := 2) (Bs := [.int v1, .int 3]) C (ok_X3_needBelow C.tr (r := .inr q2) hq1) kv_X3_needBelow q269 rfl rfl dX3_remove_2 ⟨(show 7 ≤ 7 by decide), (show 207 ≤ 217 by decide)⟩ ⟨Nat.zero_le _, Nat.zero_le _⟩ [] (Nat.le_of_ble_eq_true rfl) rfl ?_
    refine aw_iload_n (pc := 5) C dX3_remove_5 rfl 2 rfl ?_
    refine aw_iload_n (pc := 6) C dX3_remove_6 rfl 1 rfl ?_
    refine aw_if_ne (pc := 7) C 20 dX3_remove_7 rfl (fun hc => ?_) (fun hc => ?_)
    · replace h := ite_F h hc
      refine aw_iload_n (pc := 20) C dX3_remove_20 rfl 1 rfl ?_
      refine aw_iconst (pc := 21) C (v := 1) dX3_remove_21 rfl ?_
      refine aw_icmp_ne (pc := 22) C 35 dX3_remove_22 rfl (fun hc => ?_) (fun hc => ?_)
      · replace h := ite_F h hc
        refine aw_aload_n (pc := 35) C dX3_remove_35 rfl 0 rfl ?_
        refine aw_getNow (pc := 36) C q161 dX3_remove_36 (fun hF5 => ?_)
        refine aw_getN (pc := 39) C (a := (mNow μ)) (k := 13) (v := .int (μ.1 (mNow μ) 13)) inX0 (kdF hF5) rfl (by decide) q114 dX3_remove_39 rfl ?_
        refine aw_sub [0, 1, 2] rfl ?_
        exact ok_X3_remove_j42 C hex h
      · replace h := ite_T h hc
        refine aw_aload_n (pc := 25) C dX3_remove_25 rfl 0 rfl ?_
        refine aw_getNow (pc := 26) C q161 dX3_remove_26 (fun hF26 => ?_)
        refine aw_getN (pc := 29) C (a := (mNow μ)) (k := 6) (v := .int (μ.1 (mNow μ) 6)) inX0 (kdF hF26) rfl (by decide) q94 dX3_remove_29 rfl ?_
        refine aw_goto (pc := 32) C 42 dX3_remove_32 rfl ?_
        refine aw_sub [0, 1, 2] rfl ?_
        exact ok_X3_remove_j42 C hex h
    · replace h := ite_T h hc
      refine aw_aload_n (pc := 10) C dX3_remove_10 rfl 0 rfl ?_
      refine aw_getNow (pc := 11) C q161 dX3_remove_11 (fun hF27 => ?_)
      refine aw_getN (pc := 14) C (a := (mNow μ)) (k := 2) (v := .int (μ.1 (mNow μ) 2)) inX0 (kdF hF27) rfl (by decide) q82 dX3_remove_14 rfl ?_
      refine aw_goto (pc := 17) C 42 dX3_remove_17 rfl ?_
      refine aw_sub [0, 1, 2] rfl ?_
      exact ok_X3_remove_j42 C hex h
/-! ### NameScopes.rename(II)I -/
theorem ok_X3_rename {l : Launch} (htr : l.stackTraces = false) {v1 : Int32} {v2 : Int32} {μ : Mm} {r : ((String ⊕ Int32) × Mm)}  (h : X3_rename v1 v2 μ = some r) : MetX l yX3_rename cX3_rename 4 (some .int) 7 (fun ad => [.ref (ad 0), .int v1, .int v2]) μ (rsI r.1) r.2 := by
  refine MetX.of htr (by decide) rfl (fun ad => Nat.le_of_ble_eq_true rfl) (fun p e s m args below meth c D cI cL ad C hex hw => ?_)
  show AV l p e s m args below meth c D cI cL ad 7 4 (rsI r.1) r.2 0 [(0, .ref (ad 0)), (1, .int v1), (2, .int v2)] [] μ
  unfold X3_rename at h
  refine aw_iload_n (pc := 0) C dX3_rename_0 rfl 1 rfl ?_
  refine aw_aload_n (pc := 1) C dX3_rename_1 rfl 0 rfl ?_
  refine aw_getNow (pc := 2) C q161 dX3_rename_2 (fun hF1 => ?_)
  refine aw_getN (pc := 5) C (a := (mNow μ)) (k := 2) (v := .int (μ.1 (mNow μ) 2)) inX0 (kdF hF1) rfl (by decide) q82 dX3_rename_5 rfl ?_
  obtain ⟨y5, hq2, h⟩ := bi_some h
  rcases y5 with E4 | q3
  · rw [thr_l] at h
    cases h
    exact aw_callST (pc := 8) (Bs := [.int v1, .int (μ.1 (mNow μ) 2)]) (rest := []) C hex (ok_X3_needIndex C.tr (r := .inl E4) hq2) kv_X3_needIndex q391 rfl rfl (Nat.le_of_ble_eq_true rfl) dX3_rename_8 ⟨(show 7 ≤ 7 by decide), (show 207 ≤ 217 by decide)⟩ ⟨Nat.le_refl _, Nat.le_refl _⟩ rfl
  · rw [thr_r] at h
    refine aw_Sv (pc := 8) (Bs := [.int v1, .int (μ.1 (mNow μ) 2)]) C (ok_X3_needIndex C.tr (r := .inr q3) hq2) kv_X3_needIndex q391 rfl rfl dX3_rename_8 ⟨(show 7 ≤ 7 by decide), (show 207 ≤ 217 by decide)⟩ ⟨Nat.zero_le _, Nat.zero_le _⟩ [] (Nat.le_of_ble_eq_true rfl) rfl ?_
    refine aw_iload_n (pc := 11) C dX3_rename_11 rfl 2 rfl ?_
    refine aw_bipush (pc := 12) C (v := 26) dX3_rename_12 rfl ?_
    obtain ⟨y9, hq6, h⟩ := bi_some h
    rcases y9 with E8 | q7
    · rw [thr_l] at h
      cases h
      exact aw_callST (pc := 14) (Bs := [.int v2, .int 26]) (rest := []) C hex (ok_X3_needBelow C.tr (r := .inl E8) hq6) kv_X3_needBelow q269 rfl rfl (Nat.le_of_ble_eq_true rfl) dX3_rename_14 ⟨(show 7 ≤ 7 by decide), (show 207 ≤ 217 by decide)⟩ ⟨Nat.le_refl _, Nat.le_refl _⟩ rfl
    · rw [thr_r] at h
      refine aw_Sv (pc := 14) (Bs := [.int v2, .int 26]) C (ok_X3_needBelow C.tr (r := .inr q7) hq6) kv_X3_needBelow q269 rfl rfl dX3_rename_14 ⟨(show 7 ≤ 7 by decide), (show 207 ≤ 217 by decide)⟩ ⟨Nat.zero_le _, Nat.zero_le _⟩ [] (Nat.le_of_ble_eq_true rfl) rfl ?_
      refine aw_aload_n (pc := 17) C dX3_rename_17 rfl 0 rfl ?_
      refine aw_iload_n (pc := 18) C dX3_rename_18 rfl 1 rfl ?_
      refine aw_iload_n (pc := 19) C dX3_rename_19 rfl 2 rfl ?_
      obtain ⟨q11, μ12, hq10, h⟩ := bn_some h
      refine aw_Vi (pc := 20) (a := 0) (Bs := [.int v1, .int v2]) C (ok_X3_reasonAgainst C.tr hq10) kv_X3_reasonAgainst q675 rfl rfl rfl rfl dX3_rename_20 ⟨(show 5 ≤ 7 by decide), (show 147 ≤ 217 by decide)⟩ ⟨Nat.zero_le _, Nat.zero_le _⟩ [] (Nat.le_of_ble_eq_true rfl) rfl ?_
      refine aw_istore_n (pc := 23) C (x := q11) (lv' := [(3, .int q11), (0, .ref (ad 0)), (1, .int v1), (2, .int v2)]) dX3_rename_23 rfl (by decide) rfl rfl ?_
      refine aw_iload_n (pc := 24) C dX3_rename_24 rfl 0 rfl ?_
      refine aw_if_ne (pc := 25) C 32 dX3_rename_25 rfl (fun hc => ?_) (fun hc => ?_)
      · replace h := ite_F h hc
        refine aw_iload_n (pc := 32) C dX3_rename_32 rfl 0 rfl ?_
        cases h
        exact aw_iret (pc := 33) C dX3_rename_33
      · replace h := ite_T h hc
        refine aw_aload_n (pc := 28) C dX3_rename_28 rfl 1 rfl ?_
        obtain ⟨μ15, hq13, h⟩ := bi_some h
        refine aw_Vv (pc := 29) (a := 0) (Bs := []) C (ok_X3_exchange C.tr hq13) kv_X3_exchange q567 rfl rfl rfl rfl dX3_rename_29 ⟨(show 1 ≤ 7 by decide), (show 21 ≤ 217 by decide)⟩ ⟨Nat.zero_le _, Nat.zero_le _⟩ [] (Nat.le_of_ble_eq_true rfl) rfl ?_
        refine aw_iload_n (pc := 32) C dX3_rename_32 rfl 0 rfl ?_
        cases h
        exact aw_iret (pc := 33) C dX3_rename_33
/-! ### NameScopes.resolve(III)I -/
theorem ok_X3_resolve {l : Launch} (htr : l.stackTraces = false) {v1 : Int32} {v2 : Int32} {v3 : Int32} {μ : Mm} {r : (String ⊕ Int32)}  (h : X3_resolve v1 v2 v3 μ = some r) : MetX l yX3_resolve cX3_resolve 5 (some .int) 7 (fun ad => [.ref (ad 0), .int v1, .int v2, .int v3]) μ (rsI r) μ := by
  refine MetX.of htr (by decide) rfl (fun ad => Nat.le_of_ble_eq_true rfl) (fun p e s m args below meth c D cI cL ad C hex hw => ?_)
  show AV l p e s m args below meth c D cI cL ad 7 5 (rsI r) μ 0 [(0, .ref (ad 0)), (1, .int v1), (2, .int v2), (3, .int v3)] [] μ
  unfold X3_resolve at h
  refine aw_iload_n (pc := 0) C dX3_resolve_0 rfl 1 rfl ?_
  refine aw_aload_n (pc := 1) C dX3_resolve_1 rfl 0 rfl ?_
  refine aw_getNow (pc := 2) C q161 dX3_resolve_2 (fun hF1 => ?_)
  refine aw_getN (pc := 5) C (a := (mNow μ)) (k := 0) (v := .int (μ.1 (mNow μ) 0)) inX0 (kdF hF1) rfl (by decide) q77 dX3_resolve_5 rfl ?_
  obtain ⟨y5, hq2, h⟩ := bi_some h
  rcases y5 with E4 | q3
  · rw [thr_l] at h
    cases h
    exact aw_callST (pc := 8) (Bs := [.int v1, .int (μ.1 (mNow μ) 0)]) (rest := []) C hex (ok_X3_needIndex C.tr (r := .inl E4) hq2) kv_X3_needIndex q391 rfl rfl (Nat.le_of_ble_eq_true rfl) dX3_resolve_8 ⟨(show 7 ≤ 7 by decide), (show 207 ≤ 217 by decide)⟩ ⟨Nat.le_refl _, Nat.le_refl _⟩ rfl
  · rw [thr_r] at h
    refine aw_Sv (pc := 8) (Bs := [.int v1, .int (μ.1 (mNow μ) 0)]) C (ok_X3_needIndex C.tr (r := .inr q3) hq2) kv_X3_needIndex q391 rfl rfl dX3_resolve_8 ⟨(show 7 ≤ 7 by decide), (show 207 ≤ 217 by decide)⟩ ⟨Nat.zero_le _, Nat.zero_le _⟩ [] (Nat.le_of_ble_eq_true rfl) rfl ?_
    refine aw_iload_n (pc := 11) C dX3_resolve_11 rfl 2 rfl ?_
    refine aw_bipush (pc := 12) C (v := 26) dX3_resolve_12 rfl ?_
    obtain ⟨y9, hq6, h⟩ := bi_some h
    rcases y9 with E8 | q7
    · rw [thr_l] at h
      cases h
      exact aw_callST (pc := 14) (Bs := [.int v2, .int 26]) (rest := []) C hex (ok_X3_needBelow C.tr (r := .inl E8) hq6) kv_X3_needBelow q269 rfl rfl (Nat.le_of_ble_eq_true rfl) dX3_resolve_14 ⟨(show 7 ≤ 7 by decide), (show 207 ≤ 217 by decide)⟩ ⟨Nat.le_refl _, Nat.le_refl _⟩ rfl
    · rw [thr_r] at h
      refine aw_Sv (pc := 14) (Bs := [.int v2, .int 26]) C (ok_X3_needBelow C.tr (r := .inr q7) hq6) kv_X3_needBelow q269 rfl rfl dX3_resolve_14 ⟨(show 7 ≤ 7 by decide), (show 207 ≤ 217 by decide)⟩ ⟨Nat.zero_le _, Nat.zero_le _⟩ [] (Nat.le_of_ble_eq_true rfl) rfl ?_
      refine aw_iload_n (pc := 17) C dX3_resolve_17 rfl 3 rfl ?_
      refine aw_iconst (pc := 18) C (v := 5) dX3_resolve_18 rfl ?_
      obtain ⟨y13, hq10, h⟩ := bi_some h
      rcases y13 with E12 | q11
      · rw [thr_l] at h
        cases h
        exact aw_callST (pc := 19) (Bs := [.int v3, .int 5]) (rest := []) C hex (ok_X3_needBelow C.tr (r := .inl E12) hq10) kv_X3_needBelow q269 rfl rfl (Nat.le_of_ble_eq_true rfl) dX3_resolve_19 ⟨(show 7 ≤ 7 by decide), (show 207 ≤ 217 by decide)⟩ ⟨Nat.le_refl _, Nat.le_refl _⟩ rfl
      · rw [thr_r] at h
        refine aw_Sv (pc := 19) (Bs := [.int v3, .int 5]) C (ok_X3_needBelow C.tr (r := .inr q11) hq10) kv_X3_needBelow q269 rfl rfl dX3_resolve_19 ⟨(show 7 ≤ 7 by decide), (show 207 ≤ 217 by decide)⟩ ⟨Nat.zero_le _, Nat.zero_le _⟩ [] (Nat.le_of_ble_eq_true rfl) rfl ?_
        refine aw_aload_n (pc := 22) C dX3_resolve_22 rfl 0 rfl ?_
        refine aw_getNow (pc := 23) C q161 dX3_resolve_23 (fun hF14 => ?_)
        refine aw_iload_n (pc := 26) C dX3_resolve_26 rfl 1 rfl ?_
        refine aw_iload_n (pc := 27) C dX3_resolve_27 rfl 2 rfl ?_
        refine aw_iconst (pc := 28) C (v := 0) dX3_resolve_28 rfl ?_
        obtain ⟨q16, hq15, h⟩ := bi_some h
        refine aw_Vi (pc := 29) (a := (mNow μ)) (Bs := [.int v1, .int v2, .int 0]) C (ok_X0_placeOfLayer C.tr hF14 hq15) kv_X0_placeOfLayer q637 (kdF hF14) rfl rfl rfl dX3_resolve_29 ⟨(show 2 ≤ 7 by decide), (show 57 ≤ 217 by decide)⟩ ⟨Nat.zero_le _, Nat.zero_le _⟩ [] (Nat.le_of_ble_eq_true rfl) rfl ?_
        refine aw_istore (pc := 32) C (x := q16) (lv' := [(4, .int q16), (0, .ref (ad 0)), (1, .int v1), (2, .int v2), (3, .int v3)]) dX3_resolve_32 (by decide) rfl rfl ?_
        refine aw_iload_n (pc := 34) C dX3_resolve_34 rfl 4 rfl ?_
        by_cases hs17 : v3 = 0
        · replace h := ite_T h hs17
          refine aw_tableIn (pc := 35) C 64 dX3_resolve_35 (by rw [hs17]; decide) (by rw [hs17]; decide) (by rw [hs17]; rfl) rfl ?_
          refine aw_aload_n (pc := 64) C dX3_resolve_64 rfl 1 rfl ?_
          refine aw_getNow (pc := 65) C q161 dX3_resolve_65 (fun hF18 => ?_)
          refine aw_iload_n (pc := 68) C dX3_resolve_68 rfl 2 rfl ?_
          refine aw_iload_n (pc := 69) C dX3_resolve_69 rfl 3 rfl ?_
          obtain ⟨q20, hq19, h⟩ := bi_some h
          refine aw_Vi (pc := 70) (a := (mNow μ)) (Bs := [.int v1, .int v2]) C (ok_X0_firstLayer C.tr hF18 hq19) kv_X0_firstLayer q414 (kdF hF18) rfl rfl rfl dX3_resolve_70 ⟨(show 1 ≤ 7 by decide), (show 25 ≤ 217 by decide)⟩ ⟨Nat.zero_le _, Nat.zero_le _⟩ [] (Nat.le_of_ble_eq_true rfl) rfl ?_
          obtain ⟨q22, hq21, h⟩ := bi_some h
          refine aw_Si (pc := 73) (Bs := [.int q20]) C (ok_X3_onlyOne C.tr hq21) kv_X3_onlyOne q440 rfl rfl dX3_resolve_73 ⟨(show 2 ≤ 7 by decide), (show 51 ≤ 217 by decide)⟩ ⟨Nat.zero_le _, Nat.zero_le _⟩ [] (Nat.le_of_ble_eq_true rfl) rfl ?_
          cases h
          exact aw_iret (pc := 76) C dX3_resolve_76
        replace h := ite_F h hs17
        by_cases hs23 : v3 = 1
        · replace h := ite_T h hs23
          refine aw_tableIn (pc := 35) C 77 dX3_resolve_35 (by rw [hs23]; decide) (by rw [hs23]; decide) (by rw [hs23]; rfl) rfl ?_
          refine aw_aload_n (pc := 77) C dX3_resolve_77 rfl 1 rfl ?_
          refine aw_getNow (pc := 78) C q161 dX3_resolve_78 (fun hF24 => ?_)
          refine aw_iload_n (pc := 81) C dX3_resolve_81 rfl 2 rfl ?_
          refine aw_iload_n (pc := 82) C dX3_resolve_82 rfl 3 rfl ?_
          obtain ⟨q26, hq25, h⟩ := bi_some h
          refine aw_Vi (pc := 83) (a := (mNow μ)) (Bs := [.int v1, .int v2]) C (ok_X0_firstLayer C.tr hF24 hq25) kv_X0_firstLayer q414 (kdF hF24) rfl rfl rfl dX3_resolve_83 ⟨(show 1 ≤ 7 by decide), (show 25 ≤ 217 by decide)⟩ ⟨Nat.zero_le _, Nat.zero_le _⟩ [] (Nat.le_of_ble_eq_true rfl) rfl ?_
          obtain ⟨q28, hq27, h⟩ := bi_some h
          refine aw_Si (pc := 86) (Bs := [.int q26]) C (ok_J6_bitCount_0f7a4 C.tr hq27) kv_J6_bitCount_0f7a4 q415 rfl rfl dX3_resolve_86 ⟨(show 1 ≤ 7 by decide), (show 20 ≤ 217 by decide)⟩ ⟨Nat.zero_le _, Nat.zero_le _⟩ [] (Nat.le_of_ble_eq_true rfl) rfl ?_
          cases h
          exact aw_iret (pc := 89) C dX3_resolve_89
        replace h := ite_F h hs23
        by_cases hs29 : v3 = 2
        · replace h := ite_T h hs29
          refine aw_tableIn (pc := 35) C 90 dX3_resolve_35 (by rw [hs29]; decide) (by rw [hs29]; decide) (by rw [hs29]; rfl) rfl ?_
          refine aw_iload (pc := 90) C dX3_resolve_90 0 rfl ?_
          refine aw_iconst (pc := 92) C (v := (-1)) dX3_resolve_92 rfl ?_
          have kJ : AV l p e s m args below meth c D cI cL ad 7 5 (rsI r) μ 104 [(4, .int q16), (0, .ref (ad 0)), (1, .int v1), (2, .int v2), (3, .int v3)] [.int (if q16 = (-1) then ((-1) : Int32) else (q16 - q16 / 3 * 3))] μ := by
            cases h
            exact aw_iret (pc := 104) C dX3_resolve_104
          refine aw_icmp_ne (pc := 93) C 100 dX3_resolve_93 rfl (fun hd1 => ?_) (fun hd1 => ?_)
          · refine aw_iload (pc := 100) C dX3_resolve_100 0 rfl ?_
            refine aw_iconst (pc := 102) C (v := 3) dX3_resolve_102 rfl ?_
            refine aw_irem (pc := 103) C dX3_resolve_103 (by decide) ?_
            rw [if_neg hd1] at kJ
            exact kJ
          · refine aw_iconst (pc := 96) C (v := (-1)) dX3_resolve_96 rfl ?_
            refine aw_goto (pc := 97) C 104 dX3_resolve_97 rfl ?_
            rw [if_pos hd1] at kJ
            exact kJ
        replace h := ite_F h hs29
        by_cases hs30 : v3 = 3
        · replace h := ite_T h hs30
          refine aw_tableIn (pc := 35) C 105 dX3_resolve_35 (by rw [hs30]; decide) (by rw [hs30]; decide) (by rw [hs30]; rfl) rfl ?_
          refine aw_iload (pc := 105) C dX3_resolve_105 0 rfl ?_
          refine aw_iconst (pc := 107) C (v := (-1)) dX3_resolve_107 rfl ?_
          have kJ : AV l p e s m args below meth c D cI cL ad 7 5 (rsI r) μ 119 [(4, .int q16), (0, .ref (ad 0)), (1, .int v1), (2, .int v2), (3, .int v3)] [.int (if q16 = (-1) then ((-1) : Int32) else (q16 / 3))] μ := by
            cases h
            exact aw_iret (pc := 119) C dX3_resolve_119
          refine aw_icmp_ne (pc := 108) C 115 dX3_resolve_108 rfl (fun hd1 => ?_) (fun hd1 => ?_)
          · refine aw_iload (pc := 115) C dX3_resolve_115 0 rfl ?_
            refine aw_iconst (pc := 117) C (v := 3) dX3_resolve_117 rfl ?_
            refine aw_idiv (pc := 118) C dX3_resolve_118 (by decide) ?_
            rw [if_neg hd1] at kJ
            exact kJ
          · refine aw_iconst (pc := 111) C (v := (-1)) dX3_resolve_111 rfl ?_
            refine aw_goto (pc := 112) C 119 dX3_resolve_112 rfl ?_
            rw [if_pos hd1] at kJ
            exact kJ
        replace h := ite_F h hs30
        refine aw_tableOut (pc := 35) C 120 dX3_resolve_35 (by have hs17z := sw_ne hs17 (show Int32.toInt 0 = 0 by decide); have hs23z := sw_ne hs23 (show Int32.toInt 1 = 1 by decide); have hs29z := sw_ne hs29 (show Int32.toInt 2 = 2 by decide); have hs30z := sw_ne hs30 (show Int32.toInt 3 = 3 by decide); omega) rfl ?_
        refine aw_iconst (pc := 120) C (v := 0) dX3_resolve_120 rfl ?_
        refine aw_aload_n (pc := 121) C dX3_resolve_121 rfl 1 rfl ?_
        refine aw_getNow (pc := 122) C q161 dX3_resolve_122 (fun hF31 => ?_)
        refine aw_iload_n (pc := 125) C dX3_resolve_125 rfl 2 rfl ?_
        refine aw_iload_n (pc := 126) C dX3_resolve_126 rfl 3 rfl ?_
        obtain ⟨q33, hq32, h⟩ := bi_some h
        refine aw_Vi (pc := 127) (a := (mNow μ)) (Bs := [.int v1, .int v2]) C (ok_X0_layersOf C.tr hF31 hq32) kv_X0_layersOf q638 (kdF hF31) rfl rfl rfl dX3_resolve_127 ⟨(show 2 ≤ 7 by decide), (show 56 ≤ 217 by decide)⟩ ⟨Nat.zero_le _, Nat.zero_le _⟩ [.int 0] (Nat.le_of_ble_eq_true rfl) rfl ?_
        refine aw_iconst (pc := 130) C (v := 1) dX3_resolve_130 rfl ?_
        refine aw_isub (pc := 131) C dX3_resolve_131 ?_
        refine aw_max (pc := 132) C q642 q381 q15 q382 dX3_resolve_132 (Nat.le_of_ble_eq_true rfl) (Nat.le_of_ble_eq_true rfl) ⟨Nat.zero_le _, Nat.zero_le _⟩ ?_
        cases h
        exact aw_iret (pc := 135) C dX3_resolve_135
/-! ### NameScopes.resolvedShare()D -/
theorem ok_X3_resolvedShare_j32 {l : Launch} {p : Program} {e : Env} {s : State} {m : MethodId} {args : Array Value} {below : List Frame} {meth : Method} {c : Code} {D : va_G} {cI cL : ClassId} {ad : Nat → Nat} (C : CX p l s m args meth c RX3 cX3_resolvedShare 1 (some .double) D cI cL (AA ad s.heap.size)) (hex : ∀ x ∈ c.exceptionTable.toList, False) {r : UInt64} {μ : Mm} {s0 : UInt64}  (h : X3_resolvedShare_j32 μ s0 = some r) : AV l p e s m args below meth c D cI cL ad 4 1 (.inr (some (.double r))) μ 32 [] [.double s0] μ := by
  unfold X3_resolvedShare_j32 at h
  cases h
  exact aw_dret (pc := 32) C dX3_resolvedShare_32
theorem ok_X3_resolvedShare {l : Launch} (htr : l.stackTraces = false) {μ : Mm} {r : UInt64}  (h : X3_resolvedShare μ = some r) : MetX l yX3_resolvedShare cX3_resolvedShare 1 (some .double) 4 (fun ad => [.ref (ad 0)]) μ (.inr (some (.double r))) μ := by
  refine MetX.of htr (by decide) rfl (fun ad => Nat.le_of_ble_eq_true rfl) (fun p e s m args below meth c D cI cL ad C hex hw => ?_)
  show AV l p e s m args below meth c D cI cL ad 4 1 (.inr (some (.double r))) μ 0 [(0, .ref (ad 0))] [] μ
  unfold X3_resolvedShare at h
  refine aw_aload_n (pc := 0) C dX3_resolvedShare_0 rfl 0 rfl ?_
  refine aw_getNow (pc := 1) C q161 dX3_resolvedShare_1 (fun hF1 => ?_)
  refine aw_getN (pc := 4) C (a := (mNow μ)) (k := 13) (v := .int (μ.1 (mNow μ) 13)) inX0 (kdF hF1) rfl (by decide) q114 dX3_resolvedShare_4 rfl ?_
  refine aw_if_ne (pc := 7) C 14 dX3_resolvedShare_7 rfl (fun hc => ?_) (fun hc => ?_)
  · replace h := ite_F h hc
    refine aw_aload_n (pc := 14) C dX3_resolvedShare_14 rfl 0 rfl ?_
    refine aw_getNow (pc := 15) C q161 dX3_resolvedShare_15 (fun hF2 => ?_)
    refine aw_iconst (pc := 18) C (v := 0) dX3_resolvedShare_18 rfl ?_
    obtain ⟨q4, hq3, h⟩ := bi_some h
    refine aw_Vi (pc := 19) (a := (mNow μ)) (Bs := [.int 0]) C (ok_X0_usesInState C.tr hF2 hq3) kv_X0_usesInState q229 (kdF hF2) rfl rfl rfl dX3_resolvedShare_19 ⟨(show 4 ≤ 4 by decide), (show 116 ≤ 124 by decide)⟩ ⟨Nat.zero_le _, Nat.zero_le _⟩ [] (Nat.le_of_ble_eq_true rfl) rfl ?_
    refine aw_i2d (pc := 22) C dX3_resolvedShare_22 ?_
    refine aw_aload_n (pc := 23) C dX3_resolvedShare_23 rfl 0 rfl ?_
    refine aw_getNow (pc := 24) C q161 dX3_resolvedShare_24 (fun hF5 => ?_)
    refine aw_getN (pc := 27) C (a := (mNow μ)) (k := 13) (v := .int (μ.1 (mNow μ) 13)) inX0 (kdF hF5) rfl (by decide) q114 dX3_resolvedShare_27 rfl ?_
    refine aw_i2d (pc := 30) C dX3_resolvedShare_30 ?_
    obtain ⟨g6, h⟩ := nn_some h
    refine aw_ddiv (pc := 31) C dX3_resolvedShare_31 g6 ?_
    refine aw_sub [] rfl ?_
    exact ok_X3_resolvedShare_j32 C hex h
  · replace h := ite_T h hc
    refine aw_dconst1 (pc := 10) C dX3_resolvedShare_10 ?_
    refine aw_goto (pc := 11) C 32 dX3_resolvedShare_11 rfl ?_
    refine aw_sub [] rfl ?_
    exact ok_X3_resolvedShare_j32 C hex h
/-! ### NameScopes.use(II)I -/
theorem ok_X3_use {l : Launch} (htr : l.stackTraces = false) {v1 : Int32} {v2 : Int32} {μ : Mm} {r : ((String ⊕ Int32) × Mm)}  (h : X3_use v1 v2 μ = some r) : MetX l yX3_use cX3_use 4 (some .int) 7 (fun ad => [.ref (ad 0), .int v1, .int v2]) μ (rsI r.1) r.2 := by
  refine MetX.of htr (by decide) rfl (fun ad => Nat.le_of_ble_eq_true rfl) (fun p e s m args below meth c D cI cL ad C hex hw => ?_)
  show AV l p e s m args below meth c D cI cL ad 7 4 (rsI r.1) r.2 0 [(0, .ref (ad 0)), (1, .int v1), (2, .int v2)] [] μ
  unfold X3_use at h
  refine aw_aload_n (pc := 0) C dX3_use_0 rfl 0 rfl ?_
  refine aw_getNow (pc := 1) C q161 dX3_use_1 (fun hF1 => ?_)
  refine aw_iload_n (pc := 4) C dX3_use_4 rfl 1 rfl ?_
  refine aw_iload_n (pc := 5) C dX3_use_5 rfl 2 rfl ?_
  obtain ⟨q3, hq2, h⟩ := bi_some h
  refine aw_Vi (pc := 6) (a := (mNow μ)) (Bs := [.int v1, .int v2]) C (ok_X0_refusalOfUse C.tr hF1 hq2) kv_X0_refusalOfUse q544 (kdF hF1) rfl rfl rfl dX3_use_6 ⟨(show 2 ≤ 7 by decide), (show 53 ≤ 217 by decide)⟩ ⟨Nat.zero_le _, Nat.zero_le _⟩ [] (Nat.le_of_ble_eq_true rfl) rfl ?_
  obtain ⟨y7, hq4, h⟩ := bi_some h
  rcases y7 with E6 | q5
  · rw [thr_l] at h
    cases h
    exact aw_callST (pc := 9) (Bs := [.int q3]) (rest := []) C hex (ok_X3_throwIfRefused C.tr (r := .inl E6) hq4) kv_X3_throwIfRefused q465 rfl rfl (Nat.le_of_ble_eq_true rfl) dX3_use_9 ⟨(show 7 ≤ 7 by decide), (show 206 ≤ 217 by decide)⟩ ⟨Nat.le_refl _, Nat.le_refl _⟩ rfl
  · rw [thr_r] at h
    refine aw_Sv (pc := 9) (Bs := [.int q3]) C (ok_X3_throwIfRefused C.tr (r := .inr q5) hq4) kv_X3_throwIfRefused q465 rfl rfl dX3_use_9 ⟨(show 7 ≤ 7 by decide), (show 206 ≤ 217 by decide)⟩ ⟨Nat.zero_le _, Nat.zero_le _⟩ [] (Nat.le_of_ble_eq_true rfl) rfl ?_
    refine aw_aload_n (pc := 12) C dX3_use_12 rfl 0 rfl ?_
    refine aw_getNow (pc := 13) C q161 dX3_use_13 (fun hF8 => ?_)
    refine aw_iload_n (pc := 16) C dX3_use_16 rfl 1 rfl ?_
    refine aw_iload_n (pc := 17) C dX3_use_17 rfl 2 rfl ?_
    obtain ⟨q10, μ11, hq9, h⟩ := bn_some h
    refine aw_Vi (pc := 18) (a := (mNow μ)) (Bs := [.int v1, .int v2]) C (ok_X0_putUse C.tr hF8 hq9) kv_X0_putUse q548 (kdF hF8) rfl rfl rfl dX3_use_18 ⟨(show 1 ≤ 7 by decide), (show 22 ≤ 217 by decide)⟩ ⟨Nat.zero_le _, Nat.zero_le _⟩ [] (Nat.le_of_ble_eq_true rfl) rfl ?_
    refine aw_istore_n (pc := 21) C (x := q10) (lv' := [(3, .int q10), (0, .ref (ad 0)), (1, .int v1), (2, .int v2)]) dX3_use_21 rfl (by decide) rfl rfl ?_
    refine aw_aload_n (pc := 22) C dX3_use_22 rfl 1 rfl ?_
    refine aw_getNow (pc := 23) C q161 dX3_use_23 (fun hF12 => ?_)
    obtain ⟨μ15, hq13, h⟩ := bi_some h
    refine aw_Vv (pc := 26) (a := (mNow μ11)) (Bs := []) C (ok_X0_settle C.tr hF12 hq13) kv_X0_settle q178 (kdF hF12) rfl rfl rfl dX3_use_26 ⟨(show 3 ≤ 7 by decide), (show 82 ≤ 217 by decide)⟩ ⟨Nat.zero_le _, Nat.zero_le _⟩ [] (Nat.le_of_ble_eq_true rfl) rfl ?_
    refine aw_iload_n (pc := 29) C dX3_use_29 rfl 0 rfl ?_
    cases h
    exact aw_iret (pc := 30) C dX3_use_30
/-! ### NameScopesModel.addImport(IIIIIZ)I -/
theorem ok_X4_addImport {l : Launch} (htr : l.stackTraces = false) {v1 : Int32} {v2 : Int32} {v3 : Int32} {v4 : Int32} {v5 : Int32} {v6 : Int32} {μ : Mm} {r : (Int32 × Mm)}  (h : X4_addImport v1 v2 v3 v4 v5 v6 μ = some r) : MetX l yX4_addImport cX4_addImport 8 (some .int) 0 (fun ad => [.ref (ad 45), .int v1, .int v2, .int v3, .int v4, .int v5, .int v6]) μ (.inr (some (.int r.1))) r.2 := by
  refine MetX.of htr (by decide) rfl (fun ad => Nat.le_of_ble_eq_true rfl) (fun p e s m args below meth c D cI cL ad C hex hw => ?_)
  show AV l p e s m args below meth c D cI cL ad 0 8 (.inr (some (.int r.1))) r.2 0 [(0, .ref (ad 45)), (1, .int v1), (2, .int v2), (3, .int v3), (4, .int v4), (5, .int v5), (6, .int v6)] [] μ
  unfold X4_addImport at h
  refine aw_bipush (pc := 0) C (v := 110) dX4_addImport_0 rfl ?_
  refine aw_bipush (pc := 2) C (v := 6) dX4_addImport_2 rfl ?_
  refine aw_aload_n (pc := 4) C dX4_addImport_4 rfl 0 rfl ?_
  refine aw_get (pc := 5) C (a := 45) (k := 1) (v := .ref (ad 46)) inX4 rfl rfl (by decide) q741 dX4_addImport_5 rfl ?_
  refine aw_iconst (pc := 8) C (v := 2) dX4_addImport_8 rfl ?_
  obtain ⟨g1, h⟩ := ck_some h
  refine aw_iaload (pc := 9) C (a := 46) rfl g1 dX4_addImport_9 ?_
  refine aw_imul (pc := 10) C dX4_addImport_10 ?_
  refine aw_iadd (pc := 11) C dX4_addImport_11 ?_
  obtain ⟨x2, ex2, h⟩ := bd_some h
  refine aw_istore (pc := 12) C (x := x2) (lv' := [(7, .int x2), (0, .ref (ad 45)), (1, .int v1), (2, .int v2), (3, .int v3), (4, .int v4), (5, .int v5), (6, .int v6)]) dX4_addImport_12 (by decide) ex2 rfl ?_
  refine aw_aload_n (pc := 14) C dX4_addImport_14 rfl 1 rfl ?_
  refine aw_get (pc := 15) C (a := 45) (k := 1) (v := .ref (ad 46)) inX4 rfl rfl (by decide) q741 dX4_addImport_15 rfl ?_
  refine aw_iload (pc := 18) C dX4_addImport_18 0 rfl ?_
  refine aw_iload_n (pc := 20) C dX4_addImport_20 rfl 2 rfl ?_
  obtain ⟨g3, h⟩ := ck_some h
  obtain ⟨μ4, eμ4, h⟩ := bd_some h
  refine aw_iastore (pc := 21) C (a := 46) rfl g3 dX4_addImport_21 eμ4 ?_
  refine aw_aload_n (pc := 22) C dX4_addImport_22 rfl 1 rfl ?_
  refine aw_get (pc := 23) C (a := 45) (k := 1) (v := .ref (ad 46)) inX4 rfl rfl (by decide) q741 dX4_addImport_23 rfl ?_
  refine aw_iload (pc := 26) C dX4_addImport_26 0 rfl ?_
  refine aw_iconst (pc := 28) C (v := 1) dX4_addImport_28 rfl ?_
  refine aw_iadd (pc := 29) C dX4_addImport_29 ?_
  refine aw_iload_n (pc := 30) C dX4_addImport_30 rfl 3 rfl ?_
  obtain ⟨g5, h⟩ := ck_some h
  obtain ⟨μ6, eμ6, h⟩ := bd_some h
  refine aw_iastore (pc := 31) C (a := 46) rfl g5 dX4_addImport_31 eμ6 ?_
  refine aw_aload_n (pc := 32) C dX4_addImport_32 rfl 1 rfl ?_
  refine aw_get (pc := 33) C (a := 45) (k := 1) (v := .ref (ad 46)) inX4 rfl rfl (by decide) q741 dX4_addImport_33 rfl ?_
  refine aw_iload (pc := 36) C dX4_addImport_36 0 rfl ?_
  refine aw_iconst (pc := 38) C (v := 2) dX4_addImport_38 rfl ?_
  refine aw_iadd (pc := 39) C dX4_addImport_39 ?_
  refine aw_iload_n (pc := 40) C dX4_addImport_40 rfl 4 rfl ?_
  obtain ⟨g7, h⟩ := ck_some h
  obtain ⟨μ8, eμ8, h⟩ := bd_some h
  refine aw_iastore (pc := 41) C (a := 46) rfl g7 dX4_addImport_41 eμ8 ?_
  refine aw_aload_n (pc := 42) C dX4_addImport_42 rfl 1 rfl ?_
  refine aw_get (pc := 43) C (a := 45) (k := 1) (v := .ref (ad 46)) inX4 rfl rfl (by decide) q741 dX4_addImport_43 rfl ?_
  refine aw_iload (pc := 46) C dX4_addImport_46 0 rfl ?_
  refine aw_iconst (pc := 48) C (v := 3) dX4_addImport_48 rfl ?_
  refine aw_iadd (pc := 49) C dX4_addImport_49 ?_
  refine aw_iload (pc := 50) C dX4_addImport_50 5 rfl ?_
  obtain ⟨g9, h⟩ := ck_some h
  obtain ⟨μ10, eμ10, h⟩ := bd_some h
  refine aw_iastore (pc := 52) C (a := 46) rfl g9 dX4_addImport_52 eμ10 ?_
  refine aw_aload_n (pc := 53) C dX4_addImport_53 rfl 1 rfl ?_
  refine aw_get (pc := 54) C (a := 45) (k := 1) (v := .ref (ad 46)) inX4 rfl rfl (by decide) q741 dX4_addImport_54 rfl ?_
  refine aw_iload (pc := 57) C dX4_addImport_57 0 rfl ?_
  refine aw_iconst (pc := 59) C (v := 4) dX4_addImport_59 rfl ?_
  refine aw_iadd (pc := 60) C dX4_addImport_60 ?_
  refine aw_iload (pc := 61) C dX4_addImport_61 6 rfl ?_
  obtain ⟨g11, h⟩ := ck_some h
  obtain ⟨μ12, eμ12, h⟩ := bd_some h
  refine aw_iastore (pc := 63) C (a := 46) rfl g11 dX4_addImport_63 eμ12 ?_
  refine aw_aload_n (pc := 64) C dX4_addImport_64 rfl 1 rfl ?_
  refine aw_get (pc := 65) C (a := 45) (k := 1) (v := .ref (ad 46)) inX4 rfl rfl (by decide) q741 dX4_addImport_65 rfl ?_
  refine aw_iload (pc := 68) C dX4_addImport_68 0 rfl ?_
  refine aw_iconst (pc := 70) C (v := 5) dX4_addImport_70 rfl ?_
  refine aw_iadd (pc := 71) C dX4_addImport_71 ?_
  refine aw_iload (pc := 72) C dX4_addImport_72 7 rfl ?_
  have kJ : AV l p e s m args below meth c D cI cL ad 0 8 (.inr (some (.int r.1))) r.2 82 [(7, .int x2), (0, .ref (ad 45)), (1, .int v1), (2, .int v2), (3, .int v3), (4, .int v4), (5, .int v5), (6, .int v6)] [.int (if v6 = 0 then (0 : Int32) else 1), .int (x2 + 5), .ref (ad 46)] μ12 := by
    obtain ⟨g13, h⟩ := ck_some h
    obtain ⟨μ14, eμ14, h⟩ := bd_some h
    refine aw_iastore (pc := 82) C (a := 46) rfl g13 dX4_addImport_82 eμ14 ?_
    refine aw_aload_n (pc := 83) C dX4_addImport_83 rfl 1 rfl ?_
    refine aw_get (pc := 84) C (a := 45) (k := 1) (v := .ref (ad 46)) inX4 rfl rfl (by decide) q741 dX4_addImport_84 rfl ?_
    refine aw_iconst (pc := 87) C (v := 2) dX4_addImport_87 rfl ?_
    refine aw_dup2 (pc := 88) C dX4_addImport_88 rfl rfl ?_
    obtain ⟨g15, h⟩ := ck_some h
    refine aw_iaload (pc := 89) C (a := 46) rfl g15 dX4_addImport_89 ?_
    refine aw_iconst (pc := 90) C (v := 1) dX4_addImport_90 rfl ?_
    refine aw_iadd (pc := 91) C dX4_addImport_91 ?_
    obtain ⟨g16, h⟩ := ck_some h
    obtain ⟨μ17, eμ17, h⟩ := bd_some h
    refine aw_iastore (pc := 92) C (a := 46) rfl g16 dX4_addImport_92 eμ17 ?_
    refine aw_aload_n (pc := 93) C dX4_addImport_93 rfl 1 rfl ?_
    refine aw_iconst (pc := 94) C (v := 0) dX4_addImport_94 rfl ?_
    obtain ⟨μ18, eμ18, h⟩ := bd_some h
    refine aw_putI (pc := 95) C (a := 45) (k := 4) (ty := .boolean) inX4 tyX4 tyX4_ok nmX4 rfl rfl (by decide) q744 rfl (by decide +kernel) (b01_nar b01_0) (b01_fit b01_0) (by show 4 < 26; decide) dX4_addImport_95 fl_4_4 eμ18 ?_
    refine aw_aload_n (pc := 98) C dX4_addImport_98 rfl 1 rfl ?_
    refine aw_get (pc := 99) C (a := 45) (k := 1) (v := .ref (ad 46)) inX4 rfl rfl (by decide) q741 dX4_addImport_99 rfl ?_
    refine aw_iconst (pc := 102) C (v := 2) dX4_addImport_102 rfl ?_
    obtain ⟨g19, h⟩ := ck_some h
    refine aw_iaload (pc := 103) C (a := 46) rfl g19 dX4_addImport_103 ?_
    refine aw_iconst (pc := 104) C (v := 1) dX4_addImport_104 rfl ?_
    refine aw_isub (pc := 105) C dX4_addImport_105 ?_
    cases h
    exact aw_iret (pc := 106) C dX4_addImport_106
  refine aw_if_eq (pc := 74) C 81 dX4_addImport_74 rfl (fun hd1 => ?_) (fun hd1 => ?_)
  · refine aw_iconst (pc := 81) C (v := 0) dX4_addImport_81 rfl ?_
    rw [if_pos hd1] at kJ
    exact kJ
  · refine aw_iconst (pc := 77) C (v := 1) dX4_addImport_77 rfl ?_
    refine aw_goto (pc := 78) C 82 dX4_addImport_78 rfl ?_
    rw [if_neg hd1] at kJ
    exact kJ
/-! ### NameScopesModel.within(III)Z -/
theorem ok_X4_within {l : Launch} (htr : l.stackTraces = false) {v0 : Int32} {v1 : Int32} {v2 : Int32} {μ : Mm} {r : Int32}  (h : X4_within v0 v1 v2 = some r) : MetX l yX4_within cX4_within 3 (some .boolean) 0 (fun ad => [.int v0, .int v1, .int v2]) μ (.inr (some (.int r))) μ := by
  refine MetX.of htr (by decide) rfl (fun ad => Nat.le_of_ble_eq_true rfl) (fun p e s m args below meth c D cI cL ad C hex hw => ?_)
  show AV l p e s m args below meth c D cI cL ad 0 3 (.inr (some (.int r))) μ 0 [(0, .int v0), (1, .int v1), (2, .int v2)] [] μ
  unfold X4_within at h
  refine aw_iload_n (pc := 0) C dX4_within_0 rfl 0 rfl ?_
  refine aw_iload_n (pc := 1) C dX4_within_1 rfl 1 rfl ?_
  have kJ : AV l p e s m args below meth c D cI cL ad 0 3 (.inr (some (.int r))) μ 15 [(0, .int v0), (1, .int v1), (2, .int v2)] [.int (if v0 < v1 then (0 : Int32) else (if v2 < v0 then (0 : Int32) else 1))] μ := by
    cases h
    exact aw_zret (pc := 15) C (b01_nar (b01_ite b01_0 (b01_ite b01_0 b01_1))) dX4_within_15
  refine aw_icmp_lt (pc := 2) C 14 dX4_within_2 rfl (fun hd1 => ?_) (fun hd1 => ?_)
  · refine aw_iconst (pc := 14) C (v := 0) dX4_within_14 rfl ?_
    rw [if_pos hd1] at kJ
    exact kJ
  · refine aw_iload_n (pc := 5) C dX4_within_5 rfl 0 rfl ?_
    refine aw_iload_n (pc := 6) C dX4_within_6 rfl 2 rfl ?_
    refine aw_icmp_gt (pc := 7) C 14 dX4_within_7 rfl (fun hd2 => ?_) (fun hd2 => ?_)
    · refine aw_iconst (pc := 14) C (v := 0) dX4_within_14 rfl ?_
      rw [if_neg hd1, if_pos hd2] at kJ
      exact kJ
    · refine aw_iconst (pc := 10) C (v := 1) dX4_within_10 rfl ?_
      refine aw_goto (pc := 11) C 15 dX4_within_11 rfl ?_
      rw [if_neg hd1, if_neg hd2] at kJ
      exact kJ
/-! ### NameScopesModel.isScope(I)Z -/
theorem ok_X4_isScope {l : Launch} (htr : l.stackTraces = false) {v1 : Int32} {μ : Mm} {r : Int32}  (h : X4_isScope v1 μ = some r) : MetX l yX4_isScope cX4_isScope 2 (some .boolean) 1 (fun ad => [.ref (ad 45), .int v1]) μ (.inr (some (.int r))) μ := by
  refine MetX.of htr (by decide) rfl (fun ad => Nat.le_of_ble_eq_true rfl) (fun p e s m args below meth c D cI cL ad C hex hw => ?_)
  show AV l p e s m args below meth c D cI cL ad 1 2 (.inr (some (.int r))) μ 0 [(0, .ref (ad 45)), (1, .int v1)] [] μ
  unfold X4_isScope at h
  refine aw_iload_n (pc := 0) C dX4_isScope_0 rfl 1 rfl ?_
  refine aw_iconst (pc := 1) C (v := 0) dX4_isScope_1 rfl ?_
  refine aw_aload_n (pc := 2) C dX4_isScope_2 rfl 0 rfl ?_
  refine aw_get (pc := 3) C (a := 45) (k := 1) (v := .ref (ad 46)) inX4 rfl rfl (by decide) q741 dX4_isScope_3 rfl ?_
  refine aw_iconst (pc := 6) C (v := 0) dX4_isScope_6 rfl ?_
  obtain ⟨g1, h⟩ := ck_some h
  refine aw_iaload (pc := 7) C (a := 46) rfl g1 dX4_isScope_7 ?_
  refine aw_iconst (pc := 8) C (v := 1) dX4_isScope_8 rfl ?_
  refine aw_isub (pc := 9) C dX4_isScope_9 ?_
  obtain ⟨q3, hq2, h⟩ := bi_some h
  refine aw_Si (pc := 10) (Bs := [.int v1, .int 0, .int ((μ.1 46 (0 : Int32).toNatClampNeg) - 1)]) C (ok_X4_within C.tr hq2) kv_X4_within q835 rfl rfl dX4_isScope_10 ⟨(show 1 ≤ 1 by decide), (show 22 ≤ 31 by decide)⟩ ⟨Nat.zero_le _, Nat.zero_le _⟩ [] (Nat.le_of_ble_eq_true rfl) rfl ?_
  obtain ⟨g4, h⟩ := rz_some h
  cases h
  exact aw_zret (pc := 13) C (b01_nar g4) dX4_isScope_13
/-! ### NameScopesModel.addScope(I)I -/
theorem ok_X4_addScope_j29 {l : Launch} {p : Program} {e : Env} {s : State} {m : MethodId} {args : Array Value} {below : List Frame} {meth : Method} {c : Code} {D : va_G} {cI cL : ClassId} {ad : Nat → Nat} (C : CX p l s m args meth c RX4 cX4_addScope 2 (some .int) D cI cL (AA ad s.heap.size)) (hex : ∀ x ∈ c.exceptionTable.toList, False) {r : (Int32 × Mm)} {v1 : Int32} {s0 : Int32} {μ : Mm}  (h : X4_addScope_j29 v1 s0 μ = some r) : AV l p e s m args below meth c D cI cL ad 2 2 (.inr (some (.int r.1))) r.2 29 [(0, .ref (ad 45)), (1, .int v1)] [.int s0, .ref (ad 45)] μ := by
  unfold X4_addScope_j29 at h
  obtain ⟨μ13, eμ13, h⟩ := bd_some h
  refine aw_putI (pc := 29) C (a := 45) (k := 0) (ty := .int) inX4 tyX4 tyX4_ok nmX4 rfl rfl (by decide) q740 rfl (by decide +kernel) rfl rfl (by show 0 < 26; decide) dX4_addScope_29 fl_4_0 eμ13 ?_
  refine aw_aload_n (pc := 32) C dX4_addScope_32 rfl 0 rfl ?_
  refine aw_get (pc := 33) C (a := 45) (k := 0) (v := .int (μ13.1 45 0)) inX4 rfl rfl (by decide) q740 dX4_addScope_33 rfl ?_
  refine aw_if_le (pc := 36) C 41 dX4_addScope_36 rfl (fun hc => ?_) (fun hc => ?_)
  · replace h := ite_T h hc
    refine aw_aload_n (pc := 41) C dX4_addScope_41 rfl 0 rfl ?_
    refine aw_get (pc := 42) C (a := 45) (k := 1) (v := .ref (ad 46)) inX4 rfl rfl (by decide) q741 dX4_addScope_42 rfl ?_
    refine aw_iconst (pc := 45) C (v := 4) dX4_addScope_45 rfl ?_
    refine aw_aload_n (pc := 46) C dX4_addScope_46 rfl 0 rfl ?_
    refine aw_get (pc := 47) C (a := 45) (k := 1) (v := .ref (ad 46)) inX4 rfl rfl (by decide) q741 dX4_addScope_47 rfl ?_
    refine aw_iconst (pc := 50) C (v := 0) dX4_addScope_50 rfl ?_
    obtain ⟨g14, h⟩ := ck_some h
    refine aw_iaload (pc := 51) C (a := 46) rfl g14 dX4_addScope_51 ?_
    refine aw_iadd (pc := 52) C dX4_addScope_52 ?_
    refine aw_iload_n (pc := 53) C dX4_addScope_53 rfl 1 rfl ?_
    obtain ⟨g15, h⟩ := ck_some h
    obtain ⟨μ16, eμ16, h⟩ := bd_some h
    refine aw_iastore (pc := 54) C (a := 46) rfl g15 dX4_addScope_54 eμ16 ?_
    refine aw_aload_n (pc := 55) C dX4_addScope_55 rfl 0 rfl ?_
    refine aw_get (pc := 56) C (a := 45) (k := 1) (v := .ref (ad 46)) inX4 rfl rfl (by decide) q741 dX4_addScope_56 rfl ?_
    refine aw_iconst (pc := 59) C (v := 0) dX4_addScope_59 rfl ?_
    refine aw_dup2 (pc := 60) C dX4_addScope_60 rfl rfl ?_
    obtain ⟨g17, h⟩ := ck_some h
    refine aw_iaload (pc := 61) C (a := 46) rfl g17 dX4_addScope_61 ?_
    refine aw_iconst (pc := 62) C (v := 1) dX4_addScope_62 rfl ?_
    refine aw_iadd (pc := 63) C dX4_addScope_63 ?_
    obtain ⟨g18, h⟩ := ck_some h
    obtain ⟨μ19, eμ19, h⟩ := bd_some h
    refine aw_iastore (pc := 64) C (a := 46) rfl g18 dX4_addScope_64 eμ19 ?_
    refine aw_aload_n (pc := 65) C dX4_addScope_65 rfl 0 rfl ?_
    refine aw_iconst (pc := 66) C (v := 0) dX4_addScope_66 rfl ?_
    obtain ⟨μ20, eμ20, h⟩ := bd_some h
    refine aw_putI (pc := 67) C (a := 45) (k := 4) (ty := .boolean) inX4 tyX4 tyX4_ok nmX4 rfl rfl (by decide) q744 rfl (by decide +kernel) (b01_nar b01_0) (b01_fit b01_0) (by show 4 < 26; decide) dX4_addScope_67 fl_4_4 eμ20 ?_
    refine aw_aload_n (pc := 70) C dX4_addScope_70 rfl 0 rfl ?_
    refine aw_get (pc := 71) C (a := 45) (k := 1) (v := .ref (ad 46)) inX4 rfl rfl (by decide) q741 dX4_addScope_71 rfl ?_
    refine aw_iconst (pc := 74) C (v := 0) dX4_addScope_74 rfl ?_
    obtain ⟨g21, h⟩ := ck_some h
    refine aw_iaload (pc := 75) C (a := 46) rfl g21 dX4_addScope_75 ?_
    refine aw_iconst (pc := 76) C (v := 1) dX4_addScope_76 rfl ?_
    refine aw_isub (pc := 77) C dX4_addScope_77 ?_
    cases h
    exact aw_iret (pc := 78) C dX4_addScope_78
  · replace h := ite_F h hc
    refine aw_iconst (pc := 39) C (v := 0) dX4_addScope_39 rfl ?_
    cases h
    exact aw_iret (pc := 40) C dX4_addScope_40
theorem ok_X4_addScope {l : Launch} (htr : l.stackTraces = false) {v1 : Int32} {μ : Mm} {r : (Int32 × Mm)}  (h : X4_addScope v1 μ = some r) : MetX l yX4_addScope cX4_addScope 2 (some .int) 2 (fun ad => [.ref (ad 45), .int v1]) μ (.inr (some (.int r.1))) r.2 := by
  refine MetX.of htr (by decide) rfl (fun ad => Nat.le_of_ble_eq_true rfl) (fun p e s m args below meth c D cI cL ad C hex hw => ?_)
  show AV l p e s m args below meth c D cI cL ad 2 2 (.inr (some (.int r.1))) r.2 0 [(0, .ref (ad 45)), (1, .int v1)] [] μ
  unfold X4_addScope at h
  refine aw_aload_n (pc := 0) C dX4_addScope_0 rfl 0 rfl ?_
  refine aw_aload_n (pc := 1) C dX4_addScope_1 rfl 0 rfl ?_
  refine aw_iload_n (pc := 2) C dX4_addScope_2 rfl 1 rfl ?_
  obtain ⟨q2, hq1, h⟩ := bi_some h
  refine aw_Vi (pc := 3) (a := 45) (Bs := [.int v1]) C (ok_X4_isScope C.tr hq1) kv_X4_isScope q831 rfl rfl rfl rfl dX4_addScope_3 ⟨(show 2 ≤ 2 by decide), (show 52 ≤ 62 by decide)⟩ ⟨Nat.zero_le _, Nat.zero_le _⟩ [.ref (ad 45)] (Nat.le_of_ble_eq_true rfl) rfl ?_
  refine aw_if_ne (pc := 6) C 13 dX4_addScope_6 rfl (fun hc => ?_) (fun hc => ?_)
  · replace h := ite_F h hc
    refine aw_aload_n (pc := 13) C dX4_addScope_13 rfl 0 rfl ?_
    refine aw_get (pc := 14) C (a := 45) (k := 1) (v := .ref (ad 46)) inX4 rfl rfl (by decide) q741 dX4_addScope_14 rfl ?_
    refine aw_iconst (pc := 17) C (v := 0) dX4_addScope_17 rfl ?_
    obtain ⟨g3, h⟩ := ck_some h
    refine aw_iaload (pc := 18) C (a := 46) rfl g3 dX4_addScope_18 ?_
    refine aw_bipush (pc := 19) C (v := 16) dX4_addScope_19 rfl ?_
    have kJ : AV l p e s m args below meth c D cI cL ad 2 2 (.inr (some (.int r.1))) r.2 29 [(0, .ref (ad 45)), (1, .int v1)] [.int (if (μ.1 46 (0 : Int32).toNatClampNeg) = 16 then (2 : Int32) else 0), .ref (ad 45)] μ := by
      obtain ⟨μ4, eμ4, h⟩ := bd_some h
      refine aw_putI (pc := 29) C (a := 45) (k := 0) (ty := .int) inX4 tyX4 tyX4_ok nmX4 rfl rfl (by decide) q740 rfl (by decide +kernel) rfl rfl (by show 0 < 26; decide) dX4_addScope_29 fl_4_0 eμ4 ?_
      refine aw_aload_n (pc := 32) C dX4_addScope_32 rfl 0 rfl ?_
      refine aw_get (pc := 33) C (a := 45) (k := 0) (v := .int (μ4.1 45 0)) inX4 rfl rfl (by decide) q740 dX4_addScope_33 rfl ?_
      refine aw_if_le (pc := 36) C 41 dX4_addScope_36 rfl (fun hc => ?_) (fun hc => ?_)
      · replace h := ite_T h hc
        refine aw_aload_n (pc := 41) C dX4_addScope_41 rfl 0 rfl ?_
        refine aw_get (pc := 42) C (a := 45) (k := 1) (v := .ref (ad 46)) inX4 rfl rfl (by decide) q741 dX4_addScope_42 rfl ?_
        refine aw_iconst (pc := 45) C (v := 4) dX4_addScope_45 rfl ?_
        refine aw_aload_n (pc := 46) C dX4_addScope_46 rfl 0 rfl ?_
        refine aw_get (pc := 47) C (a := 45) (k := 1) (v := .ref (ad 46)) inX4 rfl rfl (by decide) q741 dX4_addScope_47 rfl ?_
        refine aw_iconst (pc := 50) C (v := 0) dX4_addScope_50 rfl ?_
        obtain ⟨g5, h⟩ := ck_some h
        refine aw_iaload (pc := 51) C (a := 46) rfl g5 dX4_addScope_51 ?_
        refine aw_iadd (pc := 52) C dX4_addScope_52 ?_
        refine aw_iload_n (pc := 53) C dX4_addScope_53 rfl 1 rfl ?_
        obtain ⟨g6, h⟩ := ck_some h
        obtain ⟨μ7, eμ7, h⟩ := bd_some h
        refine aw_iastore (pc := 54) C (a := 46) rfl g6 dX4_addScope_54 eμ7 ?_
        refine aw_aload_n (pc := 55) C dX4_addScope_55 rfl 0 rfl ?_
        refine aw_get (pc := 56) C (a := 45) (k := 1) (v := .ref (ad 46)) inX4 rfl rfl (by decide) q741 dX4_addScope_56 rfl ?_
        refine aw_iconst (pc := 59) C (v := 0) dX4_addScope_59 rfl ?_
        refine aw_dup2 (pc := 60) C dX4_addScope_60 rfl rfl ?_
        obtain ⟨g8, h⟩ := ck_some h
        refine aw_iaload (pc := 61) C (a := 46) rfl g8 dX4_addScope_61 ?_
        refine aw_iconst (pc := 62) C (v := 1) dX4_addScope_62 rfl ?_
        refine aw_iadd (pc := 63) C dX4_addScope_63 ?_
        obtain ⟨g9, h⟩ := ck_some h
        obtain ⟨μ10, eμ10, h⟩ := bd_some h
        refine aw_iastore (pc := 64) C (a := 46) rfl g9 dX4_addScope_64 eμ10 ?_
        refine aw_aload_n (pc := 65) C dX4_addScope_65 rfl 0 rfl ?_
        refine aw_iconst (pc := 66) C (v := 0) dX4_addScope_66 rfl ?_
        obtain ⟨μ11, eμ11, h⟩ := bd_some h
        refine aw_putI (pc := 67) C (a := 45) (k := 4) (ty := .boolean) inX4 tyX4 tyX4_ok nmX4 rfl rfl (by decide) q744 rfl (by decide +kernel) (b01_nar b01_0) (b01_fit b01_0) (by show 4 < 26; decide) dX4_addScope_67 fl_4_4 eμ11 ?_
        refine aw_aload_n (pc := 70) C dX4_addScope_70 rfl 0 rfl ?_
        refine aw_get (pc := 71) C (a := 45) (k := 1) (v := .ref (ad 46)) inX4 rfl rfl (by decide) q741 dX4_addScope_71 rfl ?_
        refine aw_iconst (pc := 74) C (v := 0) dX4_addScope_74 rfl ?_
        obtain ⟨g12, h⟩ := ck_some h
        refine aw_iaload (pc := 75) C (a := 46) rfl g12 dX4_addScope_75 ?_
        refine aw_iconst (pc := 76) C (v := 1) dX4_addScope_76 rfl ?_
        refine aw_isub (pc := 77) C dX4_addScope_77 ?_
        cases h
        exact aw_iret (pc := 78) C dX4_addScope_78
      · replace h := ite_F h hc
        refine aw_iconst (pc := 39) C (v := 0) dX4_addScope_39 rfl ?_
        cases h
        exact aw_iret (pc := 40) C dX4_addScope_40
    refine aw_icmp_ne (pc := 21) C 28 dX4_addScope_21 rfl (fun hd1 => ?_) (fun hd1 => ?_)
    · refine aw_iconst (pc := 28) C (v := 0) dX4_addScope_28 rfl ?_
      rw [if_neg hd1] at kJ
      exact kJ
    · refine aw_iconst (pc := 24) C (v := 2) dX4_addScope_24 rfl ?_
      refine aw_goto (pc := 25) C 29 dX4_addScope_25 rfl ?_
      rw [if_pos hd1] at kJ
      exact kJ
  · replace h := ite_T h hc
    refine aw_iconst (pc := 9) C (v := 1) dX4_addScope_9 rfl ?_
    refine aw_goto (pc := 10) C 29 dX4_addScope_10 rfl ?_
    refine aw_sub [0, 1] rfl ?_
    exact ok_X4_addScope_j29 C hex h
/-! ### NameScopesModel.of(II)I -/
theorem ok_X4_of {l : Launch} (htr : l.stackTraces = false) {v1 : Int32} {v2 : Int32} {μ : Mm} {r : Int32}  (h : X4_of v1 v2 μ = some r) : MetX l yX4_of cX4_of 3 (some .int) 0 (fun ad => [.ref (ad 45), .int v1, .int v2]) μ (.inr (some (.int r))) μ := by
  refine MetX.of htr (by decide) rfl (fun ad => Nat.le_of_ble_eq_true rfl) (fun p e s m args below meth c D cI cL ad C hex hw => ?_)
  show AV l p e s m args below meth c D cI cL ad 0 3 (.inr (some (.int r))) μ 0 [(0, .ref (ad 45)), (1, .int v1), (2, .int v2)] [] μ
  unfold X4_of at h
  refine aw_aload_n (pc := 0) C dX4_of_0 rfl 0 rfl ?_
  refine aw_get (pc := 1) C (a := 45) (k := 1) (v := .ref (ad 46)) inX4 rfl rfl (by decide) q741 dX4_of_1 rfl ?_
  refine aw_bipush (pc := 4) C (v := 20) dX4_of_4 rfl ?_
  refine aw_iconst (pc := 6) C (v := 3) dX4_of_6 rfl ?_
  refine aw_iload_n (pc := 7) C dX4_of_7 rfl 1 rfl ?_
  refine aw_imul (pc := 8) C dX4_of_8 ?_
  refine aw_iadd (pc := 9) C dX4_of_9 ?_
  refine aw_iload_n (pc := 10) C dX4_of_10 rfl 2 rfl ?_
  refine aw_iadd (pc := 11) C dX4_of_11 ?_
  obtain ⟨g1, h⟩ := ck_some h
  refine aw_iaload (pc := 12) C (a := 46) rfl g1 dX4_of_12 ?_
  cases h
  exact aw_iret (pc := 13) C dX4_of_13
/-! ### NameScopesModel.at(II)I -/
theorem ok_X4_at {l : Launch} (htr : l.stackTraces = false) {v1 : Int32} {v2 : Int32} {μ : Mm} {r : Int32}  (h : X4_at v1 v2 μ = some r) : MetX l yX4_at cX4_at 3 (some .int) 0 (fun ad => [.ref (ad 45), .int v1, .int v2]) μ (.inr (some (.int r))) μ := by
  refine MetX.of htr (by decide) rfl (fun ad => Nat.le_of_ble_eq_true rfl) (fun p e s m args below meth c D cI cL ad C hex hw => ?_)
  show AV l p e s m args below meth c D cI cL ad 0 3 (.inr (some (.int r))) μ 0 [(0, .ref (ad 45)), (1, .int v1), (2, .int v2)] [] μ
  unfold X4_at at h
  refine aw_aload_n (pc := 0) C dX4_at_0 rfl 0 rfl ?_
  refine aw_get (pc := 1) C (a := 45) (k := 1) (v := .ref (ad 46)) inX4 rfl rfl (by decide) q741 dX4_at_1 rfl ?_
  refine aw_bipush (pc := 4) C (v := 110) dX4_at_4 rfl ?_
  refine aw_bipush (pc := 6) C (v := 6) dX4_at_6 rfl ?_
  refine aw_iload_n (pc := 8) C dX4_at_8 rfl 1 rfl ?_
  refine aw_imul (pc := 9) C dX4_at_9 ?_
  refine aw_iadd (pc := 10) C dX4_at_10 ?_
  refine aw_iload_n (pc := 11) C dX4_at_11 rfl 2 rfl ?_
  refine aw_iadd (pc := 12) C dX4_at_12 ?_
  obtain ⟨g1, h⟩ := ck_some h
  refine aw_iaload (pc := 13) C (a := 46) rfl g1 dX4_at_13 ?_
  cases h
  exact aw_iret (pc := 14) C dX4_at_14
/-! ### NameScopesModel.declaredIn(II)I -/
theorem ok_X4_declaredIn_j43 {l : Launch} {p : Program} {e : Env} {s : State} {m : MethodId} {args : Array Value} {below : List Frame} {meth : Method} {c : Code} {D : va_G} {cI cL : ClassId} {ad : Nat → Nat} (C : CX p l s m args meth c RX4 cX4_declaredIn 5 (some .int) D cI cL (AA ad s.heap.size)) (hex : ∀ x ∈ c.exceptionTable.toList, False) {r : Int32} {v1 : Int32} {v2 : Int32} {μ : Mm} {k5 : Int32 → Int32 → Option Int32} (hk5 : ∀ (v3 : Int32) (v4 : Int32), k5 v3 v4 = some r → AV l p e s m args below meth c D cI cL ad 1 5 (.inr (some (.int r))) μ 5 [(0, .ref (ad 45)), (1, .int v1), (2, .int v2), (3, .int v3), (4, .int v4)] [] μ) {v3 : Int32} {v4 : Int32}  (h : X4_declaredIn_j43 v1 v2 μ k5 v3 v4 = some r) : AV l p e s m args below meth c D cI cL ad 1 5 (.inr (some (.int r))) μ 43 [(0, .ref (ad 45)), (1, .int v1), (2, .int v2), (3, .int v3), (4, .int v4)] [] μ := by
  unfold X4_declaredIn_j43 at h
  refine aw_iload_n (pc := 43) C dX4_declaredIn_43 rfl 3 rfl ?_
  refine aw_istore_n (pc := 44) C (x := v3) (lv' := [(3, .int v3), (0, .ref (ad 45)), (1, .int v1), (2, .int v2), (4, .int v4)]) dX4_declaredIn_44 rfl (by decide) rfl rfl ?_
  refine aw_iinc (pc := 45) C (v := (v4 + 1)) (lv' := [(4, .int (v4 + 1)), (3, .int v3), (0, .ref (ad 45)), (1, .int v1), (2, .int v2)]) dX4_declaredIn_45 4 rfl (by decide) rfl rfl ?_
  refine aw_goto (pc := 48) C 5 dX4_declaredIn_48 rfl ?_
  refine aw_sub [2, 3, 4, 1, 0] rfl ?_
  exact hk5 v3 (v4 + 1) h
theorem ok_X4_declaredIn_l5 {l : Launch} {p : Program} {e : Env} {s : State} {m : MethodId} {args : Array Value} {below : List Frame} {meth : Method} {c : Code} {D : va_G} {cI cL : ClassId} {ad : Nat → Nat} (C : CX p l s m args meth c RX4 cX4_declaredIn 5 (some .int) D cI cL (AA ad s.heap.size)) (hex : ∀ x ∈ c.exceptionTable.toList, False) {r : Int32} {v1 : Int32} {v2 : Int32} {μ : Mm} {k5 : Int32 → Int32 → Option Int32} (hk5 : ∀ (v3 : Int32) (v4 : Int32), k5 v3 v4 = some r → AV l p e s m args below meth c D cI cL ad 1 5 (.inr (some (.int r))) μ 5 [(0, .ref (ad 45)), (1, .int v1), (2, .int v2), (3, .int v3), (4, .int v4)] [] μ) {v3 : Int32} {v4 : Int32}  (h : X4_declaredIn_l5 v1 v2 μ k5 v3 v4 = some r) : AV l p e s m args below meth c D cI cL ad 1 5 (.inr (some (.int r))) μ 5 [(0, .ref (ad 45)), (1, .int v1), (2, .int v2), (3, .int v3), (4, .int v4)] [] μ := by
  unfold X4_declaredIn_l5 at h
  refine aw_iload (pc := 5) C dX4_declaredIn_5 4 rfl ?_
  refine aw_aload_n (pc := 7) C dX4_declaredIn_7 rfl 0 rfl ?_
  refine aw_get (pc := 8) C (a := 45) (k := 1) (v := .ref (ad 46)) inX4 rfl rfl (by decide) q741 dX4_declaredIn_8 rfl ?_
  refine aw_iconst (pc := 11) C (v := 1) dX4_declaredIn_11 rfl ?_
  obtain ⟨g1, h⟩ := ck_some h
  refine aw_iaload (pc := 12) C (a := 46) rfl g1 dX4_declaredIn_12 ?_
  refine aw_icmp_ge (pc := 13) C 51 dX4_declaredIn_13 rfl (fun hc => ?_) (fun hc => ?_)
  · replace h := ite_T h hc
    refine aw_iload_n (pc := 51) C dX4_declaredIn_51 rfl 3 rfl ?_
    cases h
    exact aw_iret (pc := 52) C dX4_declaredIn_52
  · replace h := ite_F h hc
    refine aw_aload_n (pc := 16) C dX4_declaredIn_16 rfl 0 rfl ?_
    refine aw_iload (pc := 17) C dX4_declaredIn_17 4 rfl ?_
    refine aw_iconst (pc := 19) C (v := 0) dX4_declaredIn_19 rfl ?_
    obtain ⟨q3, hq2, h⟩ := bi_some h
    refine aw_Vi (pc := 20) (a := 45) (Bs := [.int v4, .int 0]) C (ok_X4_of C.tr hq2) kv_X4_of q849 rfl rfl rfl rfl dX4_declaredIn_20 ⟨(show 1 ≤ 1 by decide), (show 22 ≤ 31 by decide)⟩ ⟨Nat.zero_le _, Nat.zero_le _⟩ [] (Nat.le_of_ble_eq_true rfl) rfl ?_
    refine aw_iload_n (pc := 23) C dX4_declaredIn_23 rfl 1 rfl ?_
    refine aw_icmp_ne (pc := 24) C 43 dX4_declaredIn_24 rfl (fun hc => ?_) (fun hc => ?_)
    · replace h := ite_F h hc
      refine aw_sub [0, 1, 2, 3, 4] rfl ?_
      exact ok_X4_declaredIn_j43 C hex hk5 h
    · replace h := ite_T h hc
      refine aw_aload_n (pc := 27) C dX4_declaredIn_27 rfl 0 rfl ?_
      refine aw_iload (pc := 28) C dX4_declaredIn_28 4 rfl ?_
      refine aw_iconst (pc := 30) C (v := 1) dX4_declaredIn_30 rfl ?_
      obtain ⟨q5, hq4, h⟩ := bi_some h
      refine aw_Vi (pc := 31) (a := 45) (Bs := [.int v4, .int 1]) C (ok_X4_of C.tr hq4) kv_X4_of q849 rfl rfl rfl rfl dX4_declaredIn_31 ⟨(show 1 ≤ 1 by decide), (show 22 ≤ 31 by decide)⟩ ⟨Nat.zero_le _, Nat.zero_le _⟩ [] (Nat.le_of_ble_eq_true rfl) rfl ?_
      refine aw_iload_n (pc := 34) C dX4_declaredIn_34 rfl 2 rfl ?_
      have kJ : AV l p e s m args below meth c D cI cL ad 1 5 (.inr (some (.int r))) μ 44 [(0, .ref (ad 45)), (1, .int v1), (2, .int v2), (3, .int v3), (4, .int v4)] [.int (if q5 = v2 then (v4 : Int32) else v3)] μ := by
        obtain ⟨x6, ex6, h⟩ := bd_some h
        refine aw_istore_n (pc := 44) C (x := x6) (lv' := [(3, .int x6), (0, .ref (ad 45)), (1, .int v1), (2, .int v2), (4, .int v4)]) dX4_declaredIn_44 rfl (by decide) ex6 rfl ?_
        refine aw_iinc (pc := 45) C (v := (v4 + 1)) (lv' := [(4, .int (v4 + 1)), (3, .int x6), (0, .ref (ad 45)), (1, .int v1), (2, .int v2)]) dX4_declaredIn_45 4 rfl (by decide) rfl rfl ?_
        refine aw_goto (pc := 48) C 5 dX4_declaredIn_48 rfl ?_
        refine aw_sub [2, 3, 4, 1, 0] rfl ?_
        exact hk5 x6 (v4 + 1) h
      refine aw_icmp_ne (pc := 35) C 43 dX4_declaredIn_35 rfl (fun hd1 => ?_) (fun hd1 => ?_)
      · refine aw_iload_n (pc := 43) C dX4_declaredIn_43 rfl 3 rfl ?_
        rw [if_neg hd1] at kJ
        exact kJ
      · refine aw_iload (pc := 38) C dX4_declaredIn_38 4 rfl ?_
        refine aw_goto (pc := 40) C 44 dX4_declaredIn_40 rfl ?_
        rw [if_pos hd1] at kJ
        exact kJ
theorem ok_X4_declaredIn_l5_w {l : Launch} {p : Program} {e : Env} {s : State} {m : MethodId} {args : Array Value} {below : List Frame} {meth : Method} {c : Code} {D : va_G} {cI cL : ClassId} {ad : Nat → Nat} (C : CX p l s m args meth c RX4 cX4_declaredIn 5 (some .int) D cI cL (AA ad s.heap.size)) (hex : ∀ x ∈ c.exceptionTable.toList, False) {r : Int32} {v1 : Int32} {v2 : Int32} {μ : Mm} : ∀ (n : Nat) (v3 : Int32) (v4 : Int32) , itr (X4_declaredIn_l5 v1 v2 μ) (fun _ _ => none) n v3 v4 = some r → AV l p e s m args below meth c D cI cL ad 1 5 (.inr (some (.int r))) μ 5 [(0, .ref (ad 45)), (1, .int v1), (2, .int v2), (3, .int v3), (4, .int v4)] [] μ := by
  intro n
  induction n with
  | zero => intro v3 v4 h; exact nomatch (show (none : Option Int32) = some r from h)
  | succ n ih => intro v3 v4 h; exact ok_X4_declaredIn_l5 C hex (v1 := v1) (v2 := v2) (μ := μ) ih h
theorem ok_X4_declaredIn {l : Launch} (htr : l.stackTraces = false) {v1 : Int32} {v2 : Int32} {μ : Mm} {r : Int32}  (h : X4_declaredIn v1 v2 μ = some r) : MetX l yX4_declaredIn cX4_declaredIn 5 (some .int) 1 (fun ad => [.ref (ad 45), .int v1, .int v2]) μ (.inr (some (.int r))) μ := by
  refine MetX.of htr (by decide) rfl (fun ad => Nat.le_of_ble_eq_true rfl) (fun p e s m args below meth c D cI cL ad C hex hw => ?_)
  show AV l p e s m args below meth c D cI cL ad 1 5 (.inr (some (.int r))) μ 0 [(0, .ref (ad 45)), (1, .int v1), (2, .int v2)] [] μ
  unfold X4_declaredIn at h
  refine aw_iconst (pc := 0) C (v := (-1)) dX4_declaredIn_0 rfl ?_
  refine aw_istore_n (pc := 1) C (x := (-1)) (lv' := [(3, .int (-1)), (0, .ref (ad 45)), (1, .int v1), (2, .int v2)]) dX4_declaredIn_1 rfl (by decide) rfl rfl ?_
  refine aw_iconst (pc := 2) C (v := 0) dX4_declaredIn_2 rfl ?_
  refine aw_istore (pc := 3) C (x := 0) (lv' := [(4, .int 0), (3, .int (-1)), (0, .ref (ad 45)), (1, .int v1), (2, .int v2)]) dX4_declaredIn_3 (by decide) rfl rfl ?_
  refine aw_sub [2, 3, 4, 1, 0] rfl ?_
  exact ok_X4_declaredIn_l5_w C hex big (-1) 0 h
/-! ### NameScopesModel.isSingle(I)Z -/
theorem ok_X4_isSingle {l : Launch} (htr : l.stackTraces = false) {v1 : Int32} {μ : Mm} {r : Int32}  (h : X4_isSingle v1 μ = some r) : MetX l yX4_isSingle cX4_isSingle 2 (some .boolean) 1 (fun ad => [.ref (ad 45), .int v1]) μ (.inr (some (.int r))) μ := by
  refine MetX.of htr (by decide) rfl (fun ad => Nat.le_of_ble_eq_true rfl) (fun p e s m args below meth c D cI cL ad C hex hw => ?_)
  show AV l p e s m args below meth c D cI cL ad 1 2 (.inr (some (.int r))) μ 0 [(0, .ref (ad 45)), (1, .int v1)] [] μ
  unfold X4_isSingle at h
  refine aw_aload_n (pc := 0) C dX4_isSingle_0 rfl 0 rfl ?_
  refine aw_iload_n (pc := 1) C dX4_isSingle_1 rfl 1 rfl ?_
  refine aw_iconst (pc := 2) C (v := 2) dX4_isSingle_2 rfl ?_
  obtain ⟨q2, hq1, h⟩ := bi_some h
  refine aw_Vi (pc := 3) (a := 45) (Bs := [.int v1, .int 2]) C (ok_X4_at C.tr hq1) kv_X4_at q914 rfl rfl rfl rfl dX4_isSingle_3 ⟨(show 1 ≤ 1 by decide), (show 22 ≤ 31 by decide)⟩ ⟨Nat.zero_le _, Nat.zero_le _⟩ [] (Nat.le_of_ble_eq_true rfl) rfl ?_
  refine aw_iconst (pc := 6) C (v := (-1)) dX4_isSingle_6 rfl ?_
  have kJ : AV l p e s m args below meth c D cI cL ad 1 2 (.inr (some (.int r))) μ 15 [(0, .ref (ad 45)), (1, .int v1)] [.int (if q2 = (-1) then (0 : Int32) else 1)] μ := by
    cases h
    exact aw_zret (pc := 15) C (b01_nar (b01_ite b01_0 b01_1)) dX4_isSingle_15
  refine aw_icmp_eq (pc := 7) C 14 dX4_isSingle_7 rfl (fun hd1 => ?_) (fun hd1 => ?_)
  · refine aw_iconst (pc := 14) C (v := 0) dX4_isSingle_14 rfl ?_
    rw [if_pos hd1] at kJ
    exact kJ
  · refine aw_iconst (pc := 10) C (v := 1) dX4_isSingle_10 rfl ?_
    refine aw_goto (pc := 11) C 15 dX4_isSingle_11 rfl ?_
    rw [if_neg hd1] at kJ
    exact kJ
/-! ### NameScopesModel.offer(II)I -/
theorem ok_X4_offer {l : Launch} (htr : l.stackTraces = false) {v1 : Int32} {v2 : Int32} {μ : Mm} {r : Int32}  (h : X4_offer v1 v2 μ = some r) : MetX l yX4_offer cX4_offer 3 (some .int) 0 (fun ad => [.ref (ad 45), .int v1, .int v2]) μ (.inr (some (.int r))) μ := by
  refine MetX.of htr (by decide) rfl (fun ad => Nat.le_of_ble_eq_true rfl) (fun p e s m args below meth c D cI cL ad C hex hw => ?_)
  show AV l p e s m args below meth c D cI cL ad 0 3 (.inr (some (.int r))) μ 0 [(0, .ref (ad 45)), (1, .int v1), (2, .int v2)] [] μ
  unfold X4_offer at h
  refine aw_aload_n (pc := 0) C dX4_offer_0 rfl 0 rfl ?_
  refine aw_get (pc := 1) C (a := 45) (k := 3) (v := .ref (ad 48)) inX4 rfl rfl (by decide) q743 dX4_offer_1 rfl ?_
  refine aw_bipush (pc := 4) C (v := 26) dX4_offer_4 rfl ?_
  refine aw_iload_n (pc := 6) C dX4_offer_6 rfl 1 rfl ?_
  refine aw_imul (pc := 7) C dX4_offer_7 ?_
  refine aw_iload_n (pc := 8) C dX4_offer_8 rfl 2 rfl ?_
  refine aw_iadd (pc := 9) C dX4_offer_9 ?_
  obtain ⟨g1, h⟩ := ck_some h
  refine aw_iaload (pc := 10) C (a := 48) rfl g1 dX4_offer_10 ?_
  cases h
  exact aw_iret (pc := 11) C dX4_offer_11
/-! ### NameScopesModel.brought(II)I -/
theorem ok_X4_brought {l : Launch} (htr : l.stackTraces = false) {v1 : Int32} {v2 : Int32} {μ : Mm} {r : Int32}  (h : X4_brought v1 v2 μ = some r) : MetX l yX4_brought cX4_brought 3 (some .int) 2 (fun ad => [.ref (ad 45), .int v1, .int v2]) μ (.inr (some (.int r))) μ := by
  refine MetX.of htr (by decide) rfl (fun ad => Nat.le_of_ble_eq_true rfl) (fun p e s m args below meth c D cI cL ad C hex hw => ?_)
  show AV l p e s m args below meth c D cI cL ad 2 3 (.inr (some (.int r))) μ 0 [(0, .ref (ad 45)), (1, .int v1), (2, .int v2)] [] μ
  unfold X4_brought at h
  refine aw_aload_n (pc := 0) C dX4_brought_0 rfl 0 rfl ?_
  refine aw_iload_n (pc := 1) C dX4_brought_1 rfl 1 rfl ?_
  obtain ⟨q2, hq1, h⟩ := bi_some h
  refine aw_Vi (pc := 2) (a := 45) (Bs := [.int v1]) C (ok_X4_isSingle C.tr hq1) kv_X4_isSingle q922 rfl rfl rfl rfl dX4_brought_2 ⟨(show 2 ≤ 2 by decide), (show 52 ≤ 62 by decide)⟩ ⟨Nat.zero_le _, Nat.zero_le _⟩ [] (Nat.le_of_ble_eq_true rfl) rfl ?_
  refine aw_if_eq (pc := 5) C 39 dX4_brought_5 rfl (fun hc => ?_) (fun hc => ?_)
  · replace h := ite_T h hc
    refine aw_aload_n (pc := 39) C dX4_brought_39 rfl 0 rfl ?_
    refine aw_iload_n (pc := 40) C dX4_brought_40 rfl 1 rfl ?_
    refine aw_iconst (pc := 41) C (v := 4) dX4_brought_41 rfl ?_
    obtain ⟨q4, hq3, h⟩ := bi_some h
    refine aw_Vi (pc := 42) (a := 45) (Bs := [.int v1, .int 4]) C (ok_X4_at C.tr hq3) kv_X4_at q914 rfl rfl rfl rfl dX4_brought_42 ⟨(show 1 ≤ 2 by decide), (show 22 ≤ 62 by decide)⟩ ⟨Nat.zero_le _, Nat.zero_le _⟩ [] (Nat.le_of_ble_eq_true rfl) rfl ?_
    refine aw_iload_n (pc := 45) C dX4_brought_45 rfl 2 rfl ?_
    refine aw_ishr (pc := 46) C dX4_brought_46 ?_
    refine aw_iconst (pc := 47) C (v := 1) dX4_brought_47 rfl ?_
    refine aw_iand (pc := 48) C dX4_brought_48 ?_
    refine aw_iconst (pc := 49) C (v := 1) dX4_brought_49 rfl ?_
    refine aw_icmp_ne (pc := 50) C 57 dX4_brought_50 rfl (fun hc => ?_) (fun hc => ?_)
    · replace h := ite_F h hc
      refine aw_aload_n (pc := 57) C dX4_brought_57 rfl 0 rfl ?_
      refine aw_aload_n (pc := 58) C dX4_brought_58 rfl 0 rfl ?_
      refine aw_iload_n (pc := 59) C dX4_brought_59 rfl 1 rfl ?_
      refine aw_iconst (pc := 60) C (v := 1) dX4_brought_60 rfl ?_
      obtain ⟨q6, hq5, h⟩ := bi_some h
      refine aw_Vi (pc := 61) (a := 45) (Bs := [.int v1, .int 1]) C (ok_X4_at C.tr hq5) kv_X4_at q914 rfl rfl rfl rfl dX4_brought_61 ⟨(show 1 ≤ 2 by decide), (show 22 ≤ 62 by decide)⟩ ⟨Nat.zero_le _, Nat.zero_le _⟩ [.ref (ad 45)] (Nat.le_of_ble_eq_true rfl) rfl ?_
      refine aw_iload_n (pc := 64) C dX4_brought_64 rfl 2 rfl ?_
      obtain ⟨q8, hq7, h⟩ := bi_some h
      refine aw_Vi (pc := 65) (a := 45) (Bs := [.int q6, .int v2]) C (ok_X4_offer C.tr hq7) kv_X4_offer q926 rfl rfl rfl rfl dX4_brought_65 ⟨(show 1 ≤ 2 by decide), (show 22 ≤ 62 by decide)⟩ ⟨Nat.zero_le _, Nat.zero_le _⟩ [] (Nat.le_of_ble_eq_true rfl) rfl ?_
      cases h
      exact aw_iret (pc := 68) C dX4_brought_68
    · replace h := ite_T h hc
      refine aw_iconst (pc := 53) C (v := 0) dX4_brought_53 rfl ?_
      refine aw_goto (pc := 54) C 68 dX4_brought_54 rfl ?_
      cases h
      exact aw_iret (pc := 68) C dX4_brought_68
  · replace h := ite_F h hc
    refine aw_iload_n (pc := 8) C dX4_brought_8 rfl 2 rfl ?_
    refine aw_aload_n (pc := 9) C dX4_brought_9 rfl 0 rfl ?_
    refine aw_iload_n (pc := 10) C dX4_brought_10 rfl 1 rfl ?_
    refine aw_iconst (pc := 11) C (v := 3) dX4_brought_11 rfl ?_
    obtain ⟨q10, hq9, h⟩ := bi_some h
    refine aw_Vi (pc := 12) (a := 45) (Bs := [.int v1, .int 3]) C (ok_X4_at C.tr hq9) kv_X4_at q914 rfl rfl rfl rfl dX4_brought_12 ⟨(show 1 ≤ 2 by decide), (show 22 ≤ 62 by decide)⟩ ⟨Nat.zero_le _, Nat.zero_le _⟩ [.int v2] (Nat.le_of_ble_eq_true rfl) rfl ?_
    refine aw_icmp_ne (pc := 15) C 37 dX4_brought_15 rfl (fun hc => ?_) (fun hc => ?_)
    · replace h := ite_F h hc
      refine aw_iconst (pc := 37) C (v := 0) dX4_brought_37 rfl ?_
      cases h
      exact aw_iret (pc := 38) C dX4_brought_38
    · replace h := ite_T h hc
      refine aw_aload_n (pc := 18) C dX4_brought_18 rfl 0 rfl ?_
      refine aw_aload_n (pc := 19) C dX4_brought_19 rfl 0 rfl ?_
      refine aw_iload_n (pc := 20) C dX4_brought_20 rfl 1 rfl ?_
      refine aw_iconst (pc := 21) C (v := 1) dX4_brought_21 rfl ?_
      obtain ⟨q12, hq11, h⟩ := bi_some h
      refine aw_Vi (pc := 22) (a := 45) (Bs := [.int v1, .int 1]) C (ok_X4_at C.tr hq11) kv_X4_at q914 rfl rfl rfl rfl dX4_brought_22 ⟨(show 1 ≤ 2 by decide), (show 22 ≤ 62 by decide)⟩ ⟨Nat.zero_le _, Nat.zero_le _⟩ [.ref (ad 45)] (Nat.le_of_ble_eq_true rfl) rfl ?_
      refine aw_aload_n (pc := 25) C dX4_brought_25 rfl 0 rfl ?_
      refine aw_iload_n (pc := 26) C dX4_brought_26 rfl 1 rfl ?_
      refine aw_iconst (pc := 27) C (v := 2) dX4_brought_27 rfl ?_
      obtain ⟨q14, hq13, h⟩ := bi_some h
      refine aw_Vi (pc := 28) (a := 45) (Bs := [.int v1, .int 2]) C (ok_X4_at C.tr hq13) kv_X4_at q914 rfl rfl rfl rfl dX4_brought_28 ⟨(show 1 ≤ 2 by decide), (show 22 ≤ 62 by decide)⟩ ⟨Nat.zero_le _, Nat.zero_le _⟩ [.int q12, .ref (ad 45)] (Nat.le_of_ble_eq_true rfl) rfl ?_
      obtain ⟨q16, hq15, h⟩ := bi_some h
      refine aw_Vi (pc := 31) (a := 45) (Bs := [.int q12, .int q14]) C (ok_X4_offer C.tr hq15) kv_X4_offer q926 rfl rfl rfl rfl dX4_brought_31 ⟨(show 1 ≤ 2 by decide), (show 22 ≤ 62 by decide)⟩ ⟨Nat.zero_le _, Nat.zero_le _⟩ [] (Nat.le_of_ble_eq_true rfl) rfl ?_
      refine aw_goto (pc := 34) C 38 dX4_brought_34 rfl ?_
      cases h
      exact aw_iret (pc := 38) C dX4_brought_38
/-! ### NameScopesModel.passOn()Z -/
theorem ok_X4_passOn_j101 {l : Launch} {p : Program} {e : Env} {s : State} {m : MethodId} {args : Array Value} {below : List Frame} {meth : Method} {c : Code} {D : va_G} {cI cL : ClassId} {ad : Nat → Nat} (C : CX p l s m args meth c RX4 cX4_passOn 6 (some .boolean) D cI cL (AA ad s.heap.size)) (hex : ∀ x ∈ c.exceptionTable.toList, False) {r : (Int32 × Mm)} {k4 : Int32 → Int32 → Mm → Option (Int32 × Mm)} {k16 : Int32 → Int32 → Int32 → Mm → Option (Int32 × Mm)} (hk4 : ∀ (v1 : Int32) (v2 : Int32) (μ : Mm), k4 v1 v2 μ = some r → AV l p e s m args below meth c D cI cL ad 3 6 (.inr (some (.int r.1))) r.2 4 [(0, .ref (ad 45)), (1, .int v1), (2, .int v2)] [] μ) (hk16 : ∀ (v1 : Int32) (v2 : Int32) (v3 : Int32) (μ : Mm), k16 v1 v2 v3 μ = some r → AV l p e s m args below meth c D cI cL ad 3 6 (.inr (some (.int r.1))) r.2 16 [(0, .ref (ad 45)), (1, .int v1), (2, .int v2), (3, .int v3)] [] μ) {v2 : Int32} {v3 : Int32} {v4 : Int32} {v5 : Int32} {s0 : Int32} {μ : Mm}  (h : X4_passOn_j101 k4 k16 v2 v3 v4 v5 s0 μ = some r) : AV l p e s m args below meth c D cI cL ad 3 6 (.inr (some (.int r.1))) r.2 101 [(0, .ref (ad 45)), (2, .int v2), (3, .int v3), (4, .int v4), (5, .int v5)] [.int s0] μ := by
  unfold X4_passOn_j101 at h
  refine aw_istore_n (pc := 101) C (x := s0) (lv' := [(1, .int s0), (0, .ref (ad 45)), (2, .int v2), (3, .int v3), (4, .int v4), (5, .int v5)]) dX4_passOn_101 rfl (by decide) rfl rfl ?_
  refine aw_aload_n (pc := 102) C dX4_passOn_102 rfl 1 rfl ?_
  refine aw_get (pc := 103) C (a := 45) (k := 3) (v := .ref (ad 48)) inX4 rfl rfl (by decide) q743 dX4_passOn_103 rfl ?_
  refine aw_iload (pc := 106) C dX4_passOn_106 4 rfl ?_
  refine aw_iload (pc := 108) C dX4_passOn_108 5 rfl ?_
  obtain ⟨g14, h⟩ := ck_some h
  obtain ⟨μ15, eμ15, h⟩ := bd_some h
  refine aw_iastore (pc := 110) C (a := 48) rfl g14 dX4_passOn_110 eμ15 ?_
  refine aw_iinc (pc := 111) C (v := (v3 + 1)) (lv' := [(3, .int (v3 + 1)), (1, .int s0), (0, .ref (ad 45)), (2, .int v2), (4, .int v4), (5, .int v5)]) dX4_passOn_111 3 rfl (by decide) rfl rfl ?_
  refine aw_goto (pc := 114) C 16 dX4_passOn_114 rfl ?_
  refine aw_sub [2, 1, 3, 0] rfl ?_
  exact hk16 s0 v2 (v3 + 1) μ15 h
theorem ok_X4_passOn_j96 {l : Launch} {p : Program} {e : Env} {s : State} {m : MethodId} {args : Array Value} {below : List Frame} {meth : Method} {c : Code} {D : va_G} {cI cL : ClassId} {ad : Nat → Nat} (C : CX p l s m args meth c RX4 cX4_passOn 6 (some .boolean) D cI cL (AA ad s.heap.size)) (hex : ∀ x ∈ c.exceptionTable.toList, False) {r : (Int32 × Mm)} {k4 : Int32 → Int32 → Mm → Option (Int32 × Mm)} {k16 : Int32 → Int32 → Int32 → Mm → Option (Int32 × Mm)} (hk4 : ∀ (v1 : Int32) (v2 : Int32) (μ : Mm), k4 v1 v2 μ = some r → AV l p e s m args below meth c D cI cL ad 3 6 (.inr (some (.int r.1))) r.2 4 [(0, .ref (ad 45)), (1, .int v1), (2, .int v2)] [] μ) (hk16 : ∀ (v1 : Int32) (v2 : Int32) (v3 : Int32) (μ : Mm), k16 v1 v2 v3 μ = some r → AV l p e s m args below meth c D cI cL ad 3 6 (.inr (some (.int r.1))) r.2 16 [(0, .ref (ad 45)), (1, .int v1), (2, .int v2), (3, .int v3)] [] μ) {v2 : Int32} {v3 : Int32} {v4 : Int32} {v5 : Int32} {μ : Mm}  (h : X4_passOn_j96 k4 k16 v2 v3 v4 v5 μ = some r) : AV l p e s m args below meth c D cI cL ad 3 6 (.inr (some (.int r.1))) r.2 96 [(0, .ref (ad 45)), (2, .int v2), (3, .int v3), (4, .int v4), (5, .int v5)] [] μ := by
  unfold X4_passOn_j96 at h
  refine aw_iconst (pc := 96) C (v := 1) dX4_passOn_96 rfl ?_
  refine aw_goto (pc := 97) C 101 dX4_passOn_97 rfl ?_
  refine aw_sub [0, 1, 2, 3, 4] rfl ?_
  exact ok_X4_passOn_j101 C hex hk4 hk16 h
theorem ok_X4_passOn_j77 {l : Launch} {p : Program} {e : Env} {s : State} {m : MethodId} {args : Array Value} {below : List Frame} {meth : Method} {c : Code} {D : va_G} {cI cL : ClassId} {ad : Nat → Nat} (C : CX p l s m args meth c RX4 cX4_passOn 6 (some .boolean) D cI cL (AA ad s.heap.size)) (hex : ∀ x ∈ c.exceptionTable.toList, False) {r : (Int32 × Mm)} {k4 : Int32 → Int32 → Mm → Option (Int32 × Mm)} {k16 : Int32 → Int32 → Int32 → Mm → Option (Int32 × Mm)} (hk4 : ∀ (v1 : Int32) (v2 : Int32) (μ : Mm), k4 v1 v2 μ = some r → AV l p e s m args below meth c D cI cL ad 3 6 (.inr (some (.int r.1))) r.2 4 [(0, .ref (ad 45)), (1, .int v1), (2, .int v2)] [] μ) (hk16 : ∀ (v1 : Int32) (v2 : Int32) (v3 : Int32) (μ : Mm), k16 v1 v2 v3 μ = some r → AV l p e s m args below meth c D cI cL ad 3 6 (.inr (some (.int r.1))) r.2 16 [(0, .ref (ad 45)), (1, .int v1), (2, .int v2), (3, .int v3)] [] μ) {v1 : Int32} {v2 : Int32} {v3 : Int32} {v4 : Int32} {s0 : Int32} {s1 : Int32} {μ : Mm}  (h : X4_passOn_j77 k4 k16 v1 v2 v3 v4 s0 s1 μ = some r) : AV l p e s m args below meth c D cI cL ad 3 6 (.inr (some (.int r.1))) r.2 77 [(0, .ref (ad 45)), (1, .int v1), (2, .int v2), (3, .int v3), (4, .int v4)] [.int s0, .int s1] μ := by
  unfold X4_passOn_j77 at h
  refine aw_ior (pc := 77) C dX4_passOn_77 ?_
  obtain ⟨x13, ex13, h⟩ := bd_some h
  refine aw_istore (pc := 78) C (x := x13) (lv' := [(5, .int x13), (0, .ref (ad 45)), (1, .int v1), (2, .int v2), (3, .int v3), (4, .int v4)]) dX4_passOn_78 (by decide) ex13 rfl ?_
  refine aw_iload_n (pc := 80) C dX4_passOn_80 rfl 2 rfl ?_
  refine aw_if_ne (pc := 81) C 96 dX4_passOn_81 rfl (fun hc => ?_) (fun hc => ?_)
  · replace h := ite_F h hc
    refine aw_sub [1, 3, 4, 5, 0] rfl ?_
    exact ok_X4_passOn_j96 C hex hk4 hk16 h
  · replace h := ite_T h hc
    refine aw_iload (pc := 84) C dX4_passOn_84 0 rfl ?_
    refine aw_aload_n (pc := 86) C dX4_passOn_86 rfl 1 rfl ?_
    refine aw_get (pc := 87) C (a := 45) (k := 3) (v := .ref (ad 48)) inX4 rfl rfl (by decide) q743 dX4_passOn_87 rfl ?_
    refine aw_iload (pc := 90) C dX4_passOn_90 5 rfl ?_
    obtain ⟨g16, h⟩ := ck_some h
    refine aw_iaload (pc := 92) C (a := 48) rfl g16 dX4_passOn_92 ?_
    have kJ : AV l p e s m args below meth c D cI cL ad 3 6 (.inr (some (.int r.1))) r.2 101 [(5, .int x13), (0, .ref (ad 45)), (1, .int v1), (2, .int v2), (3, .int v3), (4, .int v4)] [.int (if x13 = (μ.1 48 (v4 : Int32).toNatClampNeg) then (0 : Int32) else 1)] μ := by
      obtain ⟨x17, ex17, h⟩ := bd_some h
      refine aw_istore_n (pc := 101) C (x := x17) (lv' := [(1, .int x17), (5, .int x13), (0, .ref (ad 45)), (2, .int v2), (3, .int v3), (4, .int v4)]) dX4_passOn_101 rfl (by decide) ex17 rfl ?_
      refine aw_aload_n (pc := 102) C dX4_passOn_102 rfl 2 rfl ?_
      refine aw_get (pc := 103) C (a := 45) (k := 3) (v := .ref (ad 48)) inX4 rfl rfl (by decide) q743 dX4_passOn_103 rfl ?_
      refine aw_iload (pc := 106) C dX4_passOn_106 5 rfl ?_
      refine aw_iload (pc := 108) C dX4_passOn_108 1 rfl ?_
      obtain ⟨g18, h⟩ := ck_some h
      obtain ⟨μ19, eμ19, h⟩ := bd_some h
      refine aw_iastore (pc := 110) C (a := 48) rfl g18 dX4_passOn_110 eμ19 ?_
      refine aw_iinc (pc := 111) C (v := (v3 + 1)) (lv' := [(3, .int (v3 + 1)), (1, .int x17), (5, .int x13), (0, .ref (ad 45)), (2, .int v2), (4, .int v4)]) dX4_passOn_111 4 rfl (by decide) rfl rfl ?_
      refine aw_goto (pc := 114) C 16 dX4_passOn_114 rfl ?_
      refine aw_sub [3, 1, 4, 0] rfl ?_
      exact hk16 x17 v2 (v3 + 1) μ19 h
    refine aw_icmp_eq (pc := 93) C 100 dX4_passOn_93 rfl (fun hd1 => ?_) (fun hd1 => ?_)
    · refine aw_iconst (pc := 100) C (v := 0) dX4_passOn_100 rfl ?_
      rw [if_pos hd1] at kJ
      exact kJ
    · refine aw_iconst (pc := 96) C (v := 1) dX4_passOn_96 rfl ?_
      refine aw_goto (pc := 97) C 101 dX4_passOn_97 rfl ?_
      rw [if_neg hd1] at kJ
      exact kJ
theorem ok_X4_passOn_l16 {l : Launch} {p : Program} {e : Env} {s : State} {m : MethodId} {args : Array Value} {below : List Frame} {meth : Method} {c : Code} {D : va_G} {cI cL : ClassId} {ad : Nat → Nat} (C : CX p l s m args meth c RX4 cX4_passOn 6 (some .boolean) D cI cL (AA ad s.heap.size)) (hex : ∀ x ∈ c.exceptionTable.toList, False) {r : (Int32 × Mm)} {k4 : Int32 → Int32 → Mm → Option (Int32 × Mm)} {k16 : Int32 → Int32 → Int32 → Mm → Option (Int32 × Mm)} (hk4 : ∀ (v1 : Int32) (v2 : Int32) (μ : Mm), k4 v1 v2 μ = some r → AV l p e s m args below meth c D cI cL ad 3 6 (.inr (some (.int r.1))) r.2 4 [(0, .ref (ad 45)), (1, .int v1), (2, .int v2)] [] μ) (hk16 : ∀ (v1 : Int32) (v2 : Int32) (v3 : Int32) (μ : Mm), k16 v1 v2 v3 μ = some r → AV l p e s m args below meth c D cI cL ad 3 6 (.inr (some (.int r.1))) r.2 16 [(0, .ref (ad 45)), (1, .int v1), (2, .int v2), (3, .int v3)] [] μ) {v1 : Int32} {v2 : Int32} {v3 : Int32} {μ : Mm}  (h : X4_passOn_l16 k4 k16 v1 v2 v3 μ = some r) : AV l p e s m args below meth c D cI cL ad 3 6 (.inr (some (.int r.1))) r.2 16 [(0, .ref (ad 45)), (1, .int v1), (2, .int v2), (3, .int v3)] [] μ := by
  unfold X4_passOn_l16 at h
  refine aw_iload_n (pc := 16) C dX4_passOn_16 rfl 3 rfl ?_
  refine aw_bipush (pc := 17) C (v := 26) dX4_passOn_17 rfl ?_
  refine aw_icmp_ge (pc := 19) C 117 dX4_passOn_19 rfl (fun hc => ?_) (fun hc => ?_)
  · replace h := ite_T h hc
    refine aw_iinc (pc := 117) C (v := (v2 + 1)) (lv' := [(2, .int (v2 + 1)), (0, .ref (ad 45)), (1, .int v1), (3, .int v3)]) dX4_passOn_117 2 rfl (by decide) rfl rfl ?_
    refine aw_goto (pc := 120) C 4 dX4_passOn_120 rfl ?_
    refine aw_sub [1, 2, 0] rfl ?_
    exact hk4 v1 (v2 + 1) μ h
  · replace h := ite_F h hc
    refine aw_aload_n (pc := 22) C dX4_passOn_22 rfl 0 rfl ?_
    refine aw_iload_n (pc := 23) C dX4_passOn_23 rfl 2 rfl ?_
    refine aw_iconst (pc := 24) C (v := 5) dX4_passOn_24 rfl ?_
    obtain ⟨q4, hq3, h⟩ := bi_some h
    refine aw_Vi (pc := 25) (a := 45) (Bs := [.int v2, .int 5]) C (ok_X4_at C.tr hq3) kv_X4_at q914 rfl rfl rfl rfl dX4_passOn_25 ⟨(show 1 ≤ 3 by decide), (show 22 ≤ 93 by decide)⟩ ⟨Nat.zero_le _, Nat.zero_le _⟩ [] (Nat.le_of_ble_eq_true rfl) rfl ?_
    refine aw_iconst (pc := 28) C (v := 1) dX4_passOn_28 rfl ?_
    refine aw_icmp_ne (pc := 29) C 117 dX4_passOn_29 rfl (fun hc => ?_) (fun hc => ?_)
    · replace h := ite_F h hc
      refine aw_iinc (pc := 117) C (v := (v2 + 1)) (lv' := [(2, .int (v2 + 1)), (0, .ref (ad 45)), (1, .int v1), (3, .int v3)]) dX4_passOn_117 2 rfl (by decide) rfl rfl ?_
      refine aw_goto (pc := 120) C 4 dX4_passOn_120 rfl ?_
      refine aw_sub [1, 2, 0] rfl ?_
      exact hk4 v1 (v2 + 1) μ h
    · replace h := ite_T h hc
      refine aw_bipush (pc := 32) C (v := 26) dX4_passOn_32 rfl ?_
      refine aw_aload_n (pc := 34) C dX4_passOn_34 rfl 0 rfl ?_
      refine aw_iload_n (pc := 35) C dX4_passOn_35 rfl 2 rfl ?_
      refine aw_iconst (pc := 36) C (v := 0) dX4_passOn_36 rfl ?_
      obtain ⟨q6, hq5, h⟩ := bi_some h
      refine aw_Vi (pc := 37) (a := 45) (Bs := [.int v2, .int 0]) C (ok_X4_at C.tr hq5) kv_X4_at q914 rfl rfl rfl rfl dX4_passOn_37 ⟨(show 1 ≤ 3 by decide), (show 22 ≤ 93 by decide)⟩ ⟨Nat.zero_le _, Nat.zero_le _⟩ [.int 26] (Nat.le_of_ble_eq_true rfl) rfl ?_
      refine aw_imul (pc := 40) C dX4_passOn_40 ?_
      refine aw_iload_n (pc := 41) C dX4_passOn_41 rfl 3 rfl ?_
      refine aw_iadd (pc := 42) C dX4_passOn_42 ?_
      obtain ⟨x7, ex7, h⟩ := bd_some h
      refine aw_istore (pc := 43) C (x := x7) (lv' := [(4, .int x7), (0, .ref (ad 45)), (1, .int v1), (2, .int v2), (3, .int v3)]) dX4_passOn_43 (by decide) ex7 rfl ?_
      refine aw_aload_n (pc := 45) C dX4_passOn_45 rfl 1 rfl ?_
      refine aw_get (pc := 46) C (a := 45) (k := 3) (v := .ref (ad 48)) inX4 rfl rfl (by decide) q743 dX4_passOn_46 rfl ?_
      refine aw_iload (pc := 49) C dX4_passOn_49 0 rfl ?_
      obtain ⟨g8, h⟩ := ck_some h
      refine aw_iaload (pc := 51) C (a := 48) rfl g8 dX4_passOn_51 ?_
      refine aw_aload_n (pc := 52) C dX4_passOn_52 rfl 1 rfl ?_
      refine aw_aload_n (pc := 53) C dX4_passOn_53 rfl 1 rfl ?_
      refine aw_iload_n (pc := 54) C dX4_passOn_54 rfl 3 rfl ?_
      refine aw_iconst (pc := 55) C (v := 0) dX4_passOn_55 rfl ?_
      obtain ⟨q10, hq9, h⟩ := bi_some h
      refine aw_Vi (pc := 56) (a := 45) (Bs := [.int v2, .int 0]) C (ok_X4_at C.tr hq9) kv_X4_at q914 rfl rfl rfl rfl dX4_passOn_56 ⟨(show 1 ≤ 3 by decide), (show 22 ≤ 93 by decide)⟩ ⟨Nat.zero_le _, Nat.zero_le _⟩ [.ref (ad 45), .int (μ.1 48 (x7 : Int32).toNatClampNeg)] (Nat.le_of_ble_eq_true rfl) rfl ?_
      refine aw_iload_n (pc := 59) C dX4_passOn_59 rfl 4 rfl ?_
      obtain ⟨q12, hq11, h⟩ := bi_some h
      refine aw_Vi (pc := 60) (a := 45) (Bs := [.int q10, .int v3]) C (ok_X4_declaredIn C.tr hq11) kv_X4_declaredIn q845 rfl rfl rfl rfl dX4_passOn_60 ⟨(show 2 ≤ 3 by decide), (show 55 ≤ 93 by decide)⟩ ⟨Nat.zero_le _, Nat.zero_le _⟩ [.int (μ.1 48 (x7 : Int32).toNatClampNeg)] (Nat.le_of_ble_eq_true rfl) rfl ?_
      refine aw_iconst (pc := 63) C (v := (-1)) dX4_passOn_63 rfl ?_
      refine aw_icmp_ne (pc := 64) C 76 dX4_passOn_64 rfl (fun hc => ?_) (fun hc => ?_)
      · replace h := ite_F h hc
        refine aw_iconst (pc := 76) C (v := 0) dX4_passOn_76 rfl ?_
        refine aw_sub [1, 2, 3, 4, 0] rfl ?_
        exact ok_X4_passOn_j77 C hex hk4 hk16 h
      · replace h := ite_T h hc
        refine aw_aload_n (pc := 67) C dX4_passOn_67 rfl 1 rfl ?_
        refine aw_iload_n (pc := 68) C dX4_passOn_68 rfl 3 rfl ?_
        refine aw_iload_n (pc := 69) C dX4_passOn_69 rfl 4 rfl ?_
        obtain ⟨q21, hq20, h⟩ := bi_some h
        refine aw_Vi (pc := 70) (a := 45) (Bs := [.int v2, .int v3]) C (ok_X4_brought C.tr hq20) kv_X4_brought q918 rfl rfl rfl rfl dX4_passOn_70 ⟨(show 3 ≤ 3 by decide), (show 84 ≤ 93 by decide)⟩ ⟨Nat.zero_le _, Nat.zero_le _⟩ [.int (μ.1 48 (x7 : Int32).toNatClampNeg)] (Nat.le_of_ble_eq_true rfl) rfl ?_
        refine aw_goto (pc := 73) C 77 dX4_passOn_73 rfl ?_
        refine aw_sub [1, 2, 3, 4, 0] rfl ?_
        exact ok_X4_passOn_j77 C hex hk4 hk16 h
theorem ok_X4_passOn_l16_w {l : Launch} {p : Program} {e : Env} {s : State} {m : MethodId} {args : Array Value} {below : List Frame} {meth : Method} {c : Code} {D : va_G} {cI cL : ClassId} {ad : Nat → Nat} (C : CX p l s m args meth c RX4 cX4_passOn 6 (some .boolean) D cI cL (AA ad s.heap.size)) (hex : ∀ x ∈ c.exceptionTable.toList, False) {r : (Int32 × Mm)} {k4 : Int32 → Int32 → Mm → Option (Int32 × Mm)} (hk4 : ∀ (v1 : Int32) (v2 : Int32) (μ : Mm), k4 v1 v2 μ = some r → AV l p e s m args below meth c D cI cL ad 3 6 (.inr (some (.int r.1))) r.2 4 [(0, .ref (ad 45)), (1, .int v1), (2, .int v2)] [] μ) : ∀ (n : Nat) (v1 : Int32) (v2 : Int32) (v3 : Int32) (μ : Mm) , itr (X4_passOn_l16 k4) (fun _ _ _ _ => none) n v1 v2 v3 μ = some r → AV l p e s m args below meth c D cI cL ad 3 6 (.inr (some (.int r.1))) r.2 16 [(0, .ref (ad 45)), (1, .int v1), (2, .int v2), (3, .int v3)] [] μ := by
  intro n
  induction n with
  | zero => intro v1 v2 v3 μ h; exact nomatch (show (none : Option (Int32 × Mm)) = some r from h)
  | succ n ih => intro v1 v2 v3 μ h; exact ok_X4_passOn_l16 C hex  hk4 ih h
theorem ok_X4_passOn_l4 {l : Launch} {p : Program} {e : Env} {s : State} {m : MethodId} {args : Array Value} {below : List Frame} {meth : Method} {c : Code} {D : va_G} {cI cL : ClassId} {ad : Nat → Nat} (C : CX p l s m args meth c RX4 cX4_passOn 6 (some .boolean) D cI cL (AA ad s.heap.size)) (hex : ∀ x ∈ c.exceptionTable.toList, False) {r : (Int32 × Mm)} {k4 : Int32 → Int32 → Mm → Option (Int32 × Mm)} (hk4 : ∀ (v1 : Int32) (v2 : Int32) (μ : Mm), k4 v1 v2 μ = some r → AV l p e s m args below meth c D cI cL ad 3 6 (.inr (some (.int r.1))) r.2 4 [(0, .ref (ad 45)), (1, .int v1), (2, .int v2)] [] μ) {v1 : Int32} {v2 : Int32} {μ : Mm}  (h : X4_passOn_l4 k4 v1 v2 μ = some r) : AV l p e s m args below meth c D cI cL ad 3 6 (.inr (some (.int r.1))) r.2 4 [(0, .ref (ad 45)), (1, .int v1), (2, .int v2)] [] μ := by
  unfold X4_passOn_l4 at h
  refine aw_iload_n (pc := 4) C dX4_passOn_4 rfl 2 rfl ?_
  refine aw_aload_n (pc := 5) C dX4_passOn_5 rfl 0 rfl ?_
  refine aw_get (pc := 6) C (a := 45) (k := 1) (v := .ref (ad 46)) inX4 rfl rfl (by decide) q741 dX4_passOn_6 rfl ?_
  refine aw_iconst (pc := 9) C (v := 2) dX4_passOn_9 rfl ?_
  obtain ⟨g1, h⟩ := ck_some h
  refine aw_iaload (pc := 10) C (a := 46) rfl g1 dX4_passOn_10 ?_
  refine aw_icmp_ge (pc := 11) C 123 dX4_passOn_11 rfl (fun hc => ?_) (fun hc => ?_)
  · replace h := ite_T h hc
    refine aw_iload_n (pc := 123) C dX4_passOn_123 rfl 1 rfl ?_
    obtain ⟨g2, h⟩ := rz_some h
    cases h
    exact aw_zret (pc := 124) C (b01_nar g2) dX4_passOn_124
  · replace h := ite_F h hc
    refine aw_iconst (pc := 14) C (v := 0) dX4_passOn_14 rfl ?_
    refine aw_istore_n (pc := 15) C (x := 0) (lv' := [(3, .int 0), (0, .ref (ad 45)), (1, .int v1), (2, .int v2)]) dX4_passOn_15 rfl (by decide) rfl rfl ?_
    refine aw_sub [1, 2, 3, 0] rfl ?_
    exact ok_X4_passOn_l16_w C hex hk4 big v1 v2 0 μ h
theorem ok_X4_passOn_l4_w {l : Launch} {p : Program} {e : Env} {s : State} {m : MethodId} {args : Array Value} {below : List Frame} {meth : Method} {c : Code} {D : va_G} {cI cL : ClassId} {ad : Nat → Nat} (C : CX p l s m args meth c RX4 cX4_passOn 6 (some .boolean) D cI cL (AA ad s.heap.size)) (hex : ∀ x ∈ c.exceptionTable.toList, False) {r : (Int32 × Mm)}  : ∀ (n : Nat) (v1 : Int32) (v2 : Int32) (μ : Mm) , itr (X4_passOn_l4) (fun _ _ _ => none) n v1 v2 μ = some r → AV l p e s m args below meth c D cI cL ad 3 6 (.inr (some (.int r.1))) r.2 4 [(0, .ref (ad 45)), (1, .int v1), (2, .int v2)] [] μ := by
  intro n
  induction n with
  | zero => intro v1 v2 μ h; exact nomatch (show (none : Option (Int32 × Mm)) = some r from h)
  | succ n ih => intro v1 v2 μ h; exact ok_X4_passOn_l4 C hex  ih h
theorem ok_X4_passOn {l : Launch} (htr : l.stackTraces = false) {μ : Mm} {r : (Int32 × Mm)}  (h : X4_passOn μ = some r) : MetX l yX4_passOn cX4_passOn 6 (some .boolean) 3 (fun ad => [.ref (ad 45)]) μ (.inr (some (.int r.1))) r.2 := by
  refine MetX.of htr (by decide) rfl (fun ad => Nat.le_of_ble_eq_true rfl) (fun p e s m args below meth c D cI cL ad C hex hw => ?_)
  show AV l p e s m args below meth c D cI cL ad 3 6 (.inr (some (.int r.1))) r.2 0 [(0, .ref (ad 45))] [] μ
  unfold X4_passOn at h
  refine aw_iconst (pc := 0) C (v := 0) dX4_passOn_0 rfl ?_
  refine aw_istore_n (pc := 1) C (x := 0) (lv' := [(1, .int 0), (0, .ref (ad 45))]) dX4_passOn_1 rfl (by decide) rfl rfl ?_
  refine aw_iconst (pc := 2) C (v := 0) dX4_passOn_2 rfl ?_
  refine aw_istore_n (pc := 3) C (x := 0) (lv' := [(2, .int 0), (1, .int 0), (0, .ref (ad 45))]) dX4_passOn_3 rfl (by decide) rfl rfl ?_
  refine aw_sub [2, 1, 0] rfl ?_
  exact ok_X4_passOn_l4_w C hex big 0 0 μ h
/-! ### NameScopesModel.lay()V -/
theorem ok_X4_lay_l91 {l : Launch} {p : Program} {e : Env} {s : State} {m : MethodId} {args : Array Value} {below : List Frame} {meth : Method} {c : Code} {D : va_G} {cI cL : ClassId} {ad : Nat → Nat} (C : CX p l s m args meth c RX4 cX4_lay 2 none D cI cL (AA ad s.heap.size)) (hex : ∀ x ∈ c.exceptionTable.toList, False) {r : Mm} {k91 : Int32 → Mm → Option Mm} (hk91 : ∀ (v1 : Int32) (μ : Mm), k91 v1 μ = some r → AV l p e s m args below meth c D cI cL ad 4 2 (.inr none) r 91 [(0, .ref (ad 45)), (1, .int v1)] [] μ) {v1 : Int32} {μ : Mm}  (h : X4_lay_l91 k91 v1 μ = some r) : AV l p e s m args below meth c D cI cL ad 4 2 (.inr none) r 91 [(0, .ref (ad 45)), (1, .int v1)] [] μ := by
  unfold X4_lay_l91 at h
  refine aw_iload_n (pc := 91) C dX4_lay_91 rfl 1 rfl ?_
  refine aw_if_eq (pc := 92) C 103 dX4_lay_92 rfl (fun hc => ?_) (fun hc => ?_)
  · replace h := ite_T h hc
    refine aw_aload_n (pc := 103) C dX4_lay_103 rfl 0 rfl ?_
    refine aw_iconst (pc := 104) C (v := 1) dX4_lay_104 rfl ?_
    obtain ⟨μ2, eμ2, h⟩ := bd_some h
    refine aw_putI (pc := 105) C (a := 45) (k := 4) (ty := .boolean) inX4 tyX4 tyX4_ok nmX4 rfl rfl (by decide) q744 rfl (by decide +kernel) (b01_nar b01_1) (b01_fit b01_1) (by show 4 < 26; decide) dX4_lay_105 fl_4_4 eμ2 ?_
    cases h
    exact aw_vret (pc := 108) C dX4_lay_108
  · replace h := ite_F h hc
    refine aw_aload_n (pc := 95) C dX4_lay_95 rfl 0 rfl ?_
    obtain ⟨q4, μ5, hq3, h⟩ := bn_some h
    refine aw_Vi (pc := 96) (a := 45) (Bs := []) C (ok_X4_passOn C.tr hq3) kv_X4_passOn q910 rfl rfl rfl rfl dX4_lay_96 ⟨(show 4 ≤ 4 by decide), (show 118 ≤ 124 by decide)⟩ ⟨Nat.zero_le _, Nat.zero_le _⟩ [] (Nat.le_of_ble_eq_true rfl) rfl ?_
    refine aw_istore_n (pc := 99) C (x := q4) (lv' := [(1, .int q4), (0, .ref (ad 45))]) dX4_lay_99 rfl (by decide) rfl rfl ?_
    refine aw_goto (pc := 100) C 91 dX4_lay_100 rfl ?_
    refine aw_sub [1, 0] rfl ?_
    exact hk91 q4 μ5 h
theorem ok_X4_lay_l91_w {l : Launch} {p : Program} {e : Env} {s : State} {m : MethodId} {args : Array Value} {below : List Frame} {meth : Method} {c : Code} {D : va_G} {cI cL : ClassId} {ad : Nat → Nat} (C : CX p l s m args meth c RX4 cX4_lay 2 none D cI cL (AA ad s.heap.size)) (hex : ∀ x ∈ c.exceptionTable.toList, False) {r : Mm}  : ∀ (n : Nat) (v1 : Int32) (μ : Mm) , itr (X4_lay_l91) (fun _ _ => none) n v1 μ = some r → AV l p e s m args below meth c D cI cL ad 4 2 (.inr none) r 91 [(0, .ref (ad 45)), (1, .int v1)] [] μ := by
  intro n
  induction n with
  | zero => intro v1 μ h; exact nomatch (show (none : Option Mm) = some r from h)
  | succ n ih => intro v1 μ h; exact ok_X4_lay_l91 C hex  ih h
theorem ok_X4_lay_l32 {l : Launch} {p : Program} {e : Env} {s : State} {m : MethodId} {args : Array Value} {below : List Frame} {meth : Method} {c : Code} {D : va_G} {cI cL : ClassId} {ad : Nat → Nat} (C : CX p l s m args meth c RX4 cX4_lay 2 none D cI cL (AA ad s.heap.size)) (hex : ∀ x ∈ c.exceptionTable.toList, False) {r : Mm} {k32 : Int32 → Mm → Option Mm} (hk32 : ∀ (v1 : Int32) (μ : Mm), k32 v1 μ = some r → AV l p e s m args below meth c D cI cL ad 4 2 (.inr none) r 32 [(0, .ref (ad 45)), (1, .int v1)] [] μ) {v1 : Int32} {μ : Mm}  (h : X4_lay_l32 k32 v1 μ = some r) : AV l p e s m args below meth c D cI cL ad 4 2 (.inr none) r 32 [(0, .ref (ad 45)), (1, .int v1)] [] μ := by
  unfold X4_lay_l32 at h
  refine aw_iload_n (pc := 32) C dX4_lay_32 rfl 1 rfl ?_
  refine aw_aload_n (pc := 33) C dX4_lay_33 rfl 0 rfl ?_
  refine aw_get (pc := 34) C (a := 45) (k := 1) (v := .ref (ad 46)) inX4 rfl rfl (by decide) q741 dX4_lay_34 rfl ?_
  refine aw_iconst (pc := 37) C (v := 1) dX4_lay_37 rfl ?_
  obtain ⟨g1, h⟩ := ck_some h
  refine aw_iaload (pc := 38) C (a := 46) rfl g1 dX4_lay_38 ?_
  refine aw_icmp_ge (pc := 39) C 89 dX4_lay_39 rfl (fun hc => ?_) (fun hc => ?_)
  · replace h := ite_T h hc
    refine aw_iconst (pc := 89) C (v := 1) dX4_lay_89 rfl ?_
    refine aw_istore_n (pc := 90) C (x := 1) (lv' := [(1, .int 1), (0, .ref (ad 45))]) dX4_lay_90 rfl (by decide) rfl rfl ?_
    refine aw_sub [1, 0] rfl ?_
    exact ok_X4_lay_l91_w C hex big 1 μ h
  · replace h := ite_F h hc
    refine aw_aload_n (pc := 42) C dX4_lay_42 rfl 0 rfl ?_
    refine aw_get (pc := 43) C (a := 45) (k := 3) (v := .ref (ad 48)) inX4 rfl rfl (by decide) q743 dX4_lay_43 rfl ?_
    refine aw_bipush (pc := 46) C (v := 26) dX4_lay_46 rfl ?_
    refine aw_aload_n (pc := 48) C dX4_lay_48 rfl 0 rfl ?_
    refine aw_iload_n (pc := 49) C dX4_lay_49 rfl 1 rfl ?_
    refine aw_iconst (pc := 50) C (v := 0) dX4_lay_50 rfl ?_
    obtain ⟨q7, hq6, h⟩ := bi_some h
    refine aw_Vi (pc := 51) (a := 45) (Bs := [.int v1, .int 0]) C (ok_X4_of C.tr hq6) kv_X4_of q849 rfl rfl rfl rfl dX4_lay_51 ⟨(show 1 ≤ 4 by decide), (show 22 ≤ 124 by decide)⟩ ⟨Nat.zero_le _, Nat.zero_le _⟩ [.int 26, .ref (ad 48)] (Nat.le_of_ble_eq_true rfl) rfl ?_
    refine aw_imul (pc := 54) C dX4_lay_54 ?_
    refine aw_aload_n (pc := 55) C dX4_lay_55 rfl 0 rfl ?_
    refine aw_iload_n (pc := 56) C dX4_lay_56 rfl 1 rfl ?_
    refine aw_iconst (pc := 57) C (v := 1) dX4_lay_57 rfl ?_
    obtain ⟨q9, hq8, h⟩ := bi_some h
    refine aw_Vi (pc := 58) (a := 45) (Bs := [.int v1, .int 1]) C (ok_X4_of C.tr hq8) kv_X4_of q849 rfl rfl rfl rfl dX4_lay_58 ⟨(show 1 ≤ 4 by decide), (show 22 ≤ 124 by decide)⟩ ⟨Nat.zero_le _, Nat.zero_le _⟩ [.int (26 * q7), .ref (ad 48)] (Nat.le_of_ble_eq_true rfl) rfl ?_
    refine aw_iadd (pc := 61) C dX4_lay_61 ?_
    refine aw_dup2 (pc := 62) C dX4_lay_62 rfl rfl ?_
    obtain ⟨g10, h⟩ := ck_some h
    refine aw_iaload (pc := 63) C (a := 48) rfl g10 dX4_lay_63 ?_
    refine aw_aload_n (pc := 64) C dX4_lay_64 rfl 0 rfl ?_
    refine aw_iload_n (pc := 65) C dX4_lay_65 rfl 1 rfl ?_
    refine aw_iconst (pc := 66) C (v := 2) dX4_lay_66 rfl ?_
    obtain ⟨q12, hq11, h⟩ := bi_some h
    refine aw_Vi (pc := 67) (a := 45) (Bs := [.int v1, .int 2]) C (ok_X4_of C.tr hq11) kv_X4_of q849 rfl rfl rfl rfl dX4_lay_67 ⟨(show 1 ≤ 4 by decide), (show 22 ≤ 124 by decide)⟩ ⟨Nat.zero_le _, Nat.zero_le _⟩ [.int (μ.1 48 (((26 * q7) + q9) : Int32).toNatClampNeg), .int ((26 * q7) + q9), .ref (ad 48)] (Nat.le_of_ble_eq_true rfl) rfl ?_
    refine aw_iconst (pc := 70) C (v := 1) dX4_lay_70 rfl ?_
    have kJ : AV l p e s m args below meth c D cI cL ad 4 2 (.inr none) r 81 [(0, .ref (ad 45)), (1, .int v1)] [.int (if q12 = 1 then ((1 <<< (v1 &&& 31)) : Int32) else 0), .int (μ.1 48 (((26 * q7) + q9) : Int32).toNatClampNeg), .int ((26 * q7) + q9), .ref (ad 48)] μ := by
      refine aw_ior (pc := 81) C dX4_lay_81 ?_
      obtain ⟨g13, h⟩ := ck_some h
      obtain ⟨μ14, eμ14, h⟩ := bd_some h
      refine aw_iastore (pc := 82) C (a := 48) rfl g13 dX4_lay_82 eμ14 ?_
      refine aw_iinc (pc := 83) C (v := (v1 + 1)) (lv' := [(1, .int (v1 + 1)), (0, .ref (ad 45))]) dX4_lay_83 1 rfl (by decide) rfl rfl ?_
      refine aw_goto (pc := 86) C 32 dX4_lay_86 rfl ?_
      refine aw_sub [1, 0] rfl ?_
      exact hk32 (v1 + 1) μ14 h
    refine aw_icmp_ne (pc := 71) C 80 dX4_lay_71 rfl (fun hd1 => ?_) (fun hd1 => ?_)
    · refine aw_iconst (pc := 80) C (v := 0) dX4_lay_80 rfl ?_
      rw [if_neg hd1] at kJ
      exact kJ
    · refine aw_iconst (pc := 74) C (v := 1) dX4_lay_74 rfl ?_
      refine aw_iload_n (pc := 75) C dX4_lay_75 rfl 1 rfl ?_
      refine aw_ishl (pc := 76) C dX4_lay_76 ?_
      refine aw_goto (pc := 77) C 81 dX4_lay_77 rfl ?_
      rw [if_pos hd1] at kJ
      exact kJ
theorem ok_X4_lay_l32_w {l : Launch} {p : Program} {e : Env} {s : State} {m : MethodId} {args : Array Value} {below : List Frame} {meth : Method} {c : Code} {D : va_G} {cI cL : ClassId} {ad : Nat → Nat} (C : CX p l s m args meth c RX4 cX4_lay 2 none D cI cL (AA ad s.heap.size)) (hex : ∀ x ∈ c.exceptionTable.toList, False) {r : Mm}  : ∀ (n : Nat) (v1 : Int32) (μ : Mm) , itr (X4_lay_l32) (fun _ _ => none) n v1 μ = some r → AV l p e s m args below meth c D cI cL ad 4 2 (.inr none) r 32 [(0, .ref (ad 45)), (1, .int v1)] [] μ := by
  intro n
  induction n with
  | zero => intro v1 μ h; exact nomatch (show (none : Option Mm) = some r from h)
  | succ n ih => intro v1 μ h; exact ok_X4_lay_l32 C hex  ih h
theorem ok_X4_lay_l10 {l : Launch} {p : Program} {e : Env} {s : State} {m : MethodId} {args : Array Value} {below : List Frame} {meth : Method} {c : Code} {D : va_G} {cI cL : ClassId} {ad : Nat → Nat} (C : CX p l s m args meth c RX4 cX4_lay 2 none D cI cL (AA ad s.heap.size)) (hex : ∀ x ∈ c.exceptionTable.toList, False) {r : Mm} {k10 : Int32 → Mm → Option Mm} (hk10 : ∀ (v1 : Int32) (μ : Mm), k10 v1 μ = some r → AV l p e s m args below meth c D cI cL ad 4 2 (.inr none) r 10 [(0, .ref (ad 45)), (1, .int v1)] [] μ) {v1 : Int32} {μ : Mm}  (h : X4_lay_l10 k10 v1 μ = some r) : AV l p e s m args below meth c D cI cL ad 4 2 (.inr none) r 10 [(0, .ref (ad 45)), (1, .int v1)] [] μ := by
  unfold X4_lay_l10 at h
  refine aw_iload_n (pc := 10) C dX4_lay_10 rfl 1 rfl ?_
  refine aw_sipush (pc := 11) C (v := 416) dX4_lay_11 rfl ?_
  refine aw_icmp_ge (pc := 14) C 30 dX4_lay_14 rfl (fun hc => ?_) (fun hc => ?_)
  · replace h := ite_T h hc
    refine aw_iconst (pc := 30) C (v := 0) dX4_lay_30 rfl ?_
    refine aw_istore_n (pc := 31) C (x := 0) (lv' := [(1, .int 0), (0, .ref (ad 45))]) dX4_lay_31 rfl (by decide) rfl rfl ?_
    refine aw_sub [1, 0] rfl ?_
    exact ok_X4_lay_l32_w C hex big 0 μ h
  · replace h := ite_F h hc
    refine aw_aload_n (pc := 17) C dX4_lay_17 rfl 0 rfl ?_
    refine aw_get (pc := 18) C (a := 45) (k := 3) (v := .ref (ad 48)) inX4 rfl rfl (by decide) q743 dX4_lay_18 rfl ?_
    refine aw_iload_n (pc := 21) C dX4_lay_21 rfl 1 rfl ?_
    refine aw_iconst (pc := 22) C (v := 0) dX4_lay_22 rfl ?_
    obtain ⟨g15, h⟩ := ck_some h
    obtain ⟨μ16, eμ16, h⟩ := bd_some h
    refine aw_iastore (pc := 23) C (a := 48) rfl g15 dX4_lay_23 eμ16 ?_
    refine aw_iinc (pc := 24) C (v := (v1 + 1)) (lv' := [(1, .int (v1 + 1)), (0, .ref (ad 45))]) dX4_lay_24 1 rfl (by decide) rfl rfl ?_
    refine aw_goto (pc := 27) C 10 dX4_lay_27 rfl ?_
    refine aw_sub [1, 0] rfl ?_
    exact hk10 (v1 + 1) μ16 h
theorem ok_X4_lay_l10_w {l : Launch} {p : Program} {e : Env} {s : State} {m : MethodId} {args : Array Value} {below : List Frame} {meth : Method} {c : Code} {D : va_G} {cI cL : ClassId} {ad : Nat → Nat} (C : CX p l s m args meth c RX4 cX4_lay 2 none D cI cL (AA ad s.heap.size)) (hex : ∀ x ∈ c.exceptionTable.toList, False) {r : Mm}  : ∀ (n : Nat) (v1 : Int32) (μ : Mm) , itr (X4_lay_l10) (fun _ _ => none) n v1 μ = some r → AV l p e s m args below meth c D cI cL ad 4 2 (.inr none) r 10 [(0, .ref (ad 45)), (1, .int v1)] [] μ := by
  intro n
  induction n with
  | zero => intro v1 μ h; exact nomatch (show (none : Option Mm) = some r from h)
  | succ n ih => intro v1 μ h; exact ok_X4_lay_l10 C hex  ih h
theorem ok_X4_lay {l : Launch} (htr : l.stackTraces = false) {μ : Mm} {r : Mm}  (h : X4_lay μ = some r) : MetX l yX4_lay cX4_lay 2 none 4 (fun ad => [.ref (ad 45)]) μ (.inr none) r := by
  refine MetX.of htr (by decide) rfl (fun ad => Nat.le_of_ble_eq_true rfl) (fun p e s m args below meth c D cI cL ad C hex hw => ?_)
  show AV l p e s m args below meth c D cI cL ad 4 2 (.inr none) r 0 [(0, .ref (ad 45))] [] μ
  unfold X4_lay at h
  refine aw_aload_n (pc := 0) C dX4_lay_0 rfl 0 rfl ?_
  refine aw_get (pc := 1) C (a := 45) (k := 4) (v := .int (μ.1 45 4)) inX4 rfl rfl (by decide) q744 dX4_lay_1 rfl ?_
  refine aw_if_eq (pc := 4) C 8 dX4_lay_4 rfl (fun hc => ?_) (fun hc => ?_)
  · replace h := ite_T h hc
    refine aw_iconst (pc := 8) C (v := 0) dX4_lay_8 rfl ?_
    refine aw_istore_n (pc := 9) C (x := 0) (lv' := [(1, .int 0), (0, .ref (ad 45))]) dX4_lay_9 rfl (by decide) rfl rfl ?_
    refine aw_sub [1, 0] rfl ?_
    exact ok_X4_lay_l10_w C hex big 0 μ h
  · replace h := ite_F h hc
    cases h
    exact aw_vret (pc := 7) C dX4_lay_7
/-! ### NameScopesModel.bits(I)I -/
theorem ok_X4_bits_l4 {l : Launch} {p : Program} {e : Env} {s : State} {m : MethodId} {args : Array Value} {below : List Frame} {meth : Method} {c : Code} {D : va_G} {cI cL : ClassId} {ad : Nat → Nat} (C : CX p l s m args meth c RX4 cX4_bits 3 (some .int) D cI cL (AA ad s.heap.size)) (hex : ∀ x ∈ c.exceptionTable.toList, False) {r : Int32} {v0 : Int32} {μ : Mm} {k4 : Int32 → Int32 → Option Int32} (hk4 : ∀ (v1 : Int32) (v2 : Int32), k4 v1 v2 = some r → AV l p e s m args below meth c D cI cL ad 0 3 (.inr (some (.int r))) μ 4 [(0, .int v0), (1, .int v1), (2, .int v2)] [] μ) {v1 : Int32} {v2 : Int32}  (h : X4_bits_l4 v0 k4 v1 v2 = some r) : AV l p e s m args below meth c D cI cL ad 0 3 (.inr (some (.int r))) μ 4 [(0, .int v0), (1, .int v1), (2, .int v2)] [] μ := by
  unfold X4_bits_l4 at h
  refine aw_iload_n (pc := 4) C dX4_bits_4 rfl 2 rfl ?_
  refine aw_bipush (pc := 5) C (v := 30) dX4_bits_5 rfl ?_
  refine aw_icmp_ge (pc := 7) C 24 dX4_bits_7 rfl (fun hc => ?_) (fun hc => ?_)
  · replace h := ite_T h hc
    refine aw_iload_n (pc := 24) C dX4_bits_24 rfl 1 rfl ?_
    cases h
    exact aw_iret (pc := 25) C dX4_bits_25
  · replace h := ite_F h hc
    refine aw_iload_n (pc := 10) C dX4_bits_10 rfl 1 rfl ?_
    refine aw_iload_n (pc := 11) C dX4_bits_11 rfl 0 rfl ?_
    refine aw_iload_n (pc := 12) C dX4_bits_12 rfl 2 rfl ?_
    refine aw_ishr (pc := 13) C dX4_bits_13 ?_
    refine aw_iconst (pc := 14) C (v := 1) dX4_bits_14 rfl ?_
    refine aw_iand (pc := 15) C dX4_bits_15 ?_
    refine aw_iadd (pc := 16) C dX4_bits_16 ?_
    obtain ⟨x1, ex1, h⟩ := bd_some h
    refine aw_istore_n (pc := 17) C (x := x1) (lv' := [(1, .int x1), (0, .int v0), (2, .int v2)]) dX4_bits_17 rfl (by decide) ex1 rfl ?_
    refine aw_iinc (pc := 18) C (v := (v2 + 1)) (lv' := [(2, .int (v2 + 1)), (1, .int x1), (0, .int v0)]) dX4_bits_18 2 rfl (by decide) rfl rfl ?_
    refine aw_goto (pc := 21) C 4 dX4_bits_21 rfl ?_
    refine aw_sub [2, 1, 0] rfl ?_
    exact hk4 x1 (v2 + 1) h
theorem ok_X4_bits_l4_w {l : Launch} {p : Program} {e : Env} {s : State} {m : MethodId} {args : Array Value} {below : List Frame} {meth : Method} {c : Code} {D : va_G} {cI cL : ClassId} {ad : Nat → Nat} (C : CX p l s m args meth c RX4 cX4_bits 3 (some .int) D cI cL (AA ad s.heap.size)) (hex : ∀ x ∈ c.exceptionTable.toList, False) {r : Int32} {v0 : Int32} {μ : Mm} : ∀ (n : Nat) (v1 : Int32) (v2 : Int32) , itr (X4_bits_l4 v0) (fun _ _ => none) n v1 v2 = some r → AV l p e s m args below meth c D cI cL ad 0 3 (.inr (some (.int r))) μ 4 [(0, .int v0), (1, .int v1), (2, .int v2)] [] μ := by
  intro n
  induction n with
  | zero => intro v1 v2 h; exact nomatch (show (none : Option Int32) = some r from h)
  | succ n ih => intro v1 v2 h; exact ok_X4_bits_l4 C hex (v0 := v0) ih h
theorem ok_X4_bits {l : Launch} (htr : l.stackTraces = false) {v0 : Int32} {μ : Mm} {r : Int32}  (h : X4_bits v0 = some r) : MetX l yX4_bits cX4_bits 3 (some .int) 0 (fun ad => [.int v0]) μ (.inr (some (.int r))) μ := by
  refine MetX.of htr (by decide) rfl (fun ad => Nat.le_of_ble_eq_true rfl) (fun p e s m args below meth c D cI cL ad C hex hw => ?_)
  show AV l p e s m args below meth c D cI cL ad 0 3 (.inr (some (.int r))) μ 0 [(0, .int v0)] [] μ
  unfold X4_bits at h
  refine aw_iconst (pc := 0) C (v := 0) dX4_bits_0 rfl ?_
  refine aw_istore_n (pc := 1) C (x := 0) (lv' := [(1, .int 0), (0, .int v0)]) dX4_bits_1 rfl (by decide) rfl rfl ?_
  refine aw_iconst (pc := 2) C (v := 0) dX4_bits_2 rfl ?_
  refine aw_istore_n (pc := 3) C (x := 0) (lv' := [(2, .int 0), (1, .int 0), (0, .int v0)]) dX4_bits_3 rfl (by decide) rfl rfl ?_
  refine aw_sub [2, 1, 0] rfl ?_
  exact ok_X4_bits_l4_w C hex big 0 0 h
/-! ### NameScopesModel.allPairs()I -/
theorem ok_X4_allPairs_l8 {l : Launch} {p : Program} {e : Env} {s : State} {m : MethodId} {args : Array Value} {below : List Frame} {meth : Method} {c : Code} {D : va_G} {cI cL : ClassId} {ad : Nat → Nat} (C : CX p l s m args meth c RX4 cX4_allPairs 3 (some .int) D cI cL (AA ad s.heap.size)) (hex : ∀ x ∈ c.exceptionTable.toList, False) {r : (Int32 × Mm)} {k8 : Int32 → Int32 → Mm → Option (Int32 × Mm)} (hk8 : ∀ (v1 : Int32) (v2 : Int32) (μ : Mm), k8 v1 v2 μ = some r → AV l p e s m args below meth c D cI cL ad 5 3 (.inr (some (.int r.1))) r.2 8 [(0, .ref (ad 45)), (1, .int v1), (2, .int v2)] [] μ) {v1 : Int32} {v2 : Int32} {μ : Mm}  (h : X4_allPairs_l8 k8 v1 v2 μ = some r) : AV l p e s m args below meth c D cI cL ad 5 3 (.inr (some (.int r.1))) r.2 8 [(0, .ref (ad 45)), (1, .int v1), (2, .int v2)] [] μ := by
  unfold X4_allPairs_l8 at h
  refine aw_iload_n (pc := 8) C dX4_allPairs_8 rfl 2 rfl ?_
  refine aw_sipush (pc := 9) C (v := 416) dX4_allPairs_9 rfl ?_
  refine aw_icmp_ge (pc := 12) C 33 dX4_allPairs_12 rfl (fun hc => ?_) (fun hc => ?_)
  · replace h := ite_T h hc
    refine aw_iload_n (pc := 33) C dX4_allPairs_33 rfl 1 rfl ?_
    cases h
    exact aw_iret (pc := 34) C dX4_allPairs_34
  · replace h := ite_F h hc
    refine aw_iload_n (pc := 15) C dX4_allPairs_15 rfl 1 rfl ?_
    refine aw_aload_n (pc := 16) C dX4_allPairs_16 rfl 0 rfl ?_
    refine aw_get (pc := 17) C (a := 45) (k := 3) (v := .ref (ad 48)) inX4 rfl rfl (by decide) q743 dX4_allPairs_17 rfl ?_
    refine aw_iload_n (pc := 20) C dX4_allPairs_20 rfl 2 rfl ?_
    obtain ⟨g4, h⟩ := ck_some h
    refine aw_iaload (pc := 21) C (a := 48) rfl g4 dX4_allPairs_21 ?_
    obtain ⟨q6, hq5, h⟩ := bi_some h
    refine aw_Si (pc := 22) (Bs := [.int (μ.1 48 (v2 : Int32).toNatClampNeg)]) C (ok_X4_bits C.tr hq5) kv_X4_bits q1019 rfl rfl dX4_allPairs_22 ⟨(show 1 ≤ 5 by decide), (show 22 ≤ 155 by decide)⟩ ⟨Nat.zero_le _, Nat.zero_le _⟩ [.int v1] (Nat.le_of_ble_eq_true rfl) rfl ?_
    refine aw_iadd (pc := 25) C dX4_allPairs_25 ?_
    obtain ⟨x7, ex7, h⟩ := bd_some h
    refine aw_istore_n (pc := 26) C (x := x7) (lv' := [(1, .int x7), (0, .ref (ad 45)), (2, .int v2)]) dX4_allPairs_26 rfl (by decide) ex7 rfl ?_
    refine aw_iinc (pc := 27) C (v := (v2 + 1)) (lv' := [(2, .int (v2 + 1)), (1, .int x7), (0, .ref (ad 45))]) dX4_allPairs_27 2 rfl (by decide) rfl rfl ?_
    refine aw_goto (pc := 30) C 8 dX4_allPairs_30 rfl ?_
    refine aw_sub [2, 1, 0] rfl ?_
    exact hk8 x7 (v2 + 1) μ h
theorem ok_X4_allPairs_l8_w {l : Launch} {p : Program} {e : Env} {s : State} {m : MethodId} {args : Array Value} {below : List Frame} {meth : Method} {c : Code} {D : va_G} {cI cL : ClassId} {ad : Nat → Nat} (C : CX p l s m args meth c RX4 cX4_allPairs 3 (some .int) D cI cL (AA ad s.heap.size)) (hex : ∀ x ∈ c.exceptionTable.toList, False) {r : (Int32 × Mm)}  : ∀ (n : Nat) (v1 : Int32) (v2 : Int32) (μ : Mm) , itr (X4_allPairs_l8) (fun _ _ _ => none) n v1 v2 μ = some r → AV l p e s m args below meth c D cI cL ad 5 3 (.inr (some (.int r.1))) r.2 8 [(0, .ref (ad 45)), (1, .int v1), (2, .int v2)] [] μ := by
  intro n
  induction n with
  | zero => intro v1 v2 μ h; exact nomatch (show (none : Option (Int32 × Mm)) = some r from h)
  | succ n ih => intro v1 v2 μ h; exact ok_X4_allPairs_l8 C hex  ih h
theorem ok_X4_allPairs {l : Launch} (htr : l.stackTraces = false) {μ : Mm} {r : (Int32 × Mm)}  (h : X4_allPairs μ = some r) : MetX l yX4_allPairs cX4_allPairs 3 (some .int) 5 (fun ad => [.ref (ad 45)]) μ (.inr (some (.int r.1))) r.2 := by
  refine MetX.of htr (by decide) rfl (fun ad => Nat.le_of_ble_eq_true rfl) (fun p e s m args below meth c D cI cL ad C hex hw => ?_)
  show AV l p e s m args below meth c D cI cL ad 5 3 (.inr (some (.int r.1))) r.2 0 [(0, .ref (ad 45))] [] μ
  unfold X4_allPairs at h
  refine aw_aload_n (pc := 0) C dX4_allPairs_0 rfl 0 rfl ?_
  obtain ⟨μ3, hq1, h⟩ := bi_some h
  refine aw_Vv (pc := 1) (a := 45) (Bs := []) C (ok_X4_lay C.tr hq1) kv_X4_lay q906 rfl rfl rfl rfl dX4_allPairs_1 ⟨(show 5 ≤ 5 by decide), (show 145 ≤ 155 by decide)⟩ ⟨Nat.zero_le _, Nat.zero_le _⟩ [] (Nat.le_of_ble_eq_true rfl) rfl ?_
  refine aw_iconst (pc := 4) C (v := 0) dX4_allPairs_4 rfl ?_
  refine aw_istore_n (pc := 5) C (x := 0) (lv' := [(1, .int 0), (0, .ref (ad 45))]) dX4_allPairs_5 rfl (by decide) rfl rfl ?_
  refine aw_iconst (pc := 6) C (v := 0) dX4_allPairs_6 rfl ?_
  refine aw_istore_n (pc := 7) C (x := 0) (lv' := [(2, .int 0), (1, .int 0), (0, .ref (ad 45))]) dX4_allPairs_7 rfl (by decide) rfl rfl ?_
  refine aw_sub [2, 1, 0] rfl ?_
  exact ok_X4_allPairs_l8_w C hex big 0 0 μ3 h
/-! ### NameScopesModel.append(I)I -/
theorem ok_X4_append_j30 {l : Launch} {p : Program} {e : Env} {s : State} {m : MethodId} {args : Array Value} {below : List Frame} {meth : Method} {c : Code} {D : va_G} {cI cL : ClassId} {ad : Nat → Nat} (C : CX p l s m args meth c RX4 cX4_append 2 (some .int) D cI cL (AA ad s.heap.size)) (hex : ∀ x ∈ c.exceptionTable.toList, False) {r : (Int32 × Mm)} {v1 : Int32} {s0 : Int32} {μ : Mm}  (h : X4_append_j30 v1 s0 μ = some r) : AV l p e s m args below meth c D cI cL ad 1 2 (.inr (some (.int r.1))) r.2 30 [(0, .ref (ad 45)), (1, .int v1)] [.int s0, .ref (ad 45)] μ := by
  unfold X4_append_j30 at h
  obtain ⟨μ7, eμ7, h⟩ := bd_some h
  refine aw_putI (pc := 30) C (a := 45) (k := 0) (ty := .int) inX4 tyX4 tyX4_ok nmX4 rfl rfl (by decide) q740 rfl (by decide +kernel) rfl rfl (by show 0 < 26; decide) dX4_append_30 fl_4_0 eμ7 ?_
  refine aw_aload_n (pc := 33) C dX4_append_33 rfl 0 rfl ?_
  refine aw_get (pc := 34) C (a := 45) (k := 0) (v := .int (μ7.1 45 0)) inX4 rfl rfl (by decide) q740 dX4_append_34 rfl ?_
  refine aw_if_le (pc := 37) C 42 dX4_append_37 rfl (fun hc => ?_) (fun hc => ?_)
  · replace h := ite_T h hc
    refine aw_aload_n (pc := 42) C dX4_append_42 rfl 0 rfl ?_
    refine aw_get (pc := 43) C (a := 45) (k := 6) (v := .ref (ad 49)) inX4 rfl rfl (by decide) q746 dX4_append_43 rfl ?_
    refine aw_aload_n (pc := 46) C dX4_append_46 rfl 0 rfl ?_
    refine aw_get (pc := 47) C (a := 45) (k := 5) (v := .int (μ7.1 45 5)) inX4 rfl rfl (by decide) q745 dX4_append_47 rfl ?_
    refine aw_iload_n (pc := 50) C dX4_append_50 rfl 1 rfl ?_
    obtain ⟨g8, h⟩ := ck_some h
    obtain ⟨μ9, eμ9, h⟩ := bd_some h
    refine aw_iastore (pc := 51) C (a := 49) rfl g8 dX4_append_51 eμ9 ?_
    refine aw_aload_n (pc := 52) C dX4_append_52 rfl 0 rfl ?_
    refine aw_dup (pc := 53) C dX4_append_53 rfl ?_
    refine aw_get (pc := 54) C (a := 45) (k := 5) (v := .int (μ9.1 45 5)) inX4 rfl rfl (by decide) q745 dX4_append_54 rfl ?_
    refine aw_iconst (pc := 57) C (v := 1) dX4_append_57 rfl ?_
    refine aw_iadd (pc := 58) C dX4_append_58 ?_
    obtain ⟨μ10, eμ10, h⟩ := bd_some h
    refine aw_putI (pc := 59) C (a := 45) (k := 5) (ty := .int) inX4 tyX4 tyX4_ok nmX4 rfl rfl (by decide) q745 rfl (by decide +kernel) rfl rfl (by show 5 < 26; decide) dX4_append_59 fl_4_5 eμ10 ?_
    refine aw_aload_n (pc := 62) C dX4_append_62 rfl 0 rfl ?_
    refine aw_get (pc := 63) C (a := 45) (k := 5) (v := .int (μ10.1 45 5)) inX4 rfl rfl (by decide) q745 dX4_append_63 rfl ?_
    cases h
    exact aw_iret (pc := 66) C dX4_append_66
  · replace h := ite_F h hc
    refine aw_iconst (pc := 40) C (v := 0) dX4_append_40 rfl ?_
    cases h
    exact aw_iret (pc := 41) C dX4_append_41
theorem ok_X4_append {l : Launch} (htr : l.stackTraces = false) {v1 : Int32} {μ : Mm} {r : (Int32 × Mm)}  (h : X4_append v1 μ = some r) : MetX l yX4_append cX4_append 2 (some .int) 1 (fun ad => [.ref (ad 45), .int v1]) μ (.inr (some (.int r.1))) r.2 := by
  refine MetX.of htr (by decide) rfl (fun ad => Nat.le_of_ble_eq_true rfl) (fun p e s m args below meth c D cI cL ad C hex hw => ?_)
  show AV l p e s m args below meth c D cI cL ad 1 2 (.inr (some (.int r.1))) r.2 0 [(0, .ref (ad 45)), (1, .int v1)] [] μ
  unfold X4_append at h
  refine aw_aload_n (pc := 0) C dX4_append_0 rfl 0 rfl ?_
  refine aw_iload_n (pc := 1) C dX4_append_1 rfl 1 rfl ?_
  refine aw_bipush (pc := 2) C (v := 33) dX4_append_2 rfl ?_
  refine aw_bipush (pc := 4) C (v := 126) dX4_append_4 rfl ?_
  obtain ⟨q2, hq1, h⟩ := bi_some h
  refine aw_Si (pc := 6) (Bs := [.int v1, .int 33, .int 126]) C (ok_X4_within C.tr hq1) kv_X4_within q835 rfl rfl dX4_append_6 ⟨(show 1 ≤ 1 by decide), (show 22 ≤ 31 by decide)⟩ ⟨Nat.zero_le _, Nat.zero_le _⟩ [.ref (ad 45)] (Nat.le_of_ble_eq_true rfl) rfl ?_
  refine aw_if_ne (pc := 9) C 16 dX4_append_9 rfl (fun hc => ?_) (fun hc => ?_)
  · replace h := ite_F h hc
    refine aw_aload_n (pc := 16) C dX4_append_16 rfl 0 rfl ?_
    refine aw_get (pc := 17) C (a := 45) (k := 5) (v := .int (μ.1 45 5)) inX4 rfl rfl (by decide) q745 dX4_append_17 rfl ?_
    refine aw_bipush (pc := 20) C (v := 50) dX4_append_20 rfl ?_
    have kJ : AV l p e s m args below meth c D cI cL ad 1 2 (.inr (some (.int r.1))) r.2 30 [(0, .ref (ad 45)), (1, .int v1)] [.int (if (μ.1 45 5) = 50 then (2 : Int32) else 0), .ref (ad 45)] μ := by
      obtain ⟨μ3, eμ3, h⟩ := bd_some h
      refine aw_putI (pc := 30) C (a := 45) (k := 0) (ty := .int) inX4 tyX4 tyX4_ok nmX4 rfl rfl (by decide) q740 rfl (by decide +kernel) rfl rfl (by show 0 < 26; decide) dX4_append_30 fl_4_0 eμ3 ?_
      refine aw_aload_n (pc := 33) C dX4_append_33 rfl 0 rfl ?_
      refine aw_get (pc := 34) C (a := 45) (k := 0) (v := .int (μ3.1 45 0)) inX4 rfl rfl (by decide) q740 dX4_append_34 rfl ?_
      refine aw_if_le (pc := 37) C 42 dX4_append_37 rfl (fun hc => ?_) (fun hc => ?_)
      · replace h := ite_T h hc
        refine aw_aload_n (pc := 42) C dX4_append_42 rfl 0 rfl ?_
        refine aw_get (pc := 43) C (a := 45) (k := 6) (v := .ref (ad 49)) inX4 rfl rfl (by decide) q746 dX4_append_43 rfl ?_
        refine aw_aload_n (pc := 46) C dX4_append_46 rfl 0 rfl ?_
        refine aw_get (pc := 47) C (a := 45) (k := 5) (v := .int (μ3.1 45 5)) inX4 rfl rfl (by decide) q745 dX4_append_47 rfl ?_
        refine aw_iload_n (pc := 50) C dX4_append_50 rfl 1 rfl ?_
        obtain ⟨g4, h⟩ := ck_some h
        obtain ⟨μ5, eμ5, h⟩ := bd_some h
        refine aw_iastore (pc := 51) C (a := 49) rfl g4 dX4_append_51 eμ5 ?_
        refine aw_aload_n (pc := 52) C dX4_append_52 rfl 0 rfl ?_
        refine aw_dup (pc := 53) C dX4_append_53 rfl ?_
        refine aw_get (pc := 54) C (a := 45) (k := 5) (v := .int (μ5.1 45 5)) inX4 rfl rfl (by decide) q745 dX4_append_54 rfl ?_
        refine aw_iconst (pc := 57) C (v := 1) dX4_append_57 rfl ?_
        refine aw_iadd (pc := 58) C dX4_append_58 ?_
        obtain ⟨μ6, eμ6, h⟩ := bd_some h
        refine aw_putI (pc := 59) C (a := 45) (k := 5) (ty := .int) inX4 tyX4 tyX4_ok nmX4 rfl rfl (by decide) q745 rfl (by decide +kernel) rfl rfl (by show 5 < 26; decide) dX4_append_59 fl_4_5 eμ6 ?_
        refine aw_aload_n (pc := 62) C dX4_append_62 rfl 0 rfl ?_
        refine aw_get (pc := 63) C (a := 45) (k := 5) (v := .int (μ6.1 45 5)) inX4 rfl rfl (by decide) q745 dX4_append_63 rfl ?_
        cases h
        exact aw_iret (pc := 66) C dX4_append_66
      · replace h := ite_F h hc
        refine aw_iconst (pc := 40) C (v := 0) dX4_append_40 rfl ?_
        cases h
        exact aw_iret (pc := 41) C dX4_append_41
    refine aw_icmp_ne (pc := 22) C 29 dX4_append_22 rfl (fun hd1 => ?_) (fun hd1 => ?_)
    · refine aw_iconst (pc := 29) C (v := 0) dX4_append_29 rfl ?_
      rw [if_neg hd1] at kJ
      exact kJ
    · refine aw_iconst (pc := 25) C (v := 2) dX4_append_25 rfl ?_
      refine aw_goto (pc := 26) C 30 dX4_append_26 rfl ?_
      rw [if_pos hd1] at kJ
      exact kJ
  · replace h := ite_T h hc
    refine aw_iconst (pc := 12) C (v := 1) dX4_append_12 rfl ?_
    refine aw_goto (pc := 13) C 30 dX4_append_13 rfl ?_
    refine aw_sub [0, 1] rfl ?_
    exact ok_X4_append_j30 C hex h
/-! ### NameScopesModel.fresh()V -/
theorem ok_X4_fresh_l2 {l : Launch} {p : Program} {e : Env} {s : State} {m : MethodId} {args : Array Value} {below : List Frame} {meth : Method} {c : Code} {D : va_G} {cI cL : ClassId} {ad : Nat → Nat} (C : CX p l s m args meth c RX4 cX4_fresh 2 none D cI cL (AA ad s.heap.size)) (hex : ∀ x ∈ c.exceptionTable.toList, False) {r : Mm} {k2 : Int32 → Mm → Option Mm} (hk2 : ∀ (v1 : Int32) (μ : Mm), k2 v1 μ = some r → AV l p e s m args below meth c D cI cL ad 0 2 (.inr none) r 2 [(0, .ref (ad 45)), (1, .int v1)] [] μ) {v1 : Int32} {μ : Mm}  (h : X4_fresh_l2 k2 v1 μ = some r) : AV l p e s m args below meth c D cI cL ad 0 2 (.inr none) r 2 [(0, .ref (ad 45)), (1, .int v1)] [] μ := by
  unfold X4_fresh_l2 at h
  refine aw_iload_n (pc := 2) C dX4_fresh_2 rfl 1 rfl ?_
  refine aw_sipush (pc := 3) C (v := 290) dX4_fresh_3 rfl ?_
  refine aw_icmp_ge (pc := 6) C 22 dX4_fresh_6 rfl (fun hc => ?_) (fun hc => ?_)
  · replace h := ite_T h hc
    refine aw_aload_n (pc := 22) C dX4_fresh_22 rfl 0 rfl ?_
    refine aw_get (pc := 23) C (a := 45) (k := 1) (v := .ref (ad 46)) inX4 rfl rfl (by decide) q741 dX4_fresh_23 rfl ?_
    refine aw_iconst (pc := 26) C (v := 0) dX4_fresh_26 rfl ?_
    refine aw_iconst (pc := 27) C (v := 1) dX4_fresh_27 rfl ?_
    obtain ⟨g1, h⟩ := ck_some h
    obtain ⟨μ2, eμ2, h⟩ := bd_some h
    refine aw_iastore (pc := 28) C (a := 46) rfl g1 dX4_fresh_28 eμ2 ?_
    refine aw_aload_n (pc := 29) C dX4_fresh_29 rfl 0 rfl ?_
    refine aw_get (pc := 30) C (a := 45) (k := 1) (v := .ref (ad 46)) inX4 rfl rfl (by decide) q741 dX4_fresh_30 rfl ?_
    refine aw_iconst (pc := 33) C (v := 4) dX4_fresh_33 rfl ?_
    refine aw_iconst (pc := 34) C (v := (-1)) dX4_fresh_34 rfl ?_
    obtain ⟨g3, h⟩ := ck_some h
    obtain ⟨μ4, eμ4, h⟩ := bd_some h
    refine aw_iastore (pc := 35) C (a := 46) rfl g3 dX4_fresh_35 eμ4 ?_
    refine aw_aload_n (pc := 36) C dX4_fresh_36 rfl 0 rfl ?_
    refine aw_iconst (pc := 37) C (v := 0) dX4_fresh_37 rfl ?_
    obtain ⟨μ5, eμ5, h⟩ := bd_some h
    refine aw_putI (pc := 38) C (a := 45) (k := 4) (ty := .boolean) inX4 tyX4 tyX4_ok nmX4 rfl rfl (by decide) q744 rfl (by decide +kernel) (b01_nar b01_0) (b01_fit b01_0) (by show 4 < 26; decide) dX4_fresh_38 fl_4_4 eμ5 ?_
    cases h
    exact aw_vret (pc := 41) C dX4_fresh_41
  · replace h := ite_F h hc
    refine aw_aload_n (pc := 9) C dX4_fresh_9 rfl 0 rfl ?_
    refine aw_get (pc := 10) C (a := 45) (k := 1) (v := .ref (ad 46)) inX4 rfl rfl (by decide) q741 dX4_fresh_10 rfl ?_
    refine aw_iload_n (pc := 13) C dX4_fresh_13 rfl 1 rfl ?_
    refine aw_iconst (pc := 14) C (v := 0) dX4_fresh_14 rfl ?_
    obtain ⟨g6, h⟩ := ck_some h
    obtain ⟨μ7, eμ7, h⟩ := bd_some h
    refine aw_iastore (pc := 15) C (a := 46) rfl g6 dX4_fresh_15 eμ7 ?_
    refine aw_iinc (pc := 16) C (v := (v1 + 1)) (lv' := [(1, .int (v1 + 1)), (0, .ref (ad 45))]) dX4_fresh_16 1 rfl (by decide) rfl rfl ?_
    refine aw_goto (pc := 19) C 2 dX4_fresh_19 rfl ?_
    refine aw_sub [1, 0] rfl ?_
    exact hk2 (v1 + 1) μ7 h
theorem ok_X4_fresh_l2_w {l : Launch} {p : Program} {e : Env} {s : State} {m : MethodId} {args : Array Value} {below : List Frame} {meth : Method} {c : Code} {D : va_G} {cI cL : ClassId} {ad : Nat → Nat} (C : CX p l s m args meth c RX4 cX4_fresh 2 none D cI cL (AA ad s.heap.size)) (hex : ∀ x ∈ c.exceptionTable.toList, False) {r : Mm}  : ∀ (n : Nat) (v1 : Int32) (μ : Mm) , itr (X4_fresh_l2) (fun _ _ => none) n v1 μ = some r → AV l p e s m args below meth c D cI cL ad 0 2 (.inr none) r 2 [(0, .ref (ad 45)), (1, .int v1)] [] μ := by
  intro n
  induction n with
  | zero => intro v1 μ h; exact nomatch (show (none : Option Mm) = some r from h)
  | succ n ih => intro v1 μ h; exact ok_X4_fresh_l2 C hex  ih h
theorem ok_X4_fresh {l : Launch} (htr : l.stackTraces = false) {μ : Mm} {r : Mm}  (h : X4_fresh μ = some r) : MetX l yX4_fresh cX4_fresh 2 none 0 (fun ad => [.ref (ad 45)]) μ (.inr none) r := by
  refine MetX.of htr (by decide) rfl (fun ad => Nat.le_of_ble_eq_true rfl) (fun p e s m args below meth c D cI cL ad C hex hw => ?_)
  show AV l p e s m args below meth c D cI cL ad 0 2 (.inr none) r 0 [(0, .ref (ad 45))] [] μ
  unfold X4_fresh at h
  refine aw_iconst (pc := 0) C (v := 0) dX4_fresh_0 rfl ?_
  refine aw_istore_n (pc := 1) C (x := 0) (lv' := [(1, .int 0), (0, .ref (ad 45))]) dX4_fresh_1 rfl (by decide) rfl rfl ?_
  refine aw_sub [1, 0] rfl ?_
  exact ok_X4_fresh_l2_w C hex big 0 μ h
