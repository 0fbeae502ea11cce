set_option maxRecDepth 100000 in
set_option maxHeartbeats 4000000 in
theorem tX8_isPart_36 {p : Program} {l : Launch} {e : Env} {s : State} {m : MethodId} {args : Array Value} {below : List Frame} {meth : Method} {c : Code} {D : va_G} {ca : Nat → ClassId} {xa ad : Nat → Nat} {A : Nat → Prop} (hc : zCx p s m args meth c cX8_isPart 5 RX8 D ca xa A (zwM ad ca)) (hr : meth.sig.returnType = (some .boolean)) (N : Nat) (k5 : Int32 → Int32 → Int32 → Int32 → zSt → Option (Int32 × zSt)) (hk5 : ∀ (x1 : Int32) (x2 : Int32) (x3 : Int32) (x4 : Int32) (σ : zSt), zGO p l e rmX8_isPart s m args below meth c 0 0 (zwM ad ca) D A 5 (zQ below D A (zwM ad ca) args s zI) (k5 x1 x2 x3 x4 σ) σ 5 [(0, .ref (ad 0)), (1, .int x1), (2, .int x2), (3, .int x3), (4, .int x4)] []) (x1 : Int32) (x2 : Int32) (x4 : Int32) (σ : zSt) : zGO p l e rmX8_isPart s m args below meth c 0 0 (zwM ad ca) D A 5 (zQ below D A (zwM ad ca) args s zI) (fX8_isPart_36 N k5 x1 x2 x4 σ) σ 36 [(0, .ref (ad 0)), (1, .int x1), (2, .int x2), (4, .int x4)] [] := by
  unfold fX8_isPart_36
  refine z_iconst (v := (1 : Int32)) hc dX8_isPart_36 (by decide) ?_
  refine z_goto (tgt := 41) hc dX8_isPart_37 (by decide) ?_
  refine z_istore_n (lv' := [(3, .int (1 : Int32)), (0, .ref (ad 0)), (1, .int x1), (2, .int x2), (4, .int x4)]) hc dX8_isPart_41 rfl (by decide) rfl ?_
  refine z_iinc (v := (x4 + (1 : Int32))) (lv' := [(4, .int (x4 + (1 : Int32))), (3, .int (1 : Int32)), (0, .ref (ad 0)), (1, .int x1), (2, .int x2)]) hc dX8_isPart_42 4 rfl rfl (by decide) rfl ?_
  refine z_goto (tgt := 5) hc dX8_isPart_45 (by decide) ?_
  refine z_sub [2, 3, 4, 1, 0] rfl ?_
  exact hk5 _ _ _ _ _
set_option maxRecDepth 100000 in
set_option maxHeartbeats 4000000 in
theorem tX8_isPart_5 {p : Program} {l : Launch} {e : Env} {s : State} {m : MethodId} {args : Array Value} {below : List Frame} {meth : Method} {c : Code} {D : va_G} {ca : Nat → ClassId} {xa ad : Nat → Nat} {A : Nat → Prop} (hc : zCx p s m args meth c cX8_isPart 5 RX8 D ca xa A (zwM ad ca)) (hr : meth.sig.returnType = (some .boolean)) (N : Nat)   : ∀ (n : Nat) (x1 : Int32) (x2 : Int32) (x3 : Int32) (x4 : Int32) (σ : zSt), zGO p l e rmX8_isPart s m args below meth c 0 0 (zwM ad ca) D A 5 (zQ below D A (zwM ad ca) args s zI) (fX8_isPart_5 N n x1 x2 x3 x4 σ) σ 5 [(0, .ref (ad 0)), (1, .int x1), (2, .int x2), (3, .int x3), (4, .int x4)] [] := by
  intro n
  induction n with
  | zero =>
    intro x1 x2 x3 x4 σ
    exact z_none
  | succ n ih =>
    intro x1 x2 x3 x4 σ
    unfold fX8_isPart_5
    refine z_iload hc dX8_isPart_5 4 rfl ?_
    refine z_aload_n hc dX8_isPart_7 0 rfl ?_
    refine gfX8_41 hc dX8_isPart_8 ?_
    refine z_iload_n hc dX8_isPart_11 1 rfl ?_
    refine z_iaload hc 11 (by decide) rfl dX8_isPart_12 (fun v1 => ?_)
    refine z_icmp_ge (tgt := 48) hc dX8_isPart_13 (by decide) ?_ ?_
    · refine z_iload_n hc dX8_isPart_48 3 rfl ?_
      exact z_zret hc hr dX8_isPart_49
    · refine z_iload_n hc dX8_isPart_16 3 rfl ?_
      refine z_if_ne (tgt := 36) hc dX8_isPart_17 (by decide) ?_ ?_
      · refine z_aload_n hc dX8_isPart_20 0 rfl ?_
        refine gfX8_44 hc dX8_isPart_21 ?_
        refine z_bipush (v := (6 : Int32)) hc dX8_isPart_24 (by decide) ?_
        refine z_iload_n hc dX8_isPart_26 1 rfl ?_
        refine z_imul hc dX8_isPart_27 ?_
        refine z_iload hc dX8_isPart_28 4 rfl ?_
        refine z_iadd hc dX8_isPart_30 ?_
        refine z_iaload hc 12 (by decide) rfl dX8_isPart_31 (fun v2 => ?_)
        refine z_iload_n hc dX8_isPart_32 2 rfl ?_
        refine z_icmp_ne (tgt := 40) hc dX8_isPart_33 (by decide) ?_ ?_
        · refine z_sub [0, 1, 2, 4] rfl ?_
          exact tX8_isPart_36 hc hr N _ (ih) _ _ _ _
        · refine z_iconst (v := (0 : Int32)) hc dX8_isPart_40 (by decide) ?_
          refine z_istore_n (lv' := [(3, .int (0 : Int32)), (0, .ref (ad 0)), (1, .int x1), (2, .int x2), (4, .int x4)]) hc dX8_isPart_41 rfl (by decide) rfl ?_
          refine z_iinc (v := (x4 + (1 : Int32))) (lv' := [(4, .int (x4 + (1 : Int32))), (3, .int (0 : Int32)), (0, .ref (ad 0)), (1, .int x1), (2, .int x2)]) hc dX8_isPart_42 4 rfl rfl (by decide) rfl ?_
          refine z_goto (tgt := 5) hc dX8_isPart_45 (by decide) ?_
          refine z_sub [2, 3, 4, 1, 0] rfl ?_
          exact ih _ _ _ _ _
      · refine z_sub [0, 1, 2, 4] rfl ?_
        exact tX8_isPart_36 hc hr N _ (ih) _ _ _ _
set_option maxRecDepth 100000 in
set_option maxHeartbeats 4000000 in
theorem tX8_isPart {l : Launch} {D : va_G} {ca : Nat → ClassId} {xa ad : Nat → Nat} {A : Nat → Prop} {N : Nat} {x1 : Int32} {x2 : Int32} {σ : zSt} {a : Int32} {τ : zSt} (h : fX8_isPart N x1 x2 σ = some (a, τ)) : zCt l yX8_isPart cX8_isPart 5 (some .boolean) rmX8_isPart D ca xa A (zwM ad ca) [.ref (ad 0), .int x1, .int x2] σ (zI a) τ := by
  refine z_met (inj := zI) (lv := [(0, .ref (ad 0)), (1, .int x1), (2, .int x2)]) (by decide) (Nat.le_of_ble_eq_true rfl) rfl ?_ h
  intro p e s m args below meth c hc hr
  unfold fX8_isPart
  refine z_iconst (v := (0 : Int32)) hc dX8_isPart_0 (by decide) ?_
  refine z_istore_n (lv' := [(3, .int (0 : Int32)), (0, .ref (ad 0)), (1, .int x1), (2, .int x2)]) hc dX8_isPart_1 rfl (by decide) rfl ?_
  refine z_iconst (v := (0 : Int32)) hc dX8_isPart_2 (by decide) ?_
  refine z_istore (lv' := [(4, .int (0 : Int32)), (3, .int (0 : Int32)), (0, .ref (ad 0)), (1, .int x1), (2, .int x2)]) hc dX8_isPart_3 (by decide) rfl ?_
  refine z_sub [2, 3, 4, 1, 0] rfl ?_
  exact tX8_isPart_5 hc hr N N _ _ _ _ _
set_option maxRecDepth 100000 in
set_option maxHeartbeats 4000000 in
theorem tX8_readStep_301 {p : Program} {l : Launch} {e : Env} {s : State} {m : MethodId} {args : Array Value} {below : List Frame} {meth : Method} {c : Code} {D : va_G} {ca : Nat → ClassId} {xa ad : Nat → Nat} {A : Nat → Prop} (hc : zCx p s m args meth c cX8_readStep 6 RX8 D ca xa A (zwM ad ca)) (hr : meth.sig.returnType = none) (N : Nat) (k182 : Int32 → Int32 → zSt → Option (Unit × zSt)) (hk182 : ∀ (x1 : Int32) (x4 : Int32) (σ : zSt), zGO p l e rmX8_readStep s m args below meth c 0 0 (zwM ad ca) D A 6 (zQ below D A (zwM ad ca) args s zV) (k182 x1 x4 σ) σ 182 [(0, .ref (ad 0)), (1, .int x1), (4, .int x4)] []) (x1 : Int32) (σ : zSt) : zGO p l e rmX8_readStep s m args below meth c 0 0 (zwM ad ca) D A 6 (zQ below D A (zwM ad ca) args s zV) (fX8_readStep_301 N k182 x1 σ) σ 301 [(0, .ref (ad 0)), (1, .int x1)] [] := by
  unfold fX8_readStep_301
  refine z_aload_n hc dX8_readStep_301 0 rfl ?_
  refine gfX8_136 hc dX8_readStep_302 ?_
  refine z_if_ne (tgt := 320) hc dX8_readStep_305 (by decide) ?_ ?_
  · refine z_aload_n hc dX8_readStep_308 0 rfl ?_
    refine gfX8_124 hc dX8_readStep_309 ?_
    refine z_iconst (v := (3 : Int32)) hc dX8_readStep_312 (by decide) ?_
    refine z_icmp_ne (tgt := 320) hc dX8_readStep_313 (by decide) ?_ ?_
    · refine z_iconst (v := (1 : Int32)) hc dX8_readStep_316 (by decide) ?_
      refine z_goto (tgt := 321) hc dX8_readStep_317 (by decide) ?_
      refine z_istore (lv' := [(4, .int (1 : Int32)), (0, .ref (ad 0)), (1, .int x1)]) hc dX8_readStep_321 (by decide) rfl ?_
      refine z_goto (tgt := 182) hc dX8_readStep_323 (by decide) ?_
      refine z_sub [1, 2, 0] rfl ?_
      exact hk182 _ _ _
    · refine z_iconst (v := (0 : Int32)) hc dX8_readStep_320 (by decide) ?_
      refine z_istore (lv' := [(4, .int (0 : Int32)), (0, .ref (ad 0)), (1, .int x1)]) hc dX8_readStep_321 (by decide) rfl ?_
      refine z_goto (tgt := 182) hc dX8_readStep_323 (by decide) ?_
      refine z_sub [1, 2, 0] rfl ?_
      exact hk182 _ _ _
  · refine z_iconst (v := (0 : Int32)) hc dX8_readStep_320 (by decide) ?_
    refine z_istore (lv' := [(4, .int (0 : Int32)), (0, .ref (ad 0)), (1, .int x1)]) hc dX8_readStep_321 (by decide) rfl ?_
    refine z_goto (tgt := 182) hc dX8_readStep_323 (by decide) ?_
    refine z_sub [1, 2, 0] rfl ?_
    exact hk182 _ _ _
set_option maxRecDepth 100000 in
set_option maxHeartbeats 4000000 in
theorem tX8_readStep_263 {p : Program} {l : Launch} {e : Env} {s : State} {m : MethodId} {args : Array Value} {below : List Frame} {meth : Method} {c : Code} {D : va_G} {ca : Nat → ClassId} {xa ad : Nat → Nat} {A : Nat → Prop} (hc : zCx p s m args meth c cX8_readStep 6 RX8 D ca xa A (zwM ad ca)) (hr : meth.sig.returnType = none) (N : Nat) (k182 : Int32 → Int32 → zSt → Option (Unit × zSt)) (hk182 : ∀ (x1 : Int32) (x4 : Int32) (σ : zSt), zGO p l e rmX8_readStep s m args below meth c 0 0 (zwM ad ca) D A 6 (zQ below D A (zwM ad ca) args s zV) (k182 x1 x4 σ) σ 182 [(0, .ref (ad 0)), (1, .int x1), (4, .int x4)] []) (x1 : Int32) (x5 : Int32) (s0 : Int32) (σ : zSt) : zGO p l e rmX8_readStep s m args below meth c 0 0 (zwM ad ca) D A 6 (zQ below D A (zwM ad ca) args s zV) (fX8_readStep_263 N k182 x1 x5 s0 σ) σ 263 [(0, .ref (ad 0)), (1, .int x1), (5, .int x5)] [.int s0, .ref (ad 0)] := by
  unfold fX8_readStep_263
  refine z_runVv (b0 := ad 0) (As := [.int s0]) (rest := []) hc dX8_readStep_263 (fun _ _ h => tX8_must h) mpX8_must miX8_must kmX8_162 ⟨rfl, rfl, Nat.le_of_ble_eq_true rfl, Nat.le_of_ble_eq_true rfl⟩ ⟨Nat.le_refl _, Nat.le_refl _⟩ zcM_rc0 rfl (Nat.le_of_ble_eq_true rfl) (fun b1 σ2 => ?_)
  refine z_aload_n hc dX8_readStep_266 0 rfl ?_
  refine gfX8_136 hc dX8_readStep_267 ?_
  refine z_if_ne (tgt := 301) hc dX8_readStep_270 (by decide) ?_ ?_
  · refine z_aload_n hc dX8_readStep_273 0 rfl ?_
    refine gfX8_44 hc dX8_readStep_274 ?_
    refine z_bipush (v := (6 : Int32)) hc dX8_readStep_277 (by decide) ?_
    refine z_iload_n hc dX8_readStep_279 1 rfl ?_
    refine z_imul hc dX8_readStep_280 ?_
    refine z_aload_n hc dX8_readStep_281 0 rfl ?_
    refine gfX8_41 hc dX8_readStep_282 ?_
    refine z_iload_n hc dX8_readStep_285 1 rfl ?_
    refine z_iaload hc 11 (by decide) rfl dX8_readStep_286 (fun v3 => ?_)
    refine z_iadd hc dX8_readStep_287 ?_
    refine z_iload hc dX8_readStep_288 2 rfl ?_
    refine z_iastore hc 12 (by decide) (fun _ _ => rfl) dX8_readStep_290 (fun σ4 => ?_)
    refine z_aload_n hc dX8_readStep_291 0 rfl ?_
    refine gfX8_41 hc dX8_readStep_292 ?_
    refine z_iload_n hc dX8_readStep_295 1 rfl ?_
    refine z_dup2_11 hc dX8_readStep_296 rfl rfl ?_
    refine z_iaload hc 11 (by decide) rfl dX8_readStep_297 (fun v5 => ?_)
    refine z_iconst (v := (1 : Int32)) hc dX8_readStep_298 (by decide) ?_
    refine z_iadd hc dX8_readStep_299 ?_
    refine z_iastore hc 11 (by decide) (fun _ _ => rfl) dX8_readStep_300 (fun σ6 => ?_)
    refine z_sub [0, 1] rfl ?_
    exact tX8_readStep_301 hc hr N _ hk182 _ _
  · refine z_sub [0, 1] rfl ?_
    exact tX8_readStep_301 hc hr N _ hk182 _ _
set_option maxRecDepth 100000 in
set_option maxHeartbeats 4000000 in
theorem tX8_readStep_249 {p : Program} {l : Launch} {e : Env} {s : State} {m : MethodId} {args : Array Value} {below : List Frame} {meth : Method} {c : Code} {D : va_G} {ca : Nat → ClassId} {xa ad : Nat → Nat} {A : Nat → Prop} (hc : zCx p s m args meth c cX8_readStep 6 RX8 D ca xa A (zwM ad ca)) (hr : meth.sig.returnType = none) (N : Nat) (k182 : Int32 → Int32 → zSt → Option (Unit × zSt)) (hk182 : ∀ (x1 : Int32) (x4 : Int32) (σ : zSt), zGO p l e rmX8_readStep s m args below meth c 0 0 (zwM ad ca) D A 6 (zQ below D A (zwM ad ca) args s zV) (k182 x1 x4 σ) σ 182 [(0, .ref (ad 0)), (1, .int x1), (4, .int x4)] []) (x1 : Int32) (x5 : Int32) (σ : zSt) : zGO p l e rmX8_readStep s m args below meth c 0 0 (zwM ad ca) D A 6 (zQ below D A (zwM ad ca) args s zV) (fX8_readStep_249 N k182 x1 x5 σ) σ 249 [(0, .ref (ad 0)), (1, .int x1), (5, .int x5)] [] := by
  unfold fX8_readStep_249
  refine z_aload_n hc dX8_readStep_249 0 rfl ?_
  refine z_aload_n hc dX8_readStep_250 0 rfl ?_
  refine gfX8_124 hc dX8_readStep_251 ?_
  refine z_iconst (v := (3 : Int32)) hc dX8_readStep_254 (by decide) ?_
  refine z_icmp_ne (tgt := 262) hc dX8_readStep_255 (by decide) ?_ ?_
  · refine z_iconst (v := (1 : Int32)) hc dX8_readStep_258 (by decide) ?_
    refine z_goto (tgt := 263) hc dX8_readStep_259 (by decide) ?_
    exact tX8_readStep_263 hc hr N _ hk182 _ _ _ _
  · refine z_iconst (v := (0 : Int32)) hc dX8_readStep_262 (by decide) ?_
    exact tX8_readStep_263 hc hr N _ hk182 _ _ _ _
set_option maxRecDepth 100000 in
set_option maxHeartbeats 4000000 in
theorem tX8_readStep_225 {p : Program} {l : Launch} {e : Env} {s : State} {m : MethodId} {args : Array Value} {below : List Frame} {meth : Method} {c : Code} {D : va_G} {ca : Nat → ClassId} {xa ad : Nat → Nat} {A : Nat → Prop} (hc : zCx p s m args meth c cX8_readStep 6 RX8 D ca xa A (zwM ad ca)) (hr : meth.sig.returnType = none) (N : Nat) (k182 : Int32 → Int32 → zSt → Option (Unit × zSt)) (hk182 : ∀ (x1 : Int32) (x4 : Int32) (σ : zSt), zGO p l e rmX8_readStep s m args below meth c 0 0 (zwM ad ca) D A 6 (zQ below D A (zwM ad ca) args s zV) (k182 x1 x4 σ) σ 182 [(0, .ref (ad 0)), (1, .int x1), (4, .int x4)] []) (x1 : Int32) (x5 : Int32) (σ : zSt) : zGO p l e rmX8_readStep s m args below meth c 0 0 (zwM ad ca) D A 6 (zQ below D A (zwM ad ca) args s zV) (fX8_readStep_225 N k182 x1 x5 σ) σ 225 [(0, .ref (ad 0)), (1, .int x1), (5, .int x5)] [] := by
  unfold fX8_readStep_225
  refine z_aload_n hc dX8_readStep_225 0 rfl ?_
  refine gfX8_124 hc dX8_readStep_226 ?_
  refine z_iconst (v := (3 : Int32)) hc dX8_readStep_229 (by decide) ?_
  refine z_icmp_ne (tgt := 249) hc dX8_readStep_230 (by decide) ?_ ?_
  · refine z_aload_n hc dX8_readStep_233 0 rfl ?_
    refine gfX8_41 hc dX8_readStep_234 ?_
    refine z_iload_n hc dX8_readStep_237 1 rfl ?_
    refine z_iaload hc 11 (by decide) rfl dX8_readStep_238 (fun v1 => ?_)
    refine z_bipush (v := (6 : Int32)) hc dX8_readStep_239 (by decide) ?_
    refine z_icmp_ne (tgt := 249) hc dX8_readStep_241 (by decide) ?_ ?_
    · refine z_aload_n hc dX8_readStep_244 0 rfl ?_
      refine z_iconst (v := (3 : Int32)) hc dX8_readStep_245 (by decide) ?_
      refine z_runVv (b0 := ad 0) (As := [.int (3 : Int32)]) (rest := []) hc dX8_readStep_246 (fun _ _ h => tX8_bad h) mpX8_bad miX8_bad kmX8_142 ⟨rfl, rfl, Nat.le_of_ble_eq_true rfl, Nat.le_of_ble_eq_true rfl⟩ ⟨Nat.le_refl _, Nat.le_refl _⟩ zcM_rc0 rfl (Nat.le_of_ble_eq_true rfl) (fun b2 σ3 => ?_)
      exact tX8_readStep_249 hc hr N _ hk182 _ _ _
    · exact tX8_readStep_249 hc hr N _ hk182 _ _ _
  · exact tX8_readStep_249 hc hr N _ hk182 _ _ _
set_option maxRecDepth 100000 in
set_option maxHeartbeats 4000000 in
theorem tX8_readStep_220 {p : Program} {l : Launch} {e : Env} {s : State} {m : MethodId} {args : Array Value} {below : List Frame} {meth : Method} {c : Code} {D : va_G} {ca : Nat → ClassId} {xa ad : Nat → Nat} {A : Nat → Prop} (hc : zCx p s m args meth c cX8_readStep 6 RX8 D ca xa A (zwM ad ca)) (hr : meth.sig.returnType = none) (N : Nat) (k182 : Int32 → Int32 → zSt → Option (Unit × zSt)) (hk182 : ∀ (x1 : Int32) (x4 : Int32) (σ : zSt), zGO p l e rmX8_readStep s m args below meth c 0 0 (zwM ad ca) D A 6 (zQ below D A (zwM ad ca) args s zV) (k182 x1 x4 σ) σ 182 [(0, .ref (ad 0)), (1, .int x1), (4, .int x4)] []) (x1 : Int32) (x5 : Int32) (σ : zSt) : zGO p l e rmX8_readStep s m args below meth c 0 0 (zwM ad ca) D A 6 (zQ below D A (zwM ad ca) args s zV) (fX8_readStep_220 N k182 x1 x5 σ) σ 220 [(0, .ref (ad 0)), (1, .int x1), (5, .int x5)] [] := by
  unfold fX8_readStep_220
  refine z_aload_n hc dX8_readStep_220 0 rfl ?_
  refine z_iconst (v := (2 : Int32)) hc dX8_readStep_221 (by decide) ?_
  refine z_runVv (b0 := ad 0) (As := [.int (2 : Int32)]) (rest := []) hc dX8_readStep_222 (fun _ _ h => tX8_bad h) mpX8_bad miX8_bad kmX8_142 ⟨rfl, rfl, Nat.le_of_ble_eq_true rfl, Nat.le_of_ble_eq_true rfl⟩ ⟨Nat.le_refl _, Nat.le_refl _⟩ zcM_rc0 rfl (Nat.le_of_ble_eq_true rfl) (fun b1 σ2 => ?_)
  exact tX8_readStep_225 hc hr N _ hk182 _ _ _
set_option maxRecDepth 100000 in
set_option maxHeartbeats 4000000 in
theorem tX8_readStep_329 {p : Program} {l : Launch} {e : Env} {s : State} {m : MethodId} {args : Array Value} {below : List Frame} {meth : Method} {c : Code} {D : va_G} {ca : Nat → ClassId} {xa ad : Nat → Nat} {A : Nat → Prop} (hc : zCx p s m args meth c cX8_readStep 6 RX8 D ca xa A (zwM ad ca)) (hr : meth.sig.returnType = none) (N : Nat)   : ∀ (n : Nat) (x1 : Int32) (x5 : Int32) (σ : zSt), zGO p l e rmX8_readStep s m args below meth c 0 0 (zwM ad ca) D A 6 (zQ below D A (zwM ad ca) args s zV) (fX8_readStep_329 N n x1 x5 σ) σ 329 [(0, .ref (ad 0)), (1, .int x1), (5, .int x5)] [] := by
  intro n
  induction n with
  | zero =>
    intro x1 x5 σ
    exact z_none
  | succ n ih =>
    intro x1 x5 σ
    unfold fX8_readStep_329
    refine z_iload hc dX8_readStep_329 2 rfl ?_
    refine z_iconst (v := (3 : Int32)) hc dX8_readStep_331 (by decide) ?_
    refine z_icmp_ge (tgt := 353) hc dX8_readStep_332 (by decide) ?_ ?_
    · refine z_aload_n hc dX8_readStep_353 0 rfl ?_
      refine z_dup hc dX8_readStep_354 rfl ?_
      refine gfX8_166 hc dX8_readStep_355 ?_
      refine z_iconst (v := (1 : Int32)) hc dX8_readStep_358 (by decide) ?_
      refine z_iadd hc dX8_readStep_359 ?_
      refine pfX8_166 hc dX8_readStep_360 (fun σ1 => ?_)
      exact z_vret hc hr dX8_readStep_363
    · refine z_aload_n hc dX8_readStep_335 0 rfl ?_
      refine gfX8_47 hc dX8_readStep_336 ?_
      refine z_iconst (v := (3 : Int32)) hc dX8_readStep_339 (by decide) ?_
      refine z_iload_n hc dX8_readStep_340 1 rfl ?_
      refine z_imul hc dX8_readStep_341 ?_
      refine z_iload hc dX8_readStep_342 2 rfl ?_
      refine z_iadd hc dX8_readStep_344 ?_
      refine z_iconst (v := (0 : Int32)) hc dX8_readStep_345 (by decide) ?_
      refine z_iastore hc 13 (by decide) (fun _ _ => rfl) dX8_readStep_346 (fun σ2 => ?_)
      refine z_iinc (v := (x5 + (1 : Int32))) (lv' := [(5, .int (x5 + (1 : Int32))), (0, .ref (ad 0)), (1, .int x1)]) hc dX8_readStep_347 2 rfl rfl (by decide) rfl ?_
      refine z_goto (tgt := 329) hc dX8_readStep_350 (by decide) ?_
      refine z_sub [1, 2, 0] rfl ?_
      exact ih _ _ _
set_option maxRecDepth 100000 in
set_option maxHeartbeats 4000000 in
theorem tX8_readStep_182 {p : Program} {l : Launch} {e : Env} {s : State} {m : MethodId} {args : Array Value} {below : List Frame} {meth : Method} {c : Code} {D : va_G} {ca : Nat → ClassId} {xa ad : Nat → Nat} {A : Nat → Prop} (hc : zCx p s m args meth c cX8_readStep 6 RX8 D ca xa A (zwM ad ca)) (hr : meth.sig.returnType = none) (N : Nat)   : ∀ (n : Nat) (x1 : Int32) (x4 : Int32) (σ : zSt), zGO p l e rmX8_readStep s m args below meth c 0 0 (zwM ad ca) D A 6 (zQ below D A (zwM ad ca) args s zV) (fX8_readStep_182 N n x1 x4 σ) σ 182 [(0, .ref (ad 0)), (1, .int x1), (4, .int x4)] [] := by
  intro n
  induction n with
  | zero =>
    intro x1 x4 σ
    exact z_none
  | succ n ih =>
    intro x1 x4 σ
    unfold fX8_readStep_182
    refine z_iload hc dX8_readStep_182 2 rfl ?_
    refine z_if_eq (tgt := 326) hc dX8_readStep_184 (by decide) ?_ ?_
    · refine z_iconst (v := (0 : Int32)) hc dX8_readStep_326 (by decide) ?_
      refine z_istore (lv' := [(5, .int (0 : Int32)), (0, .ref (ad 0)), (1, .int x1), (4, .int x4)]) hc dX8_readStep_327 (by decide) rfl ?_
      refine z_sub [1, 2, 0] rfl ?_
      exact tX8_readStep_329 hc hr N N _ _ _
    · refine z_aload_n hc dX8_readStep_187 0 rfl ?_
      refine z_runVi (b0 := ad 0) (As := []) (rest := []) hc dX8_readStep_188 (fun _ _ h => tX8_numberHere h) mpX8_numberHere miX8_numberHere kmX8_158 ⟨rfl, rfl, Nat.le_of_ble_eq_true rfl, Nat.le_of_ble_eq_true rfl⟩ ⟨Nat.le_refl _, Nat.le_refl _⟩ zcM_rc0 rfl (Nat.le_of_ble_eq_true rfl) (fun b1 σ2 => ?_)
      refine z_istore (lv' := [(5, .int b1), (0, .ref (ad 0)), (1, .int x1), (4, .int x4)]) hc dX8_readStep_191 (by decide) rfl ?_
      refine z_aload_n hc dX8_readStep_193 1 rfl ?_
      refine gfX8_124 hc dX8_readStep_194 ?_
      refine z_iconst (v := (3 : Int32)) hc dX8_readStep_197 (by decide) ?_
      refine z_icmp_ne (tgt := 225) hc dX8_readStep_198 (by decide) ?_ ?_
      · refine z_iload hc dX8_readStep_201 0 rfl ?_
        refine z_aload_n hc dX8_readStep_203 1 rfl ?_
        refine gfX8_149 hc dX8_readStep_204 ?_
        refine z_icmp_ge (tgt := 220) hc dX8_readStep_207 (by decide) ?_ ?_
        · refine z_sub [1, 2, 0] rfl ?_
          exact tX8_readStep_220 hc hr N _ (ih) _ _ _
        · refine z_aload_n hc dX8_readStep_210 1 rfl ?_
          refine z_iload_n hc dX8_readStep_211 2 rfl ?_
          refine z_iload hc dX8_readStep_212 0 rfl ?_
          refine z_runVi (b0 := ad 0) (As := [.int x1, .int b1]) (rest := []) hc dX8_readStep_214 (fun _ _ h => tX8_isPart h) mpX8_isPart miX8_isPart kmX8_181 ⟨rfl, rfl, Nat.le_of_ble_eq_true rfl, Nat.le_of_ble_eq_true rfl⟩ ⟨Nat.le_refl _, Nat.le_refl _⟩ zcM_rc0 rfl (Nat.le_of_ble_eq_true rfl) (fun b3 σ4 => ?_)
          refine z_if_eq (tgt := 225) hc dX8_readStep_217 (by decide) ?_ ?_
          · refine z_sub [1, 2, 0] rfl ?_
            exact tX8_readStep_225 hc hr N _ (ih) _ _ _
          · refine z_sub [1, 2, 0] rfl ?_
            exact tX8_readStep_220 hc hr N _ (ih) _ _ _
      · refine z_sub [1, 2, 0] rfl ?_
        exact tX8_readStep_225 hc hr N _ (ih) _ _ _
set_option maxRecDepth 100000 in
set_option maxHeartbeats 4000000 in
theorem tX8_readStep_180 {p : Program} {l : Launch} {e : Env} {s : State} {m : MethodId} {args : Array Value} {below : List Frame} {meth : Method} {c : Code} {D : va_G} {ca : Nat → ClassId} {xa ad : Nat → Nat} {A : Nat → Prop} (hc : zCx p s m args meth c cX8_readStep 6 RX8 D ca xa A (zwM ad ca)) (hr : meth.sig.returnType = none) (N : Nat)   (x1 : Int32) (s0 : Int32) (σ : zSt) : zGO p l e rmX8_readStep s m args below meth c 0 0 (zwM ad ca) D A 6 (zQ below D A (zwM ad ca) args s zV) (fX8_readStep_180 N x1 s0 σ) σ 180 [(0, .ref (ad 0)), (1, .int x1)] [.int s0] := by
  unfold fX8_readStep_180
  refine z_istore (lv' := [(4, .int s0), (0, .ref (ad 0)), (1, .int x1)]) hc dX8_readStep_180 (by decide) rfl ?_
  refine z_sub [1, 2, 0] rfl ?_
  exact tX8_readStep_182 hc hr N N _ _ _
set_option maxRecDepth 100000 in
set_option maxHeartbeats 4000000 in
theorem tX8_readStep_161 {p : Program} {l : Launch} {e : Env} {s : State} {m : MethodId} {args : Array Value} {below : List Frame} {meth : Method} {c : Code} {D : va_G} {ca : Nat → ClassId} {xa ad : Nat → Nat} {A : Nat → Prop} (hc : zCx p s m args meth c cX8_readStep 6 RX8 D ca xa A (zwM ad ca)) (hr : meth.sig.returnType = none) (N : Nat)   (x1 : Int32) (σ : zSt) : zGO p l e rmX8_readStep s m args below meth c 0 0 (zwM ad ca) D A 6 (zQ below D A (zwM ad ca) args s zV) (fX8_readStep_161 N x1 σ) σ 161 [(0, .ref (ad 0)), (1, .int x1)] [] := by
  unfold fX8_readStep_161
  refine z_aload_n hc dX8_readStep_161 0 rfl ?_
  refine gfX8_41 hc dX8_readStep_162 ?_
  refine z_iload_n hc dX8_readStep_165 1 rfl ?_
  refine z_iconst (v := (0 : Int32)) hc dX8_readStep_166 (by decide) ?_
  refine z_iastore hc 11 (by decide) (fun _ _ => rfl) dX8_readStep_167 (fun σ1 => ?_)
  refine z_aload_n hc dX8_readStep_168 0 rfl ?_
  refine gfX8_136 hc dX8_readStep_169 ?_
  refine z_if_ne (tgt := 179) hc dX8_readStep_172 (by decide) ?_ ?_
  · refine z_iconst (v := (1 : Int32)) hc dX8_readStep_175 (by decide) ?_
    refine z_goto (tgt := 180) hc dX8_readStep_176 (by decide) ?_
    exact tX8_readStep_180 hc hr N _ _ _
  · refine z_iconst (v := (0 : Int32)) hc dX8_readStep_179 (by decide) ?_
    exact tX8_readStep_180 hc hr N _ _ _
set_option maxRecDepth 100000 in
set_option maxHeartbeats 4000000 in
theorem tX8_readStep_158 {p : Program} {l : Launch} {e : Env} {s : State} {m : MethodId} {args : Array Value} {below : List Frame} {meth : Method} {c : Code} {D : va_G} {ca : Nat → ClassId} {xa ad : Nat → Nat} {A : Nat → Prop} (hc : zCx p s m args meth c cX8_readStep 6 RX8 D ca xa A (zwM ad ca)) (hr : meth.sig.returnType = none) (N : Nat)   (x1 : Int32) (s0 : Int32) (σ : zSt) : zGO p l e rmX8_readStep s m args below meth c 0 0 (zwM ad ca) D A 6 (zQ below D A (zwM ad ca) args s zV) (fX8_readStep_158 N x1 s0 σ) σ 158 [(0, .ref (ad 0)), (1, .int x1)] [.int s0, .ref (ad 0)] := by
  unfold fX8_readStep_158
  refine z_runVv (b0 := ad 0) (As := [.int s0]) (rest := []) hc dX8_readStep_158 (fun _ _ h => tX8_must h) mpX8_must miX8_must kmX8_162 ⟨rfl, rfl, Nat.le_of_ble_eq_true rfl, Nat.le_of_ble_eq_true rfl⟩ ⟨Nat.le_refl _, Nat.le_refl _⟩ zcM_rc0 rfl (Nat.le_of_ble_eq_true rfl) (fun b1 σ2 => ?_)
  exact tX8_readStep_161 hc hr N _ _
set_option maxRecDepth 100000 in
set_option maxHeartbeats 4000000 in
theorem tX8_readStep_144 {p : Program} {l : Launch} {e : Env} {s : State} {m : MethodId} {args : Array Value} {below : List Frame} {meth : Method} {c : Code} {D : va_G} {ca : Nat → ClassId} {xa ad : Nat → Nat} {A : Nat → Prop} (hc : zCx p s m args meth c cX8_readStep 6 RX8 D ca xa A (zwM ad ca)) (hr : meth.sig.returnType = none) (N : Nat)   (x1 : Int32) (σ : zSt) : zGO p l e rmX8_readStep s m args below meth c 0 0 (zwM ad ca) D A 6 (zQ below D A (zwM ad ca) args s zV) (fX8_readStep_144 N x1 σ) σ 144 [(0, .ref (ad 0)), (1, .int x1)] [] := by
  unfold fX8_readStep_144
  refine z_aload_n hc dX8_readStep_144 0 rfl ?_
  refine z_aload_n hc dX8_readStep_145 0 rfl ?_
  refine gfX8_124 hc dX8_readStep_146 ?_
  refine z_iconst (v := (3 : Int32)) hc dX8_readStep_149 (by decide) ?_
  refine z_icmp_ne (tgt := 157) hc dX8_readStep_150 (by decide) ?_ ?_
  · refine z_iconst (v := (1 : Int32)) hc dX8_readStep_153 (by decide) ?_
    refine z_goto (tgt := 158) hc dX8_readStep_154 (by decide) ?_
    exact tX8_readStep_158 hc hr N _ _ _
  · refine z_iconst (v := (0 : Int32)) hc dX8_readStep_157 (by decide) ?_
    exact tX8_readStep_158 hc hr N _ _ _
set_option maxRecDepth 100000 in
set_option maxHeartbeats 4000000 in
theorem tX8_readStep_139 {p : Program} {l : Launch} {e : Env} {s : State} {m : MethodId} {args : Array Value} {below : List Frame} {meth : Method} {c : Code} {D : va_G} {ca : Nat → ClassId} {xa ad : Nat → Nat} {A : Nat → Prop} (hc : zCx p s m args meth c cX8_readStep 6 RX8 D ca xa A (zwM ad ca)) (hr : meth.sig.returnType = none) (N : Nat)   (x1 : Int32) (σ : zSt) : zGO p l e rmX8_readStep s m args below meth c 0 0 (zwM ad ca) D A 6 (zQ below D A (zwM ad ca) args s zV) (fX8_readStep_139 N x1 σ) σ 139 [(0, .ref (ad 0)), (1, .int x1)] [] := by
  unfold fX8_readStep_139
  refine z_aload_n hc dX8_readStep_139 0 rfl ?_
  refine z_iconst (v := (2 : Int32)) hc dX8_readStep_140 (by decide) ?_
  refine z_runVv (b0 := ad 0) (As := [.int (2 : Int32)]) (rest := []) hc dX8_readStep_141 (fun _ _ h => tX8_bad h) mpX8_bad miX8_bad kmX8_142 ⟨rfl, rfl, Nat.le_of_ble_eq_true rfl, Nat.le_of_ble_eq_true rfl⟩ ⟨Nat.le_refl _, Nat.le_refl _⟩ zcM_rc0 rfl (Nat.le_of_ble_eq_true rfl) (fun b1 σ2 => ?_)
  exact tX8_readStep_144 hc hr N _ _
set_option maxRecDepth 100000 in
set_option maxHeartbeats 4000000 in
theorem tX8_readStep_83 {p : Program} {l : Launch} {e : Env} {s : State} {m : MethodId} {args : Array Value} {below : List Frame} {meth : Method} {c : Code} {D : va_G} {ca : Nat → ClassId} {xa ad : Nat → Nat} {A : Nat → Prop} (hc : zCx p s m args meth c cX8_readStep 6 RX8 D ca xa A (zwM ad ca)) (hr : meth.sig.returnType = none) (N : Nat)   (x1 : Int32) (s0 : Int32) (σ : zSt) : zGO p l e rmX8_readStep s m args below meth c 0 0 (zwM ad ca) D A 6 (zQ below D A (zwM ad ca) args s zV) (fX8_readStep_83 N x1 s0 σ) σ 83 [(0, .ref (ad 0)), (1, .int x1)] [.int s0, .ref (ad 0)] := by
  unfold fX8_readStep_83
  refine z_runVv (b0 := ad 0) (As := [.int s0]) (rest := []) hc dX8_readStep_83 (fun _ _ h => tX8_must h) mpX8_must miX8_must kmX8_162 ⟨rfl, rfl, Nat.le_of_ble_eq_true rfl, Nat.le_of_ble_eq_true rfl⟩ ⟨Nat.le_refl _, Nat.le_refl _⟩ zcM_rc0 rfl (Nat.le_of_ble_eq_true rfl) (fun b1 σ2 => ?_)
  refine z_aload_n hc dX8_readStep_86 0 rfl ?_
  refine gfX8_136 hc dX8_readStep_87 ?_
  refine z_if_ne (tgt := 161) hc dX8_readStep_90 (by decide) ?_ ?_
  · refine z_aload_n hc dX8_readStep_93 0 rfl ?_
    refine gfX8_38 hc dX8_readStep_94 ?_
    refine z_iload_n hc dX8_readStep_97 1 rfl ?_
    refine z_aload_n hc dX8_readStep_98 0 rfl ?_
    refine z_runVi (b0 := ad 0) (As := []) (rest := [.int x1, .ref (ad 10)]) hc dX8_readStep_99 (fun _ _ h => tX8_numberHere h) mpX8_numberHere miX8_numberHere kmX8_158 ⟨rfl, rfl, Nat.le_of_ble_eq_true rfl, Nat.le_of_ble_eq_true rfl⟩ ⟨Nat.le_refl _, Nat.le_refl _⟩ zcM_rc0 rfl (Nat.le_of_ble_eq_true rfl) (fun b3 σ4 => ?_)
    refine z_iastore hc 10 (by decide) (fun _ _ => rfl) dX8_readStep_102 (fun σ5 => ?_)
    refine z_aload_n hc dX8_readStep_103 0 rfl ?_
    refine gfX8_124 hc dX8_readStep_104 ?_
    refine z_iconst (v := (3 : Int32)) hc dX8_readStep_107 (by decide) ?_
    refine z_icmp_ne (tgt := 144) hc dX8_readStep_108 (by decide) ?_ ?_
    · refine z_aload_n hc dX8_readStep_111 0 rfl ?_
      refine gfX8_38 hc dX8_readStep_112 ?_
      refine z_iload_n hc dX8_readStep_115 1 rfl ?_
      refine z_iaload hc 10 (by decide) rfl dX8_readStep_116 (fun v6 => ?_)
      refine z_aload_n hc dX8_readStep_117 0 rfl ?_
      refine gfX8_149 hc dX8_readStep_118 ?_
      refine z_icmp_ge (tgt := 139) hc dX8_readStep_121 (by decide) ?_ ?_
      · exact tX8_readStep_139 hc hr N _ _
      · refine z_aload_n hc dX8_readStep_124 0 rfl ?_
        refine gfX8_19 hc dX8_readStep_125 ?_
        refine z_aload_n hc dX8_readStep_128 0 rfl ?_
        refine gfX8_38 hc dX8_readStep_129 ?_
        refine z_iload_n hc dX8_readStep_132 1 rfl ?_
        refine z_iaload hc 10 (by decide) rfl dX8_readStep_133 (fun v7 => ?_)
        refine z_iaload hc 4 (by decide) rfl dX8_readStep_134 (fun v8 => ?_)
        refine z_iconst (v := (2 : Int32)) hc dX8_readStep_135 (by decide) ?_
        refine z_icmp_eq (tgt := 144) hc dX8_readStep_136 (by decide) ?_ ?_
        · exact tX8_readStep_144 hc hr N _ _
        · exact tX8_readStep_139 hc hr N _ _
    · exact tX8_readStep_144 hc hr N _ _
  · exact tX8_readStep_161 hc hr N _ _
set_option maxRecDepth 100000 in
set_option maxHeartbeats 4000000 in
theorem tX8_readStep_65 {p : Program} {l : Launch} {e : Env} {s : State} {m : MethodId} {args : Array Value} {below : List Frame} {meth : Method} {c : Code} {D : va_G} {ca : Nat → ClassId} {xa ad : Nat → Nat} {A : Nat → Prop} (hc : zCx p s m args meth c cX8_readStep 6 RX8 D ca xa A (zwM ad ca)) (hr : meth.sig.returnType = none) (N : Nat)   (x1 : Int32) (s0 : Int32) (s1 : Int32) (σ : zSt) : zGO p l e rmX8_readStep s m args below meth c 0 0 (zwM ad ca) D A 6 (zQ below D A (zwM ad ca) args s zV) (fX8_readStep_65 N x1 s0 s1 σ) σ 65 [(0, .ref (ad 0)), (1, .int x1)] [.int s0, .int s1, .ref (ad 9)] := by
  unfold fX8_readStep_65
  refine z_iastore hc 9 (by decide) (fun _ _ => rfl) dX8_readStep_65 (fun σ1 => ?_)
  refine z_aload_n hc dX8_readStep_66 0 rfl ?_
  refine z_aload_n hc dX8_readStep_67 0 rfl ?_
  refine gfX8_35 hc dX8_readStep_68 ?_
  refine z_iload_n hc dX8_readStep_71 1 rfl ?_
  refine z_iaload hc 9 (by decide) rfl dX8_readStep_72 (fun v2 => ?_)
  refine z_ldc hc dX8_readStep_73 kcX8_114 ?_
  refine z_icmp_eq (tgt := 82) hc dX8_readStep_75 (by decide) ?_ ?_
  · refine z_iconst (v := (0 : Int32)) hc dX8_readStep_82 (by decide) ?_
    exact tX8_readStep_83 hc hr N _ _ _
  · refine z_iconst (v := (1 : Int32)) hc dX8_readStep_78 (by decide) ?_
    refine z_goto (tgt := 83) hc dX8_readStep_79 (by decide) ?_
    exact tX8_readStep_83 hc hr N _ _ _
set_option maxRecDepth 100000 in
set_option maxHeartbeats 4000000 in
theorem tX8_readStep {l : Launch} {D : va_G} {ca : Nat → ClassId} {xa ad : Nat → Nat} {A : Nat → Prop} {N : Nat}  {σ : zSt} {a : Unit} {τ : zSt} (h : fX8_readStep N σ = some (a, τ)) : zCt l yX8_readStep cX8_readStep 6 none rmX8_readStep D ca xa A (zwM ad ca) [.ref (ad 0)] σ (zV a) τ := by
  refine z_met (inj := zV) (lv := [(0, .ref (ad 0))]) (by decide) (Nat.le_of_ble_eq_true rfl) rfl ?_ h
  intro p e s m args below meth c hc hr
  unfold fX8_readStep
  refine z_aload_n hc dX8_readStep_0 0 rfl ?_
  refine gfX8_166 hc dX8_readStep_1 ?_
  refine z_nm (fun v1 => ?_)
  refine z_istore_n (lv' := [(1, .int v1), (0, .ref (ad 0))]) hc dX8_readStep_4 rfl (by decide) rfl ?_
  refine z_aload_n hc dX8_readStep_5 1 rfl ?_
  refine z_runVl (b0 := ad 0) (As := []) (rest := []) hc dX8_readStep_6 (fun _ _ h => tX8_word h) mpX8_word miX8_word kmX8_169 ⟨rfl, rfl, Nat.le_of_ble_eq_true rfl, Nat.le_of_ble_eq_true rfl⟩ ⟨Nat.le_refl _, Nat.le_refl _⟩ zcM_rc0 rfl (Nat.le_of_ble_eq_true rfl) (fun b2 σ3 => ?_)
  refine z_lstore_n (lv' := [(2, .long b2), (1, .int v1), (0, .ref (ad 0))]) hc dX8_readStep_9 rfl (by decide) rfl ?_
  refine z_aload_n hc dX8_readStep_10 2 rfl ?_
  refine gfX8_35 hc dX8_readStep_11 ?_
  refine z_iload_n hc dX8_readStep_14 1 rfl ?_
  refine z_lload_n hc dX8_readStep_15 0 rfl ?_
  refine z_ldc2 hc dX8_readStep_16 kcX8_173 ?_
  refine z_lcmp_ne (tgt := 27) hc dX8_readStep_19 dX8_readStep_20 (by decide) ?_ ?_
  · refine z_iconst (v := (0 : Int32)) hc dX8_readStep_23 (by decide) ?_
    refine z_goto (tgt := 65) hc dX8_readStep_24 (by decide) ?_
    refine z_sub [2, 1] rfl ?_
    exact tX8_readStep_65 hc hr N _ _ _ _
  · refine z_lload_n hc dX8_readStep_27 0 rfl ?_
    refine z_ldc2 hc dX8_readStep_28 kcX8_175 ?_
    refine z_lcmp_ne (tgt := 39) hc dX8_readStep_31 dX8_readStep_32 (by decide) ?_ ?_
    · refine z_iconst (v := (1 : Int32)) hc dX8_readStep_35 (by decide) ?_
      refine z_goto (tgt := 65) hc dX8_readStep_36 (by decide) ?_
      refine z_sub [2, 1] rfl ?_
      exact tX8_readStep_65 hc hr N _ _ _ _
    · refine z_lload_n hc dX8_readStep_39 0 rfl ?_
      refine z_ldc2 hc dX8_readStep_40 kcX8_177 ?_
      refine z_lcmp_ne (tgt := 51) hc dX8_readStep_43 dX8_readStep_44 (by decide) ?_ ?_
      · refine z_iconst (v := (2 : Int32)) hc dX8_readStep_47 (by decide) ?_
        refine z_goto (tgt := 65) hc dX8_readStep_48 (by decide) ?_
        refine z_sub [2, 1] rfl ?_
        exact tX8_readStep_65 hc hr N _ _ _ _
      · refine z_lload_n hc dX8_readStep_51 0 rfl ?_
        refine z_ldc2 hc dX8_readStep_52 kcX8_179 ?_
        refine z_lcmp_ne (tgt := 63) hc dX8_readStep_55 dX8_readStep_56 (by decide) ?_ ?_
        · refine z_iconst (v := (3 : Int32)) hc dX8_readStep_59 (by decide) ?_
          refine z_goto (tgt := 65) hc dX8_readStep_60 (by decide) ?_
          refine z_sub [2, 1] rfl ?_
          exact tX8_readStep_65 hc hr N _ _ _ _
        · refine z_ldc hc dX8_readStep_63 kcX8_114 ?_
          refine z_sub [2, 1] rfl ?_
          exact tX8_readStep_65 hc hr N _ _ _ _
set_option maxRecDepth 100000 in
set_option maxHeartbeats 4000000 in
theorem tX8_net_205 {p : Program} {l : Launch} {e : Env} {s : State} {m : MethodId} {args : Array Value} {below : List Frame} {meth : Method} {c : Code} {D : va_G} {ca : Nat → ClassId} {xa ad : Nat → Nat} {A : Nat → Prop} (hc : zCx p s m args meth c cX8_net 4 RX8 D ca xa A (zwM ad ca)) (hr : meth.sig.returnType = (some .int)) (N : Nat) (k48 : zSt → Option (Int32 × zSt)) (hk48 : ∀ (σ : zSt), zGO p l e rmX8_net s m args below meth c 0 0 (zwM ad ca) D A 4 (zQ below D A (zwM ad ca) args s zI) (k48 σ) σ 48 [(0, .ref (ad 0))] []) (s0 : Int32) (σ : zSt) : zGO p l e rmX8_net s m args below meth c 0 0 (zwM ad ca) D A 4 (zQ below D A (zwM ad ca) args s zI) (fX8_net_205 N k48 s0 σ) σ 205 [(0, .ref (ad 0))] [.int s0, .ref (ad 0)] := by
  unfold fX8_net_205
  refine z_runVv (b0 := ad 0) (As := [.int s0]) (rest := []) hc dX8_net_205 (fun _ _ h => tX8_must h) mpX8_must miX8_must kmX8_162 ⟨rfl, rfl, Nat.le_of_ble_eq_true rfl, Nat.le_of_ble_eq_true rfl⟩ ⟨Nat.le_refl _, Nat.le_refl _⟩ zcM_rc0 rfl (Nat.le_of_ble_eq_true rfl) (fun b1 σ2 => ?_)
  refine z_goto (tgt := 48) hc dX8_net_208 (by decide) ?_
  exact hk48  _
set_option maxRecDepth 100000 in
set_option maxHeartbeats 4000000 in
theorem tX8_net_184 {p : Program} {l : Launch} {e : Env} {s : State} {m : MethodId} {args : Array Value} {below : List Frame} {meth : Method} {c : Code} {D : va_G} {ca : Nat → ClassId} {xa ad : Nat → Nat} {A : Nat → Prop} (hc : zCx p s m args meth c cX8_net 4 RX8 D ca xa A (zwM ad ca)) (hr : meth.sig.returnType = (some .int)) (N : Nat) (k48 : zSt → Option (Int32 × zSt)) (hk48 : ∀ (σ : zSt), zGO p l e rmX8_net s m args below meth c 0 0 (zwM ad ca) D A 4 (zQ below D A (zwM ad ca) args s zI) (k48 σ) σ 48 [(0, .ref (ad 0))] [])  (σ : zSt) : zGO p l e rmX8_net s m args below meth c 0 0 (zwM ad ca) D A 4 (zQ below D A (zwM ad ca) args s zI) (fX8_net_184 N k48 σ) σ 184 [(0, .ref (ad 0))] [] := by
  unfold fX8_net_184
  refine z_aload_n hc dX8_net_184 0 rfl ?_
  refine gfX8_136 hc dX8_net_185 ?_
  refine z_if_ne (tgt := 208) hc dX8_net_188 (by decide) ?_ ?_
  · refine z_aload_n hc dX8_net_191 0 rfl ?_
    refine z_aload_n hc dX8_net_192 0 rfl ?_
    refine gfX8_124 hc dX8_net_193 ?_
    refine z_iconst (v := (4 : Int32)) hc dX8_net_196 (by decide) ?_
    refine z_icmp_ne (tgt := 204) hc dX8_net_197 (by decide) ?_ ?_
    · refine z_iconst (v := (1 : Int32)) hc dX8_net_200 (by decide) ?_
      refine z_goto (tgt := 205) hc dX8_net_201 (by decide) ?_
      exact tX8_net_205 hc hr N _ hk48 _ _
    · refine z_iconst (v := (0 : Int32)) hc dX8_net_204 (by decide) ?_
      exact tX8_net_205 hc hr N _ hk48 _ _
  · refine z_goto (tgt := 48) hc dX8_net_208 (by decide) ?_
    exact hk48  _
set_option maxRecDepth 100000 in
set_option maxHeartbeats 4000000 in
theorem tX8_net_173 {p : Program} {l : Launch} {e : Env} {s : State} {m : MethodId} {args : Array Value} {below : List Frame} {meth : Method} {c : Code} {D : va_G} {ca : Nat → ClassId} {xa ad : Nat → Nat} {A : Nat → Prop} (hc : zCx p s m args meth c cX8_net 4 RX8 D ca xa A (zwM ad ca)) (hr : meth.sig.returnType = (some .int)) (N : Nat) (k48 : zSt → Option (Int32 × zSt)) (hk48 : ∀ (σ : zSt), zGO p l e rmX8_net s m args below meth c 0 0 (zwM ad ca) D A 4 (zQ below D A (zwM ad ca) args s zI) (k48 σ) σ 48 [(0, .ref (ad 0))] [])  (σ : zSt) : zGO p l e rmX8_net s m args below meth c 0 0 (zwM ad ca) D A 4 (zQ below D A (zwM ad ca) args s zI) (fX8_net_173 N k48 σ) σ 173 [(0, .ref (ad 0))] [] := by
  unfold fX8_net_173
  refine z_aload_n hc dX8_net_173 0 rfl ?_
  refine gfX8_136 hc dX8_net_174 ?_
  refine z_if_ne (tgt := 184) hc dX8_net_177 (by decide) ?_ ?_
  · refine z_aload_n hc dX8_net_180 0 rfl ?_
    refine z_runVv (b0 := ad 0) (As := []) (rest := []) hc dX8_net_181 (fun _ _ h => tX8_readStep h) mpX8_readStep miX8_readStep kmX8_197 ⟨rfl, rfl, Nat.le_of_ble_eq_true rfl, Nat.le_of_ble_eq_true rfl⟩ ⟨Nat.le_refl _, Nat.le_refl _⟩ zcM_rc0 rfl (Nat.le_of_ble_eq_true rfl) (fun b1 σ2 => ?_)
    exact tX8_net_184 hc hr N _ hk48 _
  · exact tX8_net_184 hc hr N _ hk48 _
set_option maxRecDepth 100000 in
set_option maxHeartbeats 4000000 in
theorem tX8_net_151 {p : Program} {l : Launch} {e : Env} {s : State} {m : MethodId} {args : Array Value} {below : List Frame} {meth : Method} {c : Code} {D : va_G} {ca : Nat → ClassId} {xa ad : Nat → Nat} {A : Nat → Prop} (hc : zCx p s m args meth c cX8_net 4 RX8 D ca xa A (zwM ad ca)) (hr : meth.sig.returnType = (some .int)) (N : Nat) (k48 : zSt → Option (Int32 × zSt)) (hk48 : ∀ (σ : zSt), zGO p l e rmX8_net s m args below meth c 0 0 (zwM ad ca) D A 4 (zQ below D A (zwM ad ca) args s zI) (k48 σ) σ 48 [(0, .ref (ad 0))] []) (y1 : Int64) (x3 : Int32) (s0 : Int32) (σ : zSt) : zGO p l e rmX8_net s m args below meth c 0 0 (zwM ad ca) D A 4 (zQ below D A (zwM ad ca) args s zI) (fX8_net_151 N k48 y1 x3 s0 σ) σ 151 [(0, .ref (ad 0)), (1, .long y1), (3, .int x3)] [.int s0, .ref (ad 0)] := by
  unfold fX8_net_151
  refine z_runVv (b0 := ad 0) (As := [.int s0]) (rest := []) hc dX8_net_151 (fun _ _ h => tX8_must h) mpX8_must miX8_must kmX8_162 ⟨rfl, rfl, Nat.le_of_ble_eq_true rfl, Nat.le_of_ble_eq_true rfl⟩ ⟨Nat.le_refl _, Nat.le_refl _⟩ zcM_rc0 rfl (Nat.le_of_ble_eq_true rfl) (fun b1 σ2 => ?_)
  refine z_aload_n hc dX8_net_154 0 rfl ?_
  refine gfX8_136 hc dX8_net_155 ?_
  refine z_if_ne (tgt := 173) hc dX8_net_158 (by decide) ?_ ?_
  · refine z_iload_n hc dX8_net_161 2 rfl ?_
    refine z_if_eq (tgt := 173) hc dX8_net_162 (by decide) ?_ ?_
    · refine z_sub [0] rfl ?_
      exact tX8_net_173 hc hr N _ hk48 _
    · refine z_aload_n hc dX8_net_165 0 rfl ?_
      refine z_lload_n hc dX8_net_166 1 rfl ?_
      refine z_runVv (b0 := ad 0) (As := [.long y1]) (rest := []) hc dX8_net_167 (fun _ _ h => tX8_readNode h) mpX8_readNode miX8_readNode kmX8_193 ⟨rfl, rfl, Nat.le_of_ble_eq_true rfl, Nat.le_of_ble_eq_true rfl⟩ ⟨Nat.le_refl _, Nat.le_refl _⟩ zcM_rc0 rfl (Nat.le_of_ble_eq_true rfl) (fun b3 σ4 => ?_)
      refine z_goto (tgt := 184) hc dX8_net_170 (by decide) ?_
      refine z_sub [0] rfl ?_
      exact tX8_net_184 hc hr N _ hk48 _
  · refine z_sub [0] rfl ?_
    exact tX8_net_173 hc hr N _ hk48 _
set_option maxRecDepth 100000 in
set_option maxHeartbeats 4000000 in
theorem tX8_net_146 {p : Program} {l : Launch} {e : Env} {s : State} {m : MethodId} {args : Array Value} {below : List Frame} {meth : Method} {c : Code} {D : va_G} {ca : Nat → ClassId} {xa ad : Nat → Nat} {A : Nat → Prop} (hc : zCx p s m args meth c cX8_net 4 RX8 D ca xa A (zwM ad ca)) (hr : meth.sig.returnType = (some .int)) (N : Nat) (k48 : zSt → Option (Int32 × zSt)) (hk48 : ∀ (σ : zSt), zGO p l e rmX8_net s m args below meth c 0 0 (zwM ad ca) D A 4 (zQ below D A (zwM ad ca) args s zI) (k48 σ) σ 48 [(0, .ref (ad 0))] []) (y1 : Int64) (x3 : Int32) (σ : zSt) : zGO p l e rmX8_net s m args below meth c 0 0 (zwM ad ca) D A 4 (zQ below D A (zwM ad ca) args s zI) (fX8_net_146 N k48 y1 x3 σ) σ 146 [(0, .ref (ad 0)), (1, .long y1), (3, .int x3)] [.ref (ad 0)] := by
  unfold fX8_net_146
  refine z_iconst (v := (1 : Int32)) hc dX8_net_146 (by decide) ?_
  refine z_goto (tgt := 151) hc dX8_net_147 (by decide) ?_
  exact tX8_net_151 hc hr N _ hk48 _ _ _ _
set_option maxRecDepth 100000 in
set_option maxHeartbeats 4000000 in
theorem tX8_net_133 {p : Program} {l : Launch} {e : Env} {s : State} {m : MethodId} {args : Array Value} {below : List Frame} {meth : Method} {c : Code} {D : va_G} {ca : Nat → ClassId} {xa ad : Nat → Nat} {A : Nat → Prop} (hc : zCx p s m args meth c cX8_net 4 RX8 D ca xa A (zwM ad ca)) (hr : meth.sig.returnType = (some .int)) (N : Nat) (k48 : zSt → Option (Int32 × zSt)) (hk48 : ∀ (σ : zSt), zGO p l e rmX8_net s m args below meth c 0 0 (zwM ad ca) D A 4 (zQ below D A (zwM ad ca) args s zI) (k48 σ) σ 48 [(0, .ref (ad 0))] []) (y1 : Int64) (x3 : Int32) (σ : zSt) : zGO p l e rmX8_net s m args below meth c 0 0 (zwM ad ca) D A 4 (zQ below D A (zwM ad ca) args s zI) (fX8_net_133 N k48 y1 x3 σ) σ 133 [(0, .ref (ad 0)), (1, .long y1), (3, .int x3)] [] := by
  unfold fX8_net_133
  refine z_aload_n hc dX8_net_133 0 rfl ?_
  refine z_iload_n hc dX8_net_134 2 rfl ?_
  refine z_if_ne (tgt := 146) hc dX8_net_135 (by decide) ?_ ?_
  · refine z_lload_n hc dX8_net_138 1 rfl ?_
    refine z_ldc2 hc dX8_net_139 kcX8_191 ?_
    refine z_lcmp_ne (tgt := 150) hc dX8_net_142 dX8_net_143 (by decide) ?_ ?_
    · exact tX8_net_146 hc hr N _ hk48 _ _ _
    · refine z_iconst (v := (0 : Int32)) hc dX8_net_150 (by decide) ?_
      exact tX8_net_151 hc hr N _ hk48 _ _ _ _
  · exact tX8_net_146 hc hr N _ hk48 _ _ _
set_option maxRecDepth 100000 in
set_option maxHeartbeats 4000000 in
theorem tX8_net_128 {p : Program} {l : Launch} {e : Env} {s : State} {m : MethodId} {args : Array Value} {below : List Frame} {meth : Method} {c : Code} {D : va_G} {ca : Nat → ClassId} {xa ad : Nat → Nat} {A : Nat → Prop} (hc : zCx p s m args meth c cX8_net 4 RX8 D ca xa A (zwM ad ca)) (hr : meth.sig.returnType = (some .int)) (N : Nat) (k48 : zSt → Option (Int32 × zSt)) (hk48 : ∀ (σ : zSt), zGO p l e rmX8_net s m args below meth c 0 0 (zwM ad ca) D A 4 (zQ below D A (zwM ad ca) args s zI) (k48 σ) σ 48 [(0, .ref (ad 0))] []) (y1 : Int64) (x3 : Int32) (σ : zSt) : zGO p l e rmX8_net s m args below meth c 0 0 (zwM ad ca) D A 4 (zQ below D A (zwM ad ca) args s zI) (fX8_net_128 N k48 y1 x3 σ) σ 128 [(0, .ref (ad 0)), (1, .long y1), (3, .int x3)] [] := by
  unfold fX8_net_128
  refine z_aload_n hc dX8_net_128 0 rfl ?_
  refine z_iconst (v := (3 : Int32)) hc dX8_net_129 (by decide) ?_
  refine z_runVv (b0 := ad 0) (As := [.int (3 : Int32)]) (rest := []) hc dX8_net_130 (fun _ _ h => tX8_bad h) mpX8_bad miX8_bad kmX8_142 ⟨rfl, rfl, Nat.le_of_ble_eq_true rfl, Nat.le_of_ble_eq_true rfl⟩ ⟨Nat.le_refl _, Nat.le_refl _⟩ zcM_rc0 rfl (Nat.le_of_ble_eq_true rfl) (fun b1 σ2 => ?_)
  exact tX8_net_133 hc hr N _ hk48 _ _ _
set_option maxRecDepth 100000 in
set_option maxHeartbeats 4000000 in
theorem tX8_net_111 {p : Program} {l : Launch} {e : Env} {s : State} {m : MethodId} {args : Array Value} {below : List Frame} {meth : Method} {c : Code} {D : va_G} {ca : Nat → ClassId} {xa ad : Nat → Nat} {A : Nat → Prop} (hc : zCx p s m args meth c cX8_net 4 RX8 D ca xa A (zwM ad ca)) (hr : meth.sig.returnType = (some .int)) (N : Nat) (k48 : zSt → Option (Int32 × zSt)) (hk48 : ∀ (σ : zSt), zGO p l e rmX8_net s m args below meth c 0 0 (zwM ad ca) D A 4 (zQ below D A (zwM ad ca) args s zI) (k48 σ) σ 48 [(0, .ref (ad 0))] []) (y1 : Int64) (x3 : Int32) (σ : zSt) : zGO p l e rmX8_net s m args below meth c 0 0 (zwM ad ca) D A 4 (zQ below D A (zwM ad ca) args s zI) (fX8_net_111 N k48 y1 x3 σ) σ 111 [(0, .ref (ad 0)), (1, .long y1), (3, .int x3)] [] := by
  unfold fX8_net_111
  refine z_lload_n hc dX8_net_111 1 rfl ?_
  refine z_ldc2 hc dX8_net_112 kcX8_191 ?_
  refine z_lcmp_ne (tgt := 133) hc dX8_net_115 dX8_net_116 (by decide) ?_ ?_
  · refine z_aload_n hc dX8_net_119 0 rfl ?_
    refine gfX8_166 hc dX8_net_120 ?_
    refine z_bipush (v := (16 : Int32)) hc dX8_net_123 (by decide) ?_
    refine z_icmp_ne (tgt := 133) hc dX8_net_125 (by decide) ?_ ?_
    · exact tX8_net_128 hc hr N _ hk48 _ _ _
    · exact tX8_net_133 hc hr N _ hk48 _ _ _
  · exact tX8_net_133 hc hr N _ hk48 _ _ _
set_option maxRecDepth 100000 in
set_option maxHeartbeats 4000000 in
theorem tX8_net_97 {p : Program} {l : Launch} {e : Env} {s : State} {m : MethodId} {args : Array Value} {below : List Frame} {meth : Method} {c : Code} {D : va_G} {ca : Nat → ClassId} {xa ad : Nat → Nat} {A : Nat → Prop} (hc : zCx p s m args meth c cX8_net 4 RX8 D ca xa A (zwM ad ca)) (hr : meth.sig.returnType = (some .int)) (N : Nat) (k48 : zSt → Option (Int32 × zSt)) (hk48 : ∀ (σ : zSt), zGO p l e rmX8_net s m args below meth c 0 0 (zwM ad ca) D A 4 (zQ below D A (zwM ad ca) args s zI) (k48 σ) σ 48 [(0, .ref (ad 0))] []) (y1 : Int64) (s0 : Int32) (σ : zSt) : zGO p l e rmX8_net s m args below meth c 0 0 (zwM ad ca) D A 4 (zQ below D A (zwM ad ca) args s zI) (fX8_net_97 N k48 y1 s0 σ) σ 97 [(0, .ref (ad 0)), (1, .long y1)] [.int s0] := by
  unfold fX8_net_97
  refine z_istore_n (lv' := [(3, .int s0), (0, .ref (ad 0)), (1, .long y1)]) hc dX8_net_97 rfl (by decide) rfl ?_
  refine z_iload_n hc dX8_net_98 0 rfl ?_
  refine z_if_eq (tgt := 111) hc dX8_net_99 (by decide) ?_ ?_
  · refine z_sub [1, 2, 0] rfl ?_
    exact tX8_net_111 hc hr N _ hk48 _ _ _
  · refine z_aload_n hc dX8_net_102 1 rfl ?_
    refine gfX8_149 hc dX8_net_103 ?_
    refine z_bipush (v := (20 : Int32)) hc dX8_net_106 (by decide) ?_
    refine z_icmp_eq (tgt := 128) hc dX8_net_108 (by decide) ?_ ?_
    · refine z_sub [1, 2, 0] rfl ?_
      exact tX8_net_128 hc hr N _ hk48 _ _ _
    · refine z_sub [1, 2, 0] rfl ?_
      exact tX8_net_111 hc hr N _ hk48 _ _ _
set_option maxRecDepth 100000 in
set_option maxHeartbeats 4000000 in
theorem tX8_net_92 {p : Program} {l : Launch} {e : Env} {s : State} {m : MethodId} {args : Array Value} {below : List Frame} {meth : Method} {c : Code} {D : va_G} {ca : Nat → ClassId} {xa ad : Nat → Nat} {A : Nat → Prop} (hc : zCx p s m args meth c cX8_net 4 RX8 D ca xa A (zwM ad ca)) (hr : meth.sig.returnType = (some .int)) (N : Nat) (k48 : zSt → Option (Int32 × zSt)) (hk48 : ∀ (σ : zSt), zGO p l e rmX8_net s m args below meth c 0 0 (zwM ad ca) D A 4 (zQ below D A (zwM ad ca) args s zI) (k48 σ) σ 48 [(0, .ref (ad 0))] []) (y1 : Int64) (σ : zSt) : zGO p l e rmX8_net s m args below meth c 0 0 (zwM ad ca) D A 4 (zQ below D A (zwM ad ca) args s zI) (fX8_net_92 N k48 y1 σ) σ 92 [(0, .ref (ad 0)), (1, .long y1)] [] := by
  unfold fX8_net_92
  refine z_iconst (v := (1 : Int32)) hc dX8_net_92 (by decide) ?_
  refine z_goto (tgt := 97) hc dX8_net_93 (by decide) ?_
  exact tX8_net_97 hc hr N _ hk48 _ _ _
set_option maxRecDepth 100000 in
set_option maxHeartbeats 4000000 in
theorem tX8_net_211 {p : Program} {l : Launch} {e : Env} {s : State} {m : MethodId} {args : Array Value} {below : List Frame} {meth : Method} {c : Code} {D : va_G} {ca : Nat → ClassId} {xa ad : Nat → Nat} {A : Nat → Prop} (hc : zCx p s m args meth c cX8_net 4 RX8 D ca xa A (zwM ad ca)) (hr : meth.sig.returnType = (some .int)) (N : Nat)    (σ : zSt) : zGO p l e rmX8_net s m args below meth c 0 0 (zwM ad ca) D A 4 (zQ below D A (zwM ad ca) args s zI) (fX8_net_211 N σ) σ 211 [(0, .ref (ad 0))] [] := by
  unfold fX8_net_211
  refine z_aload_n hc dX8_net_211 0 rfl ?_
  refine gfX8_136 hc dX8_net_212 ?_
  refine z_if_le (tgt := 234) hc dX8_net_215 (by decide) ?_ ?_
  · refine z_aload_n hc dX8_net_234 0 rfl ?_
    refine z_aload_n hc dX8_net_235 0 rfl ?_
    refine gfX8_149 hc dX8_net_236 ?_
    refine pfX8_185 hc dX8_net_239 (fun σ1 => ?_)
    refine z_aload_n hc dX8_net_242 0 rfl ?_
    refine z_aload_n hc dX8_net_243 0 rfl ?_
    refine gfX8_166 hc dX8_net_244 ?_
    refine pfX8_188 hc dX8_net_247 (fun σ2 => ?_)
    refine z_aload_n hc dX8_net_250 0 rfl ?_
    refine gfX8_185 hc dX8_net_251 ?_
    exact z_iret hc hr dX8_net_254
  · refine z_aload_n hc dX8_net_218 0 rfl ?_
    refine z_aload_n hc dX8_net_219 0 rfl ?_
    refine gfX8_136 hc dX8_net_220 ?_
    refine pfX8_200 hc dX8_net_223 (fun σ3 => ?_)
    refine z_ldc hc dX8_net_226 kcX8_203 ?_
    refine z_aload_n hc dX8_net_228 0 rfl ?_
    refine gfX8_139 hc dX8_net_229 ?_
    refine z_isub hc dX8_net_232 ?_
    exact z_iret hc hr dX8_net_233
set_option maxRecDepth 100000 in
set_option maxHeartbeats 4000000 in
theorem tX8_net_48 {p : Program} {l : Launch} {e : Env} {s : State} {m : MethodId} {args : Array Value} {below : List Frame} {meth : Method} {c : Code} {D : va_G} {ca : Nat → ClassId} {xa ad : Nat → Nat} {A : Nat → Prop} (hc : zCx p s m args meth c cX8_net 4 RX8 D ca xa A (zwM ad ca)) (hr : meth.sig.returnType = (some .int)) (N : Nat)   : ∀ (n : Nat)  (σ : zSt), zGO p l e rmX8_net s m args below meth c 0 0 (zwM ad ca) D A 4 (zQ below D A (zwM ad ca) args s zI) (fX8_net_48 N n σ) σ 48 [(0, .ref (ad 0))] [] := by
  intro n
  induction n with
  | zero =>
    intro  σ
    exact z_none
  | succ n ih =>
    intro  σ
    unfold fX8_net_48
    refine z_aload_n hc dX8_net_48 0 rfl ?_
    refine gfX8_136 hc dX8_net_49 ?_
    refine z_if_ne (tgt := 211) hc dX8_net_52 (by decide) ?_ ?_
    · refine z_aload_n hc dX8_net_55 0 rfl ?_
      refine gfX8_124 hc dX8_net_56 ?_
      refine z_iconst (v := (1 : Int32)) hc dX8_net_59 (by decide) ?_
      refine z_icmp_eq (tgt := 211) hc dX8_net_60 (by decide) ?_ ?_
      · exact tX8_net_211 hc hr N _
      · refine z_aload_n hc dX8_net_63 0 rfl ?_
        refine z_runVl (b0 := ad 0) (As := []) (rest := []) hc dX8_net_64 (fun _ _ h => tX8_word h) mpX8_word miX8_word kmX8_169 ⟨rfl, rfl, Nat.le_of_ble_eq_true rfl, Nat.le_of_ble_eq_true rfl⟩ ⟨Nat.le_refl _, Nat.le_refl _⟩ zcM_rc0 rfl (Nat.le_of_ble_eq_true rfl) (fun b1 σ2 => ?_)
        refine z_lstore_n (lv' := [(1, .long b1), (0, .ref (ad 0))]) hc dX8_net_67 rfl (by decide) rfl ?_
        refine z_lload_n hc dX8_net_68 0 rfl ?_
        refine z_ldc2 hc dX8_net_69 kcX8_152 ?_
        refine z_lcmp_eq (tgt := 92) hc dX8_net_72 dX8_net_73 (by decide) ?_ ?_
        · refine z_sub [1, 0] rfl ?_
          exact tX8_net_92 hc hr N _ (ih) _ _
        · refine z_lload_n hc dX8_net_76 0 rfl ?_
          refine z_ldc2 hc dX8_net_77 kcX8_154 ?_
          refine z_lcmp_eq (tgt := 92) hc dX8_net_80 dX8_net_81 (by decide) ?_ ?_
          · refine z_sub [1, 0] rfl ?_
            exact tX8_net_92 hc hr N _ (ih) _ _
          · refine z_lload_n hc dX8_net_84 0 rfl ?_
            refine z_ldc2 hc dX8_net_85 kcX8_156 ?_
            refine z_lcmp_ne (tgt := 96) hc dX8_net_88 dX8_net_89 (by decide) ?_ ?_
            · refine z_sub [1, 0] rfl ?_
              exact tX8_net_92 hc hr N _ (ih) _ _
            · refine z_iconst (v := (0 : Int32)) hc dX8_net_96 (by decide) ?_
              refine z_sub [1, 0] rfl ?_
              exact tX8_net_97 hc hr N _ (ih) _ _ _
    · exact tX8_net_211 hc hr N _
set_option maxRecDepth 100000 in
set_option maxHeartbeats 4000000 in
theorem tX8_net {l : Launch} {D : va_G} {ca : Nat → ClassId} {xa ad : Nat → Nat} {A : Nat → Prop} {N : Nat}  {σ : zSt} {a : Int32} {τ : zSt} (h : fX8_net N σ = some (a, τ)) : zCt l yX8_net cX8_net 4 (some .int) rmX8_net D ca xa A (zwM ad ca) [.ref (ad 0)] σ (zI a) τ := by
  refine z_met (inj := zI) (lv := [(0, .ref (ad 0))]) (by decide) (Nat.le_of_ble_eq_true rfl) rfl ?_ h
  intro p e s m args below meth c hc hr
  unfold fX8_net
  refine z_aload_n hc dX8_net_0 0 rfl ?_
  refine z_iconst (v := (0 : Int32)) hc dX8_net_1 (by decide) ?_
  refine pfX8_78 hc dX8_net_2 (fun σ1 => ?_)
  refine z_aload_n hc dX8_net_5 0 rfl ?_
  refine z_aload_n hc dX8_net_6 0 rfl ?_
  refine gfX8_105 hc dX8_net_7 ?_
  refine pfX8_111 hc dX8_net_10 (fun σ2 => ?_)
  refine z_aload_n hc dX8_net_13 0 rfl ?_
  refine z_iconst (v := (0 : Int32)) hc dX8_net_14 (by decide) ?_
  refine pfX8_105 hc dX8_net_15 (fun σ3 => ?_)
  refine z_aload_n hc dX8_net_18 0 rfl ?_
  refine z_iconst (v := (0 : Int32)) hc dX8_net_19 (by decide) ?_
  refine pfX8_115 hc dX8_net_20 (fun σ4 => ?_)
  refine z_aload_n hc dX8_net_23 0 rfl ?_
  refine z_iconst (v := (0 : Int32)) hc dX8_net_24 (by decide) ?_
  refine pfX8_136 hc dX8_net_25 (fun σ5 => ?_)
  refine z_aload_n hc dX8_net_28 0 rfl ?_
  refine z_aload_n hc dX8_net_29 0 rfl ?_
  refine gfX8_185 hc dX8_net_30 ?_
  refine pfX8_149 hc dX8_net_33 (fun σ6 => ?_)
  refine z_aload_n hc dX8_net_36 0 rfl ?_
  refine z_aload_n hc dX8_net_37 0 rfl ?_
  refine gfX8_188 hc dX8_net_38 ?_
  refine pfX8_166 hc dX8_net_41 (fun σ7 => ?_)
  refine z_aload_n hc dX8_net_44 0 rfl ?_
  refine z_runVv (b0 := ad 0) (As := []) (rest := []) hc dX8_net_45 (fun _ _ h => tX8_next h) mpX8_next miX8_next kmX8_146 ⟨rfl, rfl, Nat.le_of_ble_eq_true rfl, Nat.le_of_ble_eq_true rfl⟩ ⟨Nat.le_refl _, Nat.le_refl _⟩ zcM_rc0 rfl (Nat.le_of_ble_eq_true rfl) (fun b8 σ9 => ?_)
  exact tX8_net_48 hc hr N N _
set_option maxRecDepth 100000 in
set_option maxHeartbeats 4000000 in
theorem tX7_fault {l : Launch} {D : va_G} {ca : Nat → ClassId} {xa ad : Nat → Nat} {A : Nat → Prop} {N : Nat}  {σ : zSt} {a : Int32} {τ : zSt} (h : fX7_fault N σ = some (a, τ)) : zCt l yX7_fault cX7_fault 1 (some .int) rmX7_fault D ca xa A (zwC ad ca) [.ref (ad 0)] σ (zI a) τ := by
  refine z_met (inj := zI) (lv := [(0, .ref (ad 0))]) (by decide) (Nat.le_of_ble_eq_true rfl) rfl ?_ h
  intro p e s m args below meth c hc hr
  unfold fX7_fault
  refine z_aload_n hc dX7_fault_0 0 rfl ?_
  refine gfX7_51 hc dX7_fault_1 ?_
  exact z_iret hc hr dX7_fault_4
set_option maxRecDepth 100000 in
set_option maxHeartbeats 4000000 in
theorem tX8_fault {l : Launch} {D : va_G} {ca : Nat → ClassId} {xa ad : Nat → Nat} {A : Nat → Prop} {N : Nat}  {σ : zSt} {a : Int32} {τ : zSt} (h : fX8_fault N σ = some (a, τ)) : zCt l yX8_fault cX8_fault 1 (some .int) rmX8_fault D ca xa A (zwM ad ca) [.ref (ad 0)] σ (zI a) τ := by
  refine z_met (inj := zI) (lv := [(0, .ref (ad 0))]) (by decide) (Nat.le_of_ble_eq_true rfl) rfl ?_ h
  intro p e s m args below meth c hc hr
  unfold fX8_fault
  refine z_aload_n hc dX8_fault_0 0 rfl ?_
  refine z_iconst (v := (0 : Int32)) hc dX8_fault_1 (by decide) ?_
  refine pfX8_78 hc dX8_fault_2 (fun σ1 => ?_)
  refine z_aload_n hc dX8_fault_5 0 rfl ?_
  refine gfX8_200 hc dX8_fault_6 ?_
  exact z_iret hc hr dX8_fault_9
set_option maxRecDepth 100000 in
set_option maxHeartbeats 4000000 in
theorem tX2_stands {l : Launch} {D : va_G} {ca : Nat → ClassId} {xa ad : Nat → Nat} {A : Nat → Prop} {N : Nat} {x1 : Int32} {σ : zSt} {a : Int32} {τ : zSt} (h : fX2_stands N x1 σ = some (a, τ)) : zCt l yX2_stands cX2_stands 2 (some .boolean) rmX2_stands D ca xa A (zwC ad ca) [.ref (ad 7), .int x1] σ (zI a) τ := by
  refine z_met (inj := zI) (lv := [(0, .ref (ad 7)), (1, .int x1)]) (by decide) (Nat.le_of_ble_eq_true rfl) rfl ?_ h
  intro p e s m args below meth c hc hr
  unfold fX2_stands
  refine z_aload_n hc dX2_stands_0 0 rfl ?_
  refine gfX2_24 hc dX2_stands_1 ?_
  refine z_iload_n hc dX2_stands_4 1 rfl ?_
  refine z_iaload hc 12 (by decide) rfl dX2_stands_5 (fun v1 => ?_)
  refine z_if_ne (tgt := 33) hc dX2_stands_6 (by decide) ?_ ?_
  · refine z_aload_n hc dX2_stands_9 0 rfl ?_
    refine gfX2_78 hc dX2_stands_10 ?_
    refine z_aload_n hc dX2_stands_13 0 rfl ?_
    refine gfX2_18 hc dX2_stands_14 ?_
    refine z_iload_n hc dX2_stands_17 1 rfl ?_
    refine z_iaload hc 10 (by decide) rfl dX2_stands_18 (fun v2 => ?_)
    refine z_aload_n hc dX2_stands_19 0 rfl ?_
    refine gfX2_21 hc dX2_stands_20 ?_
    refine z_iload_n hc dX2_stands_23 1 rfl ?_
    refine z_iaload hc 11 (by decide) rfl dX2_stands_24 (fun v3 => ?_)
    refine z_iadd hc dX2_stands_25 ?_
    refine z_icmp_gt (tgt := 33) hc dX2_stands_26 (by decide) ?_ ?_
    · refine z_iconst (v := (0 : Int32)) hc dX2_stands_33 (by decide) ?_
      exact z_zret hc hr dX2_stands_34
    · refine z_iconst (v := (1 : Int32)) hc dX2_stands_29 (by decide) ?_
      refine z_goto (tgt := 34) hc dX2_stands_30 (by decide) ?_
      exact z_zret hc hr dX2_stands_34
  · refine z_iconst (v := (0 : Int32)) hc dX2_stands_33 (by decide) ?_
    exact z_zret hc hr dX2_stands_34
set_option maxRecDepth 100000 in
set_option maxHeartbeats 4000000 in
theorem tX2_standing_4 {p : Program} {l : Launch} {e : Env} {s : State} {m : MethodId} {args : Array Value} {below : List Frame} {meth : Method} {c : Code} {D : va_G} {ca : Nat → ClassId} {xa ad : Nat → Nat} {A : Nat → Prop} (hc : zCx p s m args meth c cX2_standing 3 RX2 D ca xa A (zwC ad ca)) (hr : meth.sig.returnType = (some .int)) (N : Nat)   : ∀ (n : Nat) (x1 : Int32) (x2 : Int32) (σ : zSt), zGO p l e rmX2_standing s m args below meth c 0 0 (zwC ad ca) D A 3 (zQ below D A (zwC ad ca) args s zI) (fX2_standing_4 N n x1 x2 σ) σ 4 [(0, .ref (ad 7)), (1, .int x1), (2, .int x2)] [] := by
  intro n
  induction n with
  | zero =>
    intro x1 x2 σ
    exact z_none
  | succ n ih =>
    intro x1 x2 σ
    unfold fX2_standing_4
    refine z_iload_n hc dX2_standing_4 2 rfl ?_
    refine z_aload_n hc dX2_standing_5 0 rfl ?_
    refine gfX2_51 hc dX2_standing_6 ?_
    refine z_icmp_ge (tgt := 42) hc dX2_standing_9 (by decide) ?_ ?_
    · refine z_iload_n hc dX2_standing_42 1 rfl ?_
      exact z_iret hc hr dX2_standing_43
    · refine z_aload_n hc dX2_standing_12 0 rfl ?_
      refine gfX2_9 hc dX2_standing_13 ?_
      refine z_iload_n hc dX2_standing_16 2 rfl ?_
      refine z_iaload hc 8 (by decide) rfl dX2_standing_17 (fun v1 => ?_)
      refine z_iconst (v := (2 : Int32)) hc dX2_standing_18 (by decide) ?_
      refine z_icmp_eq (tgt := 36) hc dX2_standing_19 (by decide) ?_ ?_
      · refine z_iinc (v := (x2 + (1 : Int32))) (lv' := [(2, .int (x2 + (1 : Int32))), (0, .ref (ad 7)), (1, .int x1)]) hc dX2_standing_36 2 rfl rfl (by decide) rfl ?_
        refine z_goto (tgt := 4) hc dX2_standing_39 (by decide) ?_
        refine z_sub [1, 2, 0] rfl ?_
        exact ih _ _ _
      · refine z_aload_n hc dX2_standing_22 0 rfl ?_
        refine z_iload_n hc dX2_standing_23 2 rfl ?_
        refine z_runVi (b0 := ad 7) (As := [.int x2]) (rest := []) hc dX2_standing_24 (fun _ _ h => tX2_stands h) mpX2_stands miX2_stands kmX2_85 ⟨rfl, rfl, Nat.le_of_ble_eq_true rfl, Nat.le_of_ble_eq_true rfl⟩ ⟨Nat.le_refl _, Nat.le_refl _⟩ zcC_rc7 rfl (Nat.le_of_ble_eq_true rfl) (fun b2 σ3 => ?_)
        refine z_if_eq (tgt := 36) hc dX2_standing_27 (by decide) ?_ ?_
        · refine z_iinc (v := (x2 + (1 : Int32))) (lv' := [(2, .int (x2 + (1 : Int32))), (0, .ref (ad 7)), (1, .int x1)]) hc dX2_standing_36 2 rfl rfl (by decide) rfl ?_
          refine z_goto (tgt := 4) hc dX2_standing_39 (by decide) ?_
          refine z_sub [1, 2, 0] rfl ?_
          exact ih _ _ _
        · refine z_iload_n hc dX2_standing_30 1 rfl ?_
          refine z_iconst (v := (1 : Int32)) hc dX2_standing_31 (by decide) ?_
          refine z_iload_n hc dX2_standing_32 2 rfl ?_
          refine z_ishl hc dX2_standing_33 ?_
          refine z_ior hc dX2_standing_34 ?_
          refine z_nm (fun v4 => ?_)
          refine z_istore_n (lv' := [(1, .int v4), (0, .ref (ad 7)), (2, .int x2)]) hc dX2_standing_35 rfl (by decide) rfl ?_
          refine z_iinc (v := (x2 + (1 : Int32))) (lv' := [(2, .int (x2 + (1 : Int32))), (1, .int v4), (0, .ref (ad 7))]) hc dX2_standing_36 2 rfl rfl (by decide) rfl ?_
          refine z_goto (tgt := 4) hc dX2_standing_39 (by decide) ?_
          refine z_sub [2, 1, 0] rfl ?_
          exact ih _ _ _
set_option maxRecDepth 100000 in
set_option maxHeartbeats 4000000 in
theorem tX2_standing {l : Launch} {D : va_G} {ca : Nat → ClassId} {xa ad : Nat → Nat} {A : Nat → Prop} {N : Nat}  {σ : zSt} {a : Int32} {τ : zSt} (h : fX2_standing N σ = some (a, τ)) : zCt l yX2_standing cX2_standing 3 (some .int) rmX2_standing D ca xa A (zwC ad ca) [.ref (ad 7)] σ (zI a) τ := by
  refine z_met (inj := zI) (lv := [(0, .ref (ad 7))]) (by decide) (Nat.le_of_ble_eq_true rfl) rfl ?_ h
  intro p e s m args below meth c hc hr
  unfold fX2_standing
  refine z_iconst (v := (0 : Int32)) hc dX2_standing_0 (by decide) ?_
  refine z_istore_n (lv' := [(1, .int (0 : Int32)), (0, .ref (ad 7))]) hc dX2_standing_1 rfl (by decide) rfl ?_
  refine z_iconst (v := (0 : Int32)) hc dX2_standing_2 (by decide) ?_
  refine z_istore_n (lv' := [(2, .int (0 : Int32)), (1, .int (0 : Int32)), (0, .ref (ad 7))]) hc dX2_standing_3 rfl (by decide) rfl ?_
  refine z_sub [2, 1, 0] rfl ?_
  exact tX2_standing_4 hc hr N N _ _ _
set_option maxRecDepth 100000 in
set_option maxHeartbeats 4000000 in
theorem tJ6_bitCount_0f7a4 {l : Launch} {D : va_G} {ca : Nat → ClassId} {xa ad : Nat → Nat} {A : Nat → Prop} {N : Nat} {x0 : Int32} {σ : zSt} {a : Int32} {τ : zSt} (h : fJ6_bitCount_0f7a4 N x0 σ = some (a, τ)) : zCt l yJ6_bitCount_0f7a4 cJ6_bitCount_0f7a4 1 (some .int) rmJ6_bitCount_0f7a4 D ca xa A (zwC ad ca) [.int x0] σ (zI a) τ := by
  refine z_met (inj := zI) (lv := [(0, .int x0)]) (by decide) (Nat.le_of_ble_eq_true rfl) rfl ?_ h
  intro p e s m args below meth c hc hr
  unfold fJ6_bitCount_0f7a4
  refine z_iload_n hc dJ6_bitCount_0f7a4_0 0 rfl ?_
  refine z_iload_n hc dJ6_bitCount_0f7a4_1 0 rfl ?_
  refine z_iconst (v := (1 : Int32)) hc dJ6_bitCount_0f7a4_2 (by decide) ?_
  refine z_iushr hc dJ6_bitCount_0f7a4_3 ?_
  refine z_ldcw hc kcJ6_265 dJ6_bitCount_0f7a4_4 ?_
  refine z_iand hc dJ6_bitCount_0f7a4_7 ?_
  refine z_isub hc dJ6_bitCount_0f7a4_8 ?_
  refine z_nm (fun v1 => ?_)
  refine z_istore_n (lv' := [(0, .int v1)]) hc dJ6_bitCount_0f7a4_9 rfl (by decide) rfl ?_
  refine z_iload_n hc dJ6_bitCount_0f7a4_10 0 rfl ?_
  refine z_ldcw hc kcJ6_266 dJ6_bitCount_0f7a4_11 ?_
  refine z_iand hc dJ6_bitCount_0f7a4_14 ?_
  refine z_iload_n hc dJ6_bitCount_0f7a4_15 0 rfl ?_
  refine z_iconst (v := (2 : Int32)) hc dJ6_bitCount_0f7a4_16 (by decide) ?_
  refine z_iushr hc dJ6_bitCount_0f7a4_17 ?_
  refine z_ldcw hc kcJ6_266 dJ6_bitCount_0f7a4_18 ?_
  refine z_iand hc dJ6_bitCount_0f7a4_21 ?_
  refine z_iadd hc dJ6_bitCount_0f7a4_22 ?_
  refine z_nm (fun v2 => ?_)
  refine z_istore_n (lv' := [(0, .int v2)]) hc dJ6_bitCount_0f7a4_23 rfl (by decide) rfl ?_
  refine z_iload_n hc dJ6_bitCount_0f7a4_24 0 rfl ?_
  refine z_iload_n hc dJ6_bitCount_0f7a4_25 0 rfl ?_
  refine z_iconst (v := (4 : Int32)) hc dJ6_bitCount_0f7a4_26 (by decide) ?_
  refine z_iushr hc dJ6_bitCount_0f7a4_27 ?_
  refine z_iadd hc dJ6_bitCount_0f7a4_28 ?_
  refine z_ldcw hc kcJ6_267 dJ6_bitCount_0f7a4_29 ?_
  refine z_iand hc dJ6_bitCount_0f7a4_32 ?_
  refine z_nm (fun v3 => ?_)
  refine z_istore_n (lv' := [(0, .int v3)]) hc dJ6_bitCount_0f7a4_33 rfl (by decide) rfl ?_
  refine z_iload_n hc dJ6_bitCount_0f7a4_34 0 rfl ?_
  refine z_iload_n hc dJ6_bitCount_0f7a4_35 0 rfl ?_
  refine z_bipush (v := (8 : Int32)) hc dJ6_bitCount_0f7a4_36 (by decide) ?_
  refine z_iushr hc dJ6_bitCount_0f7a4_38 ?_
  refine z_iadd hc dJ6_bitCount_0f7a4_39 ?_
  refine z_nm (fun v4 => ?_)
  refine z_istore_n (lv' := [(0, .int v4)]) hc dJ6_bitCount_0f7a4_40 rfl (by decide) rfl ?_
  refine z_iload_n hc dJ6_bitCount_0f7a4_41 0 rfl ?_
  refine z_iload_n hc dJ6_bitCount_0f7a4_42 0 rfl ?_
  refine z_bipush (v := (16 : Int32)) hc dJ6_bitCount_0f7a4_43 (by decide) ?_
  refine z_iushr hc dJ6_bitCount_0f7a4_45 ?_
  refine z_iadd hc dJ6_bitCount_0f7a4_46 ?_
  refine z_nm (fun v5 => ?_)
  refine z_istore_n (lv' := [(0, .int v5)]) hc dJ6_bitCount_0f7a4_47 rfl (by decide) rfl ?_
  refine z_iload_n hc dJ6_bitCount_0f7a4_48 0 rfl ?_
  refine z_bipush (v := (63 : Int32)) hc dJ6_bitCount_0f7a4_49 (by decide) ?_
  refine z_iand hc dJ6_bitCount_0f7a4_51 ?_
  exact z_iret hc hr dJ6_bitCount_0f7a4_52
set_option maxRecDepth 100000 in
set_option maxHeartbeats 4000000 in
theorem tX2_isBorneUp {l : Launch} {D : va_G} {ca : Nat → ClassId} {xa ad : Nat → Nat} {A : Nat → Prop} {N : Nat} {x1 : Int32} {x2 : Int32} {σ : zSt} {a : Int32} {τ : zSt} (h : fX2_isBorneUp N x1 x2 σ = some (a, τ)) : zCt l yX2_isBorneUp cX2_isBorneUp 4 (some .boolean) rmX2_isBorneUp D ca xa A (zwC ad ca) [.ref (ad 7), .int x1, .int x2] σ (zI a) τ := by
  refine z_met (inj := zI) (lv := [(0, .ref (ad 7)), (1, .int x1), (2, .int x2)]) (by decide) (Nat.le_of_ble_eq_true rfl) rfl ?_ h
  intro p e s m args below meth c hc hr
  unfold fX2_isBorneUp
  refine z_aload_n hc dX2_isBorneUp_0 0 rfl ?_
  refine gfX2_36 hc dX2_isBorneUp_1 ?_
  refine z_iload_n hc dX2_isBorneUp_4 1 rfl ?_
  refine z_iaload hc 16 (by decide) rfl dX2_isBorneUp_5 (fun v1 => ?_)
  refine z_iload_n hc dX2_isBorneUp_6 2 rfl ?_
  refine z_iand hc dX2_isBorneUp_7 ?_
  refine z_nm (fun v2 => ?_)
  refine z_istore_n (lv' := [(3, .int v2), (0, .ref (ad 7)), (1, .int x1), (2, .int x2)]) hc dX2_isBorneUp_8 rfl (by decide) rfl ?_
  refine z_aload_n hc dX2_isBorneUp_9 1 rfl ?_
  refine gfX2_27 hc dX2_isBorneUp_10 ?_
  refine z_iload_n hc dX2_isBorneUp_13 2 rfl ?_
  refine z_iaload hc 13 (by decide) rfl dX2_isBorneUp_14 (fun v3 => ?_)
  refine z_ite (fun h5 => ?_) (fun h5 => ?_)
  · refine z_swIn (tgt := 40) (off := 25) hc dX2_isBorneUp_15 (by rw [h5]; decide) (by rw [h5]; decide) (by rw [h5]; decide) (by decide) ?_
    refine z_iload_n hc dX2_isBorneUp_40 0 rfl ?_
    refine z_aload_n hc dX2_isBorneUp_41 1 rfl ?_
    refine gfX2_36 hc dX2_isBorneUp_42 ?_
    refine z_iload_n hc dX2_isBorneUp_45 2 rfl ?_
    refine z_iaload hc 16 (by decide) rfl dX2_isBorneUp_46 (fun v4 => ?_)
    refine z_icmp_ne (tgt := 54) hc dX2_isBorneUp_47 (by decide) ?_ ?_
    · refine z_iconst (v := (1 : Int32)) hc dX2_isBorneUp_50 (by decide) ?_
      refine z_goto (tgt := 55) hc dX2_isBorneUp_51 (by decide) ?_
      exact z_zret hc hr dX2_isBorneUp_55
    · refine z_iconst (v := (0 : Int32)) hc dX2_isBorneUp_54 (by decide) ?_
      exact z_zret hc hr dX2_isBorneUp_55
  refine z_ite (fun h6 => ?_) (fun h6 => ?_)
  · refine z_swIn (tgt := 56) (off := 41) hc dX2_isBorneUp_15 (by rw [h6]; decide) (by rw [h6]; decide) (by rw [h6]; decide) (by decide) ?_
    refine z_iload_n hc dX2_isBorneUp_56 0 rfl ?_
    refine z_if_eq (tgt := 64) hc dX2_isBorneUp_57 (by decide) ?_ ?_
    · refine z_iconst (v := (0 : Int32)) hc dX2_isBorneUp_64 (by decide) ?_
      exact z_zret hc hr dX2_isBorneUp_65
    · refine z_iconst (v := (1 : Int32)) hc dX2_isBorneUp_60 (by decide) ?_
      refine z_goto (tgt := 65) hc dX2_isBorneUp_61 (by decide) ?_
      exact z_zret hc hr dX2_isBorneUp_65
  refine z_ite (fun h10 => ?_) (fun h10 => ?_)
  · refine z_swIn (tgt := 66) (off := 51) hc dX2_isBorneUp_15 (by rw [h10]; decide) (by rw [h10]; decide) (by rw [h10]; decide) (by decide) ?_
    refine z_iconst (v := (2 : Int32)) hc dX2_isBorneUp_66 (by decide) ?_
    refine z_iload_n hc dX2_isBorneUp_67 0 rfl ?_
    refine z_runSi (As := [.int v2]) (rest := [.int (2 : Int32)]) hc dX2_isBorneUp_68 (fun _ _ h => tJ6_bitCount_0f7a4 h) mpJ6_bitCount_0f7a4 miJ6_bitCount_0f7a4 kmX2_88 ⟨rfl, rfl, Nat.le_of_ble_eq_true rfl, Nat.le_of_ble_eq_true rfl⟩ ⟨Nat.le_refl _, Nat.le_refl _⟩ rfl (Nat.le_of_ble_eq_true rfl) (fun b7 σ8 => ?_)
    refine z_imul hc dX2_isBorneUp_71 ?_
    refine z_aload_n hc dX2_isBorneUp_72 1 rfl ?_
    refine gfX2_33 hc dX2_isBorneUp_73 ?_
    refine z_iload_n hc dX2_isBorneUp_76 2 rfl ?_
    refine z_iaload hc 15 (by decide) rfl dX2_isBorneUp_77 (fun v9 => ?_)
    refine z_icmp_le (tgt := 85) hc dX2_isBorneUp_78 (by decide) ?_ ?_
    · refine z_iconst (v := (0 : Int32)) hc dX2_isBorneUp_85 (by decide) ?_
      exact z_zret hc hr dX2_isBorneUp_86
    · refine z_iconst (v := (1 : Int32)) hc dX2_isBorneUp_81 (by decide) ?_
      refine z_goto (tgt := 86) hc dX2_isBorneUp_82 (by decide) ?_
      exact z_zret hc hr dX2_isBorneUp_86
  refine z_swOut (tgt := 87) hc dX2_isBorneUp_15 (zsw0_2 h5 h6 h10) (by decide) ?_
  refine z_iload_n hc dX2_isBorneUp_87 3 rfl ?_
  refine z_aload_n hc dX2_isBorneUp_88 1 rfl ?_
  refine gfX2_39 hc dX2_isBorneUp_89 ?_
  refine z_iload_n hc dX2_isBorneUp_92 2 rfl ?_
  refine z_bipush (v := (6 : Int32)) hc dX2_isBorneUp_93 (by decide) ?_
  refine z_imul hc dX2_isBorneUp_95 ?_
  refine z_iaload hc 17 (by decide) rfl dX2_isBorneUp_96 (fun v11 => ?_)
  refine z_ishr hc dX2_isBorneUp_97 ?_
  refine z_iconst (v := (1 : Int32)) hc dX2_isBorneUp_98 (by decide) ?_
  refine z_iand hc dX2_isBorneUp_99 ?_
  refine z_iconst (v := (1 : Int32)) hc dX2_isBorneUp_100 (by decide) ?_
  refine z_icmp_ne (tgt := 108) hc dX2_isBorneUp_101 (by decide) ?_ ?_
  · refine z_iconst (v := (1 : Int32)) hc dX2_isBorneUp_104 (by decide) ?_
    refine z_goto (tgt := 109) hc dX2_isBorneUp_105 (by decide) ?_
    exact z_zret hc hr dX2_isBorneUp_109
  · refine z_iconst (v := (0 : Int32)) hc dX2_isBorneUp_108 (by decide) ?_
    exact z_zret hc hr dX2_isBorneUp_109
set_option maxRecDepth 100000 in
set_option maxHeartbeats 4000000 in
theorem tX2_nextRound_5 {p : Program} {l : Launch} {e : Env} {s : State} {m : MethodId} {args : Array Value} {below : List Frame} {meth : Method} {c : Code} {D : va_G} {ca : Nat → ClassId} {xa ad : Nat → Nat} {A : Nat → Prop} (hc : zCx p s m args meth c cX2_nextRound 6 RX2 D ca xa A (zwC ad ca)) (hr : meth.sig.returnType = (some .int)) (N : Nat)   : ∀ (n : Nat) (x1 : Int32) (x2 : Int32) (x3 : Int32) (x4 : Int32) (σ : zSt), zGO p l e rmX2_nextRound s m args below meth c 0 0 (zwC ad ca) D A 6 (zQ below D A (zwC ad ca) args s zI) (fX2_nextRound_5 N n x1 x2 x3 x4 σ) σ 5 [(0, .ref (ad 7)), (1, .int x1), (2, .int x2), (3, .int x3), (4, .int x4)] [] := by
  intro n
  induction n with
  | zero =>
    intro x1 x2 x3 x4 σ
    exact z_none
  | succ n ih =>
    intro x1 x2 x3 x4 σ
    unfold fX2_nextRound_5
    refine z_iload hc dX2_nextRound_5 4 rfl ?_
    refine z_aload_n hc dX2_nextRound_7 0 rfl ?_
    refine gfX2_59 hc dX2_nextRound_8 ?_
    refine z_icmp_ge (tgt := 69) hc dX2_nextRound_11 (by decide) ?_ ?_
    · refine z_iload_n hc dX2_nextRound_69 3 rfl ?_
      exact z_iret hc hr dX2_nextRound_70
    · refine z_iconst (v := (1 : Int32)) hc dX2_nextRound_14 (by decide) ?_
      refine z_aload_n hc dX2_nextRound_15 0 rfl ?_
      refine gfX2_30 hc dX2_nextRound_16 ?_
      refine z_iload hc dX2_nextRound_19 4 rfl ?_
      refine z_iaload hc 14 (by decide) rfl dX2_nextRound_21 (fun v1 => ?_)
      refine z_ishl hc dX2_nextRound_22 ?_
      refine z_iload_n hc dX2_nextRound_23 2 rfl ?_
      refine z_iconst (v := (-1 : Int32)) hc dX2_nextRound_24 (by decide) ?_
      refine z_ixor hc dX2_nextRound_25 ?_
      refine z_iand hc dX2_nextRound_26 ?_
      refine z_iload_n hc dX2_nextRound_27 3 rfl ?_
      refine z_iconst (v := (-1 : Int32)) hc dX2_nextRound_28 (by decide) ?_
      refine z_ixor hc dX2_nextRound_29 ?_
      refine z_iand hc dX2_nextRound_30 ?_
      refine z_nm (fun v2 => ?_)
      refine z_istore (lv' := [(5, .int v2), (0, .ref (ad 7)), (1, .int x1), (2, .int x2), (3, .int x3), (4, .int x4)]) hc dX2_nextRound_31 (by decide) rfl ?_
      refine z_iload hc dX2_nextRound_33 0 rfl ?_
      refine z_if_eq (tgt := 63) hc dX2_nextRound_35 (by decide) ?_ ?_
      · refine z_iinc (v := (x4 + (1 : Int32))) (lv' := [(4, .int (x4 + (1 : Int32))), (5, .int v2), (0, .ref (ad 7)), (1, .int x1), (2, .int x2), (3, .int x3)]) hc dX2_nextRound_63 5 rfl rfl (by decide) rfl ?_
        refine z_goto (tgt := 5) hc dX2_nextRound_66 (by decide) ?_
        refine z_sub [2, 3, 4, 5, 0] rfl ?_
        exact ih _ _ _ _ _
      · refine z_aload_n hc dX2_nextRound_38 1 rfl ?_
        refine gfX2_42 hc dX2_nextRound_39 ?_
        refine z_iload hc dX2_nextRound_42 5 rfl ?_
        refine z_iaload hc 18 (by decide) rfl dX2_nextRound_44 (fun v3 => ?_)
        refine z_if_ne (tgt := 63) hc dX2_nextRound_45 (by decide) ?_ ?_
        · refine z_aload_n hc dX2_nextRound_48 1 rfl ?_
          refine z_iload hc dX2_nextRound_49 5 rfl ?_
          refine z_iload_n hc dX2_nextRound_51 2 rfl ?_
          refine z_runVi (b0 := ad 7) (As := [.int x4, .int x1]) (rest := []) hc dX2_nextRound_52 (fun _ _ h => tX2_isBorneUp h) mpX2_isBorneUp miX2_isBorneUp kmX2_93 ⟨rfl, rfl, Nat.le_of_ble_eq_true rfl, Nat.le_of_ble_eq_true rfl⟩ ⟨Nat.le_refl _, Nat.le_refl _⟩ zcC_rc7 rfl (Nat.le_of_ble_eq_true rfl) (fun b4 σ5 => ?_)
          refine z_if_eq (tgt := 63) hc dX2_nextRound_55 (by decide) ?_ ?_
          · refine z_iinc (v := (x4 + (1 : Int32))) (lv' := [(4, .int (x4 + (1 : Int32))), (5, .int v2), (0, .ref (ad 7)), (1, .int x1), (2, .int x2), (3, .int x3)]) hc dX2_nextRound_63 5 rfl rfl (by decide) rfl ?_
            refine z_goto (tgt := 5) hc dX2_nextRound_66 (by decide) ?_
            refine z_sub [2, 3, 4, 5, 0] rfl ?_
            exact ih _ _ _ _ _
          · refine z_iload_n hc dX2_nextRound_58 4 rfl ?_
            refine z_iload hc dX2_nextRound_59 0 rfl ?_
            refine z_ior hc dX2_nextRound_61 ?_
            refine z_nm (fun v6 => ?_)
            refine z_istore_n (lv' := [(3, .int v6), (5, .int v2), (0, .ref (ad 7)), (1, .int x1), (2, .int x2), (4, .int x4)]) hc dX2_nextRound_62 rfl (by decide) rfl ?_
            refine z_iinc (v := (x4 + (1 : Int32))) (lv' := [(4, .int (x4 + (1 : Int32))), (3, .int v6), (5, .int v2), (0, .ref (ad 7)), (1, .int x1), (2, .int x2)]) hc dX2_nextRound_63 5 rfl rfl (by decide) rfl ?_
            refine z_goto (tgt := 5) hc dX2_nextRound_66 (by decide) ?_
            refine z_sub [3, 4, 5, 1, 0] rfl ?_
            exact ih _ _ _ _ _
        · refine z_iinc (v := (x4 + (1 : Int32))) (lv' := [(4, .int (x4 + (1 : Int32))), (5, .int v2), (0, .ref (ad 7)), (1, .int x1), (2, .int x2), (3, .int x3)]) hc dX2_nextRound_63 5 rfl rfl (by decide) rfl ?_
          refine z_goto (tgt := 5) hc dX2_nextRound_66 (by decide) ?_
          refine z_sub [2, 3, 4, 5, 0] rfl ?_
          exact ih _ _ _ _ _
set_option maxRecDepth 100000 in
set_option maxHeartbeats 4000000 in
theorem tX2_nextRound {l : Launch} {D : va_G} {ca : Nat → ClassId} {xa ad : Nat → Nat} {A : Nat → Prop} {N : Nat} {x1 : Int32} {x2 : Int32} {σ : zSt} {a : Int32} {τ : zSt} (h : fX2_nextRound N x1 x2 σ = some (a, τ)) : zCt l yX2_nextRound cX2_nextRound 6 (some .int) rmX2_nextRound D ca xa A (zwC ad ca) [.ref (ad 7), .int x1, .int x2] σ (zI a) τ := by
  refine z_met (inj := zI) (lv := [(0, .ref (ad 7)), (1, .int x1), (2, .int x2)]) (by decide) (Nat.le_of_ble_eq_true rfl) rfl ?_ h
  intro p e s m args below meth c hc hr
  unfold fX2_nextRound
  refine z_iload_n hc dX2_nextRound_0 1 rfl ?_
  refine z_istore_n (lv' := [(3, .int x1), (0, .ref (ad 7)), (1, .int x1), (2, .int x2)]) hc dX2_nextRound_1 rfl (by decide) rfl ?_
  refine z_iconst (v := (0 : Int32)) hc dX2_nextRound_2 (by decide) ?_
  refine z_istore (lv' := [(4, .int (0 : Int32)), (3, .int x1), (0, .ref (ad 7)), (1, .int x1), (2, .int x2)]) hc dX2_nextRound_3 (by decide) rfl ?_
  refine z_sub [2, 3, 4, 1, 0] rfl ?_
  exact tX2_nextRound_5 hc hr N N _ _ _ _ _
set_option maxRecDepth 100000 in
set_option maxHeartbeats 4000000 in
theorem tX2_spread_5 {p : Program} {l : Launch} {e : Env} {s : State} {m : MethodId} {args : Array Value} {below : List Frame} {meth : Method} {c : Code} {D : va_G} {ca : Nat → ClassId} {xa ad : Nat → Nat} {A : Nat → Prop} (hc : zCx p s m args meth c cX2_spread 6 RX2 D ca xa A (zwC ad ca)) (hr : meth.sig.returnType = (some .int)) (N : Nat)   : ∀ (n : Nat) (x2 : Int32) (x3 : Int32) (x4 : Int32) (σ : zSt), zGO p l e rmX2_spread s m args below meth c 0 0 (zwC ad ca) D A 6 (zQ below D A (zwC ad ca) args s zI) (fX2_spread_5 N n x2 x3 x4 σ) σ 5 [(0, .ref (ad 7)), (2, .int x2), (3, .int x3), (4, .int x4)] [] := by
  intro n
  induction n with
  | zero =>
    intro x2 x3 x4 σ
    exact z_none
  | succ n ih =>
    intro x2 x3 x4 σ
    unfold fX2_spread_5
    refine z_iload hc dX2_spread_5 3 rfl ?_
    refine z_bipush (v := (20 : Int32)) hc dX2_spread_7 (by decide) ?_
    refine z_icmp_ge (tgt := 38) hc dX2_spread_9 (by decide) ?_ ?_
    · refine z_iload_n hc dX2_spread_38 2 rfl ?_
      exact z_iret hc hr dX2_spread_39
    · refine z_aload_n hc dX2_spread_12 0 rfl ?_
      refine z_iload_n hc dX2_spread_13 2 rfl ?_
      refine z_iload_n hc dX2_spread_14 1 rfl ?_
      refine z_runVi (b0 := ad 7) (As := [.int x3, .int x2]) (rest := []) hc dX2_spread_15 (fun _ _ h => tX2_nextRound h) mpX2_nextRound miX2_nextRound kmX2_97 ⟨rfl, rfl, Nat.le_of_ble_eq_true rfl, Nat.le_of_ble_eq_true rfl⟩ ⟨Nat.le_refl _, Nat.le_refl _⟩ zcC_rc7 rfl (Nat.le_of_ble_eq_true rfl) (fun b1 σ2 => ?_)
      refine z_istore (lv' := [(5, .int b1), (0, .ref (ad 7)), (2, .int x2), (3, .int x3), (4, .int x4)]) hc dX2_spread_18 (by decide) rfl ?_
      refine z_iload hc dX2_spread_20 0 rfl ?_
      refine z_iload_n hc dX2_spread_22 3 rfl ?_
      refine z_icmp_ne (tgt := 29) hc dX2_spread_23 (by decide) ?_ ?_
      · refine z_goto (tgt := 38) hc dX2_spread_26 (by decide) ?_
        refine z_iload_n hc dX2_spread_38 3 rfl ?_
        exact z_iret hc hr dX2_spread_39
      · refine z_iload hc dX2_spread_29 0 rfl ?_
        refine z_istore_n (lv' := [(3, .int b1), (5, .int b1), (0, .ref (ad 7)), (2, .int x2), (4, .int x4)]) hc dX2_spread_31 rfl (by decide) rfl ?_
        refine z_iinc (v := (x4 + (1 : Int32))) (lv' := [(4, .int (x4 + (1 : Int32))), (3, .int b1), (5, .int b1), (0, .ref (ad 7)), (2, .int x2)]) hc dX2_spread_32 4 rfl rfl (by decide) rfl ?_
        refine z_goto (tgt := 5) hc dX2_spread_35 (by decide) ?_
        refine z_sub [3, 4, 1, 0] rfl ?_
        exact ih _ _ _ _
set_option maxRecDepth 100000 in
set_option maxHeartbeats 4000000 in
theorem tX2_spread {l : Launch} {D : va_G} {ca : Nat → ClassId} {xa ad : Nat → Nat} {A : Nat → Prop} {N : Nat} {x1 : Int32} {x2 : Int32} {σ : zSt} {a : Int32} {τ : zSt} (h : fX2_spread N x1 x2 σ = some (a, τ)) : zCt l yX2_spread cX2_spread 6 (some .int) rmX2_spread D ca xa A (zwC ad ca) [.ref (ad 7), .int x1, .int x2] σ (zI a) τ := by
  refine z_met (inj := zI) (lv := [(0, .ref (ad 7)), (1, .int x1), (2, .int x2)]) (by decide) (Nat.le_of_ble_eq_true rfl) rfl ?_ h
  intro p e s m args below meth c hc hr
  unfold fX2_spread
  refine z_iload_n hc dX2_spread_0 1 rfl ?_
  refine z_istore_n (lv' := [(3, .int x1), (0, .ref (ad 7)), (1, .int x1), (2, .int x2)]) hc dX2_spread_1 rfl (by decide) rfl ?_
  refine z_iconst (v := (0 : Int32)) hc dX2_spread_2 (by decide) ?_
  refine z_istore (lv' := [(4, .int (0 : Int32)), (3, .int x1), (0, .ref (ad 7)), (1, .int x1), (2, .int x2)]) hc dX2_spread_3 (by decide) rfl ?_
  refine z_sub [2, 4, 1, 0] rfl ?_
  exact tX2_spread_5 hc hr N N _ _ _ _
set_option maxRecDepth 100000 in
set_option maxHeartbeats 4000000 in
theorem tX2_shownNow {l : Launch} {D : va_G} {ca : Nat → ClassId} {xa ad : Nat → Nat} {A : Nat → Prop} {N : Nat}  {σ : zSt} {a : Int32} {τ : zSt} (h : fX2_shownNow N σ = some (a, τ)) : zCt l yX2_shownNow cX2_shownNow 1 (some .int) rmX2_shownNow D ca xa A (zwC ad ca) [.ref (ad 7)] σ (zI a) τ := by
  refine z_met (inj := zI) (lv := [(0, .ref (ad 7))]) (by decide) (Nat.le_of_ble_eq_true rfl) rfl ?_ h
  intro p e s m args below meth c hc hr
  unfold fX2_shownNow
  refine z_aload_n hc dX2_shownNow_0 0 rfl ?_
  refine z_aload_n hc dX2_shownNow_1 0 rfl ?_
  refine z_runVi (b0 := ad 7) (As := []) (rest := [.ref (ad 7)]) hc dX2_shownNow_2 (fun _ _ h => tX2_standing h) mpX2_standing miX2_standing kmX2_100 ⟨rfl, rfl, Nat.le_of_ble_eq_true rfl, Nat.le_of_ble_eq_true rfl⟩ ⟨Nat.le_refl _, Nat.le_refl _⟩ zcC_rc7 rfl (Nat.le_of_ble_eq_true rfl) (fun b1 σ2 => ?_)
  refine z_iconst (v := (0 : Int32)) hc dX2_shownNow_5 (by decide) ?_
  refine z_runVi (b0 := ad 7) (As := [.int b1, .int (0 : Int32)]) (rest := []) hc dX2_shownNow_6 (fun _ _ h => tX2_spread h) mpX2_spread miX2_spread kmX2_103 ⟨rfl, rfl, Nat.le_of_ble_eq_true rfl, Nat.le_of_ble_eq_true rfl⟩ ⟨Nat.le_refl _, Nat.le_refl _⟩ zcC_rc7 rfl (Nat.le_of_ble_eq_true rfl) (fun b3 σ4 => ?_)
  exact z_iret hc hr dX2_shownNow_9
set_option maxRecDepth 100000 in
set_option maxHeartbeats 4000000 in
theorem tX7_node {l : Launch} {D : va_G} {ca : Nat → ClassId} {xa ad : Nat → Nat} {A : Nat → Prop} {N : Nat} {x1 : Int32} {x2 : Int32} {σ : zSt} {a : Int32} {τ : zSt} (h : fX7_node N x1 x2 σ = some (a, τ)) : zCt l yX7_node cX7_node 4 (some .int) rmX7_node D ca xa A (zwC ad ca) [.ref (ad 0), .int x1, .int x2] σ (zI a) τ := by
  refine z_met (inj := zI) (lv := [(0, .ref (ad 0)), (1, .int x1), (2, .int x2)]) (by decide) (Nat.le_of_ble_eq_true rfl) rfl ?_ h
  intro p e s m args below meth c hc hr
  unfold fX7_node
  refine z_aload_n hc dX7_node_0 0 rfl ?_
  refine gfX7_26 hc dX7_node_1 ?_
  refine z_iload_n hc dX7_node_4 1 rfl ?_
  refine z_runVNi (b0 := ad 7) (As := [.int x1]) (rest := []) hc dX7_node_5 (fun _ _ h => tX2_hasNode h) mpX2_hasNode miX2_hasNode kmX7_125 ⟨rfl, rfl, Nat.le_of_ble_eq_true rfl, Nat.le_of_ble_eq_true rfl⟩ ⟨Nat.le_refl _, Nat.le_refl _⟩ zcC_rc7 rfl (Nat.le_of_ble_eq_true rfl) (fun b1 σ2 => ?_)
  refine z_if_ne (tgt := 14) hc dX7_node_8 (by decide) ?_ ?_
  · refine z_ldc hc dX7_node_11 kcX7_66 ?_
    exact z_iret hc hr dX7_node_13
  · refine z_aload_n hc dX7_node_14 0 rfl ?_
    refine gfX7_26 hc dX7_node_15 ?_
    refine z_iload_n hc dX7_node_18 1 rfl ?_
    refine z_runVNi (b0 := ad 7) (As := [.int x1]) (rest := []) hc dX7_node_19 (fun _ _ h => tX2_isClaim h) mpX2_isClaim miX2_isClaim kmX7_128 ⟨rfl, rfl, Nat.le_of_ble_eq_true rfl, Nat.le_of_ble_eq_true rfl⟩ ⟨Nat.le_refl _, Nat.le_refl _⟩ zcC_rc7 rfl (Nat.le_of_ble_eq_true rfl) (fun b3 σ4 => ?_)
    refine z_istore_n (lv' := [(3, .int b3), (0, .ref (ad 0)), (1, .int x1), (2, .int x2)]) hc dX7_node_22 rfl (by decide) rfl ?_
    refine z_iload_n hc dX7_node_23 3 rfl ?_
    refine z_ite (fun h6 => ?_) (fun h6 => ?_)
    · refine z_swIn (tgt := 64) (off := 40) hc dX7_node_24 (by rw [h6]; decide) (by rw [h6]; decide) (by rw [h6]; decide) (by decide) ?_
      refine z_aload_n hc dX7_node_64 1 rfl ?_
      refine gfX7_26 hc dX7_node_65 ?_
      refine gfX7_131 hc dX7_node_68 ?_
      refine z_iload_n hc dX7_node_71 2 rfl ?_
      refine z_iaload hc 8 (by decide) rfl dX7_node_72 (fun v5 => ?_)
      exact z_iret hc hr dX7_node_73
    refine z_ite (fun h8 => ?_) (fun h8 => ?_)
    · refine z_swIn (tgt := 74) (off := 50) hc dX7_node_24 (by rw [h8]; decide) (by rw [h8]; decide) (by rw [h8]; decide) (by decide) ?_
      refine z_iload_n hc dX7_node_74 0 rfl ?_
      refine z_if_eq (tgt := 83) hc dX7_node_75 (by decide) ?_ ?_
      · refine z_aload_n hc dX7_node_83 1 rfl ?_
        refine gfX7_26 hc dX7_node_84 ?_
        refine gfX7_136 hc dX7_node_87 ?_
        refine z_iload_n hc dX7_node_90 2 rfl ?_
        refine z_iaload hc 9 (by decide) rfl dX7_node_91 (fun v7 => ?_)
        exact z_iret hc hr dX7_node_92
      · refine z_ldc hc dX7_node_78 kcX7_135 ?_
        refine z_goto (tgt := 92) hc dX7_node_80 (by decide) ?_
        exact z_iret hc hr dX7_node_92
    refine z_ite (fun h10 => ?_) (fun h10 => ?_)
    · refine z_swIn (tgt := 93) (off := 69) hc dX7_node_24 (by rw [h10]; decide) (by rw [h10]; decide) (by rw [h10]; decide) (by decide) ?_
      refine z_iload_n hc dX7_node_93 0 rfl ?_
      refine z_if_eq (tgt := 102) hc dX7_node_94 (by decide) ?_ ?_
      · refine z_aload_n hc dX7_node_102 1 rfl ?_
        refine gfX7_26 hc dX7_node_103 ?_
        refine gfX7_139 hc dX7_node_106 ?_
        refine z_iload_n hc dX7_node_109 2 rfl ?_
        refine z_iaload hc 10 (by decide) rfl dX7_node_110 (fun v9 => ?_)
        exact z_iret hc hr dX7_node_111
      · refine z_ldc hc dX7_node_97 kcX7_135 ?_
        refine z_goto (tgt := 111) hc dX7_node_99 (by decide) ?_
        exact z_iret hc hr dX7_node_111
    refine z_ite (fun h12 => ?_) (fun h12 => ?_)
    · refine z_swIn (tgt := 112) (off := 88) hc dX7_node_24 (by rw [h12]; decide) (by rw [h12]; decide) (by rw [h12]; decide) (by decide) ?_
      refine z_iload_n hc dX7_node_112 0 rfl ?_
      refine z_if_eq (tgt := 121) hc dX7_node_113 (by decide) ?_ ?_
      · refine z_aload_n hc dX7_node_121 1 rfl ?_
        refine gfX7_26 hc dX7_node_122 ?_
        refine gfX7_142 hc dX7_node_125 ?_
        refine z_iload_n hc dX7_node_128 2 rfl ?_
        refine z_iaload hc 11 (by decide) rfl dX7_node_129 (fun v11 => ?_)
        exact z_iret hc hr dX7_node_130
      · refine z_ldc hc dX7_node_116 kcX7_135 ?_
        refine z_goto (tgt := 130) hc dX7_node_118 (by decide) ?_
        exact z_iret hc hr dX7_node_130
    refine z_ite (fun h14 => ?_) (fun h14 => ?_)
    · refine z_swIn (tgt := 131) (off := 107) hc dX7_node_24 (by rw [h14]; decide) (by rw [h14]; decide) (by rw [h14]; decide) (by decide) ?_
      refine z_aload_n hc dX7_node_131 1 rfl ?_
      refine gfX7_26 hc dX7_node_132 ?_
      refine gfX7_145 hc dX7_node_135 ?_
      refine z_iload_n hc dX7_node_138 2 rfl ?_
      refine z_iaload hc 12 (by decide) rfl dX7_node_139 (fun v13 => ?_)
      exact z_iret hc hr dX7_node_140
    refine z_ite (fun h19 => ?_) (fun h19 => ?_)
    · refine z_swIn (tgt := 141) (off := 117) hc dX7_node_24 (by rw [h19]; decide) (by rw [h19]; decide) (by rw [h19]; decide) (by decide) ?_
      refine z_aload_n hc dX7_node_141 1 rfl ?_
      refine gfX7_26 hc dX7_node_142 ?_
      refine z_runVNi (b0 := ad 7) (As := []) (rest := []) hc dX7_node_145 (fun _ _ h => tX2_shownNow h) mpX2_shownNow miX2_shownNow kmX7_148 ⟨rfl, rfl, Nat.le_of_ble_eq_true rfl, Nat.le_of_ble_eq_true rfl⟩ ⟨Nat.le_refl _, Nat.le_refl _⟩ zcC_rc7 rfl (Nat.le_of_ble_eq_true rfl) (fun b15 σ16 => ?_)
      refine z_iload_n hc dX7_node_148 2 rfl ?_
      refine z_runSi (As := [.int b15, .int x1]) (rest := []) hc dX7_node_149 (fun _ _ h => tX7_bitAt h) mpX7_bitAt miX7_bitAt kmX7_152 ⟨rfl, rfl, Nat.le_of_ble_eq_true rfl, Nat.le_of_ble_eq_true rfl⟩ ⟨Nat.le_refl _, Nat.le_refl _⟩ rfl (Nat.le_of_ble_eq_true rfl) (fun b17 σ18 => ?_)
      exact z_iret hc hr dX7_node_152
    refine z_swOut (tgt := 153) hc dX7_node_24 (zsw0_5 h6 h8 h10 h12 h14 h19) (by decide) ?_
    refine z_ldc hc dX7_node_153 kcX7_66 ?_
    exact z_iret hc hr dX7_node_155
set_option maxRecDepth 100000 in
set_option maxHeartbeats 4000000 in
theorem tX8_isNode {l : Launch} {D : va_G} {ca : Nat → ClassId} {xa ad : Nat → Nat} {A : Nat → Prop} {N : Nat} {x1 : Int32} {σ : zSt} {a : Int32} {τ : zSt} (h : fX8_isNode N x1 σ = some (a, τ)) : zCt l yX8_isNode cX8_isNode 2 (some .boolean) rmX8_isNode D ca xa A (zwM ad ca) [.ref (ad 0), .int x1] σ (zI a) τ := by
  refine z_met (inj := zI) (lv := [(0, .ref (ad 0)), (1, .int x1)]) (by decide) (Nat.le_of_ble_eq_true rfl) rfl ?_ h
  intro p e s m args below meth c hc hr
  unfold fX8_isNode
  refine z_iload_n hc dX8_isNode_0 1 rfl ?_
  refine z_i2l hc dX8_isNode_1 ?_
  refine z_lconst (v := (0 : Int64)) hc dX8_isNode_2 (by decide) ?_
  refine z_aload_n hc dX8_isNode_3 0 rfl ?_
  refine gfX8_185 hc dX8_isNode_4 ?_
  refine z_iconst (v := (1 : Int32)) hc dX8_isNode_7 (by decide) ?_
  refine z_isub hc dX8_isNode_8 ?_
  refine z_i2l hc dX8_isNode_9 ?_
  refine z_runSi (As := [.long x1.toInt64, .long (0 : Int64), .long ((σ.1 0 5) - (1 : Int32)).toInt64]) (rest := []) hc dX8_isNode_10 (fun _ _ h => tX8_in h) mpX8_in miX8_in kmX8_88 ⟨rfl, rfl, Nat.le_of_ble_eq_true rfl, Nat.le_of_ble_eq_true rfl⟩ ⟨Nat.le_refl _, Nat.le_refl _⟩ rfl (Nat.le_of_ble_eq_true rfl) (fun b1 σ2 => ?_)
  exact z_zret hc hr dX8_isNode_13
set_option maxRecDepth 100000 in
set_option maxHeartbeats 4000000 in
theorem tX8_stands {l : Launch} {D : va_G} {ca : Nat → ClassId} {xa ad : Nat → Nat} {A : Nat → Prop} {N : Nat} {x1 : Int32} {σ : zSt} {a : Int32} {τ : zSt} (h : fX8_stands N x1 σ = some (a, τ)) : zCt l yX8_stands cX8_stands 2 (some .boolean) rmX8_stands D ca xa A (zwM ad ca) [.ref (ad 0), .int x1] σ (zI a) τ := by
  refine z_met (inj := zI) (lv := [(0, .ref (ad 0)), (1, .int x1)]) (by decide) (Nat.le_of_ble_eq_true rfl) rfl ?_ h
  intro p e s m args below meth c hc hr
  unfold fX8_stands
  refine z_aload_n hc dX8_stands_0 0 rfl ?_
  refine gfX8_31 hc dX8_stands_1 ?_
  refine z_iload_n hc dX8_stands_4 1 rfl ?_
  refine z_zaload hc 8 (by decide) rfl dX8_stands_5 (fun v1 => ?_)
  refine z_if_ne (tgt := 33) hc dX8_stands_6 (by decide) ?_ ?_
  · refine z_aload_n hc dX8_stands_9 0 rfl ?_
    refine gfX8_207 hc dX8_stands_10 ?_
    refine z_aload_n hc dX8_stands_13 0 rfl ?_
    refine gfX8_25 hc dX8_stands_14 ?_
    refine z_iload_n hc dX8_stands_17 1 rfl ?_
    refine z_iaload hc 6 (by decide) rfl dX8_stands_18 (fun v2 => ?_)
    refine z_isub hc dX8_stands_19 ?_
    refine z_aload_n hc dX8_stands_20 0 rfl ?_
    refine gfX8_28 hc dX8_stands_21 ?_
    refine z_iload_n hc dX8_stands_24 1 rfl ?_
    refine z_iaload hc 7 (by decide) rfl dX8_stands_25 (fun v3 => ?_)
    refine z_icmp_gt (tgt := 33) hc dX8_stands_26 (by decide) ?_ ?_
    · refine z_iconst (v := (0 : Int32)) hc dX8_stands_33 (by decide) ?_
      exact z_zret hc hr dX8_stands_34
    · refine z_iconst (v := (1 : Int32)) hc dX8_stands_29 (by decide) ?_
      refine z_goto (tgt := 34) hc dX8_stands_30 (by decide) ?_
      exact z_zret hc hr dX8_stands_34
  · refine z_iconst (v := (0 : Int32)) hc dX8_stands_33 (by decide) ?_
    exact z_zret hc hr dX8_stands_34
set_option maxRecDepth 100000 in
set_option maxHeartbeats 4000000 in
theorem tX8_standing_38 {p : Program} {l : Launch} {e : Env} {s : State} {m : MethodId} {args : Array Value} {below : List Frame} {meth : Method} {c : Code} {D : va_G} {ca : Nat → ClassId} {xa ad : Nat → Nat} {A : Nat → Prop} (hc : zCx p s m args meth c cX8_standing 3 RX8 D ca xa A (zwM ad ca)) (hr : meth.sig.returnType = (some .int)) (N : Nat) (k4 : Int32 → Int32 → zSt → Option (Int32 × zSt)) (hk4 : ∀ (x1 : Int32) (x2 : Int32) (σ : zSt), zGO p l e rmX8_standing s m args below meth c 0 0 (zwM ad ca) D A 3 (zQ below D A (zwM ad ca) args s zI) (k4 x1 x2 σ) σ 4 [(0, .ref (ad 0)), (1, .int x1), (2, .int x2)] []) (x2 : Int32) (s0 : Int32) (s1 : Int32) (σ : zSt) : zGO p l e rmX8_standing s m args below meth c 0 0 (zwM ad ca) D A 3 (zQ below D A (zwM ad ca) args s zI) (fX8_standing_38 N k4 x2 s0 s1 σ) σ 38 [(0, .ref (ad 0)), (2, .int x2)] [.int s0, .int s1] := by
  unfold fX8_standing_38
  refine z_ior hc dX8_standing_38 ?_
  refine z_nm (fun v1 => ?_)
  refine z_istore_n (lv' := [(1, .int v1), (0, .ref (ad 0)), (2, .int x2)]) hc dX8_standing_39 rfl (by decide) rfl ?_
  refine z_iinc (v := (x2 + (1 : Int32))) (lv' := [(2, .int (x2 + (1 : Int32))), (1, .int v1), (0, .ref (ad 0))]) hc dX8_standing_40 2 rfl rfl (by decide) rfl ?_
  refine z_goto (tgt := 4) hc dX8_standing_43 (by decide) ?_
  refine z_sub [2, 1, 0] rfl ?_
  exact hk4 _ _ _
set_option maxRecDepth 100000 in
set_option maxHeartbeats 4000000 in
theorem tX8_standing_37 {p : Program} {l : Launch} {e : Env} {s : State} {m : MethodId} {args : Array Value} {below : List Frame} {meth : Method} {c : Code} {D : va_G} {ca : Nat → ClassId} {xa ad : Nat → Nat} {A : Nat → Prop} (hc : zCx p s m args meth c cX8_standing 3 RX8 D ca xa A (zwM ad ca)) (hr : meth.sig.returnType = (some .int)) (N : Nat) (k4 : Int32 → Int32 → zSt → Option (Int32 × zSt)) (hk4 : ∀ (x1 : Int32) (x2 : Int32) (σ : zSt), zGO p l e rmX8_standing s m args below meth c 0 0 (zwM ad ca) D A 3 (zQ below D A (zwM ad ca) args s zI) (k4 x1 x2 σ) σ 4 [(0, .ref (ad 0)), (1, .int x1), (2, .int x2)] []) (x2 : Int32) (s0 : Int32) (σ : zSt) : zGO p l e rmX8_standing s m args below meth c 0 0 (zwM ad ca) D A 3 (zQ below D A (zwM ad ca) args s zI) (fX8_standing_37 N k4 x2 s0 σ) σ 37 [(0, .ref (ad 0)), (2, .int x2)] [.int s0] := by
  unfold fX8_standing_37
  refine z_iconst (v := (0 : Int32)) hc dX8_standing_37 (by decide) ?_
  exact tX8_standing_38 hc hr N _ hk4 _ _ _ _
set_option maxRecDepth 100000 in
set_option maxHeartbeats 4000000 in
theorem tX8_standing_4 {p : Program} {l : Launch} {e : Env} {s : State} {m : MethodId} {args : Array Value} {below : List Frame} {meth : Method} {c : Code} {D : va_G} {ca : Nat → ClassId} {xa ad : Nat → Nat} {A : Nat → Prop} (hc : zCx p s m args meth c cX8_standing 3 RX8 D ca xa A (zwM ad ca)) (hr : meth.sig.returnType = (some .int)) (N : Nat)   : ∀ (n : Nat) (x1 : Int32) (x2 : Int32) (σ : zSt), zGO p l e rmX8_standing s m args below meth c 0 0 (zwM ad ca) D A 3 (zQ below D A (zwM ad ca) args s zI) (fX8_standing_4 N n x1 x2 σ) σ 4 [(0, .ref (ad 0)), (1, .int x1), (2, .int x2)] [] := by
  intro n
  induction n with
  | zero =>
    intro x1 x2 σ
    exact z_none
  | succ n ih =>
    intro x1 x2 σ
    unfold fX8_standing_4
    refine z_iload_n hc dX8_standing_4 2 rfl ?_
    refine z_aload_n hc dX8_standing_5 0 rfl ?_
    refine gfX8_185 hc dX8_standing_6 ?_
    refine z_icmp_ge (tgt := 46) hc dX8_standing_9 (by decide) ?_ ?_
    · refine z_iload_n hc dX8_standing_46 1 rfl ?_
      exact z_iret hc hr dX8_standing_47
    · refine z_iload_n hc dX8_standing_12 1 rfl ?_
      refine z_aload_n hc dX8_standing_13 0 rfl ?_
      refine gfX8_19 hc dX8_standing_14 ?_
      refine z_iload_n hc dX8_standing_17 2 rfl ?_
      refine z_iaload hc 4 (by decide) rfl dX8_standing_18 (fun v1 => ?_)
      refine z_iconst (v := (2 : Int32)) hc dX8_standing_19 (by decide) ?_
      refine z_icmp_ge (tgt := 37) hc dX8_standing_20 (by decide) ?_ ?_
      · refine z_sub [0, 2] rfl ?_
        exact tX8_standing_37 hc hr N _ (ih) _ _ _
      · refine z_aload_n hc dX8_standing_23 0 rfl ?_
        refine z_iload_n hc dX8_standing_24 2 rfl ?_
        refine z_runVi (b0 := ad 0) (As := [.int x2]) (rest := [.int x1]) hc dX8_standing_25 (fun _ _ h => tX8_stands h) mpX8_stands miX8_stands kmX8_210 ⟨rfl, rfl, Nat.le_of_ble_eq_true rfl, Nat.le_of_ble_eq_true rfl⟩ ⟨Nat.le_refl _, Nat.le_refl _⟩ zcM_rc0 rfl (Nat.le_of_ble_eq_true rfl) (fun b2 σ3 => ?_)
        refine z_if_eq (tgt := 37) hc dX8_standing_28 (by decide) ?_ ?_
        · refine z_sub [0, 2] rfl ?_
          exact tX8_standing_37 hc hr N _ (ih) _ _ _
        · refine z_iconst (v := (1 : Int32)) hc dX8_standing_31 (by decide) ?_
          refine z_iload_n hc dX8_standing_32 2 rfl ?_
          refine z_ishl hc dX8_standing_33 ?_
          refine z_goto (tgt := 38) hc dX8_standing_34 (by decide) ?_
          refine z_sub [0, 2] rfl ?_
          exact tX8_standing_38 hc hr N _ (ih) _ _ _ _
set_option maxRecDepth 100000 in
set_option maxHeartbeats 4000000 in
theorem tX8_standing {l : Launch} {D : va_G} {ca : Nat → ClassId} {xa ad : Nat → Nat} {A : Nat → Prop} {N : Nat}  {σ : zSt} {a : Int32} {τ : zSt} (h : fX8_standing N σ = some (a, τ)) : zCt l yX8_standing cX8_standing 3 (some .int) rmX8_standing D ca xa A (zwM ad ca) [.ref (ad 0)] σ (zI a) τ := by
  refine z_met (inj := zI) (lv := [(0, .ref (ad 0))]) (by decide) (Nat.le_of_ble_eq_true rfl) rfl ?_ h
  intro p e s m args below meth c hc hr
  unfold fX8_standing
  refine z_iconst (v := (0 : Int32)) hc dX8_standing_0 (by decide) ?_
  refine z_istore_n (lv' := [(1, .int (0 : Int32)), (0, .ref (ad 0))]) hc dX8_standing_1 rfl (by decide) rfl ?_
  refine z_iconst (v := (0 : Int32)) hc dX8_standing_2 (by decide) ?_
  refine z_istore_n (lv' := [(2, .int (0 : Int32)), (1, .int (0 : Int32)), (0, .ref (ad 0))]) hc dX8_standing_3 rfl (by decide) rfl ?_
  refine z_sub [2, 1, 0] rfl ?_
  exact tX8_standing_4 hc hr N N _ _ _
set_option maxRecDepth 100000 in
set_option maxHeartbeats 4000000 in
theorem tX8_doubtsOf {l : Launch} {D : va_G} {ca : Nat → ClassId} {xa ad : Nat → Nat} {A : Nat → Prop} {N : Nat} {x0 : Int32} {σ : zSt} {a : Int32} {τ : zSt} (h : fX8_doubtsOf N x0 σ = some (a, τ)) : zCt l yX8_doubtsOf cX8_doubtsOf 1 (some .int) rmX8_doubtsOf D ca xa A (zwM ad ca) [.int x0] σ (zI a) τ := by
  refine z_met (inj := zI) (lv := [(0, .int x0)]) (by decide) (Nat.le_of_ble_eq_true rfl) rfl ?_ h
  intro p e s m args below meth c hc hr
  unfold fX8_doubtsOf
  refine z_iload_n hc dX8_doubtsOf_0 0 rfl ?_
  refine z_iconst (v := (1 : Int32)) hc dX8_doubtsOf_1 (by decide) ?_
  refine z_icmp_ne (tgt := 9) hc dX8_doubtsOf_2 (by decide) ?_ ?_
  · refine z_iconst (v := (1 : Int32)) hc dX8_doubtsOf_5 (by decide) ?_
    refine z_goto (tgt := 19) hc dX8_doubtsOf_6 (by decide) ?_
    exact z_iret hc hr dX8_doubtsOf_19
  · refine z_iload_n hc dX8_doubtsOf_9 0 rfl ?_
    refine z_iconst (v := (3 : Int32)) hc dX8_doubtsOf_10 (by decide) ?_
    refine z_icmp_ne (tgt := 18) hc dX8_doubtsOf_11 (by decide) ?_ ?_
    · refine z_iconst (v := (3 : Int32)) hc dX8_doubtsOf_14 (by decide) ?_
      refine z_goto (tgt := 19) hc dX8_doubtsOf_15 (by decide) ?_
      exact z_iret hc hr dX8_doubtsOf_19
    · refine z_iconst (v := (2 : Int32)) hc dX8_doubtsOf_18 (by decide) ?_
      exact z_iret hc hr dX8_doubtsOf_19
set_option maxRecDepth 100000 in
set_option maxHeartbeats 4000000 in
theorem tX8_openOf_36 {p : Program} {l : Launch} {e : Env} {s : State} {m : MethodId} {args : Array Value} {below : List Frame} {meth : Method} {c : Code} {D : va_G} {ca : Nat → ClassId} {xa ad : Nat → Nat} {A : Nat → Prop} (hc : zCx p s m args meth c cX8_openOf 4 RX8 D ca xa A (zwM ad ca)) (hr : meth.sig.returnType = (some .int)) (N : Nat) (k4 : Int32 → Int32 → Int32 → zSt → Option (Int32 × zSt)) (hk4 : ∀ (x1 : Int32) (x2 : Int32) (x3 : Int32) (σ : zSt), zGO p l e rmX8_openOf s m args below meth c 0 0 (zwM ad ca) D A 4 (zQ below D A (zwM ad ca) args s zI) (k4 x1 x2 x3 σ) σ 4 [(0, .ref (ad 0)), (1, .int x1), (2, .int x2), (3, .int x3)] []) (x1 : Int32) (x3 : Int32) (s0 : Int32) (s1 : Int32) (σ : zSt) : zGO p l e rmX8_openOf s m args below meth c 0 0 (zwM ad ca) D A 4 (zQ below D A (zwM ad ca) args s zI) (fX8_openOf_36 N k4 x1 x3 s0 s1 σ) σ 36 [(0, .ref (ad 0)), (1, .int x1), (3, .int x3)] [.int s0, .int s1] := by
  unfold fX8_openOf_36
  refine z_iadd hc dX8_openOf_36 ?_
  refine z_nm (fun v1 => ?_)
  refine z_istore_n (lv' := [(2, .int v1), (0, .ref (ad 0)), (1, .int x1), (3, .int x3)]) hc dX8_openOf_37 rfl (by decide) rfl ?_
  refine z_iinc (v := (x3 + (1 : Int32))) (lv' := [(3, .int (x3 + (1 : Int32))), (2, .int v1), (0, .ref (ad 0)), (1, .int x1)]) hc dX8_openOf_38 3 rfl rfl (by decide) rfl ?_
  refine z_goto (tgt := 4) hc dX8_openOf_41 (by decide) ?_
  refine z_sub [2, 3, 1, 0] rfl ?_
  exact hk4 _ _ _ _
set_option maxRecDepth 100000 in
set_option maxHeartbeats 4000000 in
theorem tX8_openOf_4 {p : Program} {l : Launch} {e : Env} {s : State} {m : MethodId} {args : Array Value} {below : List Frame} {meth : Method} {c : Code} {D : va_G} {ca : Nat → ClassId} {xa ad : Nat → Nat} {A : Nat → Prop} (hc : zCx p s m args meth c cX8_openOf 4 RX8 D ca xa A (zwM ad ca)) (hr : meth.sig.returnType = (some .int)) (N : Nat)   : ∀ (n : Nat) (x1 : Int32) (x2 : Int32) (x3 : Int32) (σ : zSt), zGO p l e rmX8_openOf s m args below meth c 0 0 (zwM ad ca) D A 4 (zQ below D A (zwM ad ca) args s zI) (fX8_openOf_4 N n x1 x2 x3 σ) σ 4 [(0, .ref (ad 0)), (1, .int x1), (2, .int x2), (3, .int x3)] [] := by
  intro n
  induction n with
  | zero =>
    intro x1 x2 x3 σ
    exact z_none
  | succ n ih =>
    intro x1 x2 x3 σ
    unfold fX8_openOf_4
    refine z_iload_n hc dX8_openOf_4 3 rfl ?_
    refine z_aload_n hc dX8_openOf_5 0 rfl ?_
    refine gfX8_35 hc dX8_openOf_6 ?_
    refine z_iload_n hc dX8_openOf_9 1 rfl ?_
    refine z_iaload hc 9 (by decide) rfl dX8_openOf_10 (fun v1 => ?_)
    refine z_runSi (As := [.int v1]) (rest := [.int x3]) hc dX8_openOf_11 (fun _ _ h => tX8_doubtsOf h) mpX8_doubtsOf miX8_doubtsOf kmX8_213 ⟨rfl, rfl, Nat.le_of_ble_eq_true rfl, Nat.le_of_ble_eq_true rfl⟩ ⟨Nat.le_refl _, Nat.le_refl _⟩ rfl (Nat.le_of_ble_eq_true rfl) (fun b2 σ3 => ?_)
    refine z_icmp_ge (tgt := 44) hc dX8_openOf_14 (by decide) ?_ ?_
    · refine z_iload_n hc dX8_openOf_44 2 rfl ?_
      exact z_iret hc hr dX8_openOf_45
    · refine z_iload_n hc dX8_openOf_17 2 rfl ?_
      refine z_aload_n hc dX8_openOf_18 0 rfl ?_
      refine gfX8_47 hc dX8_openOf_19 ?_
      refine z_iconst (v := (3 : Int32)) hc dX8_openOf_22 (by decide) ?_
      refine z_iload_n hc dX8_openOf_23 1 rfl ?_
      refine z_imul hc dX8_openOf_24 ?_
      refine z_iload_n hc dX8_openOf_25 3 rfl ?_
      refine z_iadd hc dX8_openOf_26 ?_
      refine z_iaload hc 13 (by decide) rfl dX8_openOf_27 (fun v4 => ?_)
      refine z_if_ne (tgt := 35) hc dX8_openOf_28 (by decide) ?_ ?_
      · refine z_iconst (v := (1 : Int32)) hc dX8_openOf_31 (by decide) ?_
        refine z_goto (tgt := 36) hc dX8_openOf_32 (by decide) ?_
        refine z_sub [0, 1, 3] rfl ?_
        exact tX8_openOf_36 hc hr N _ (ih) _ _ _ _ _
      · refine z_iconst (v := (0 : Int32)) hc dX8_openOf_35 (by decide) ?_
        refine z_sub [0, 1, 3] rfl ?_
        exact tX8_openOf_36 hc hr N _ (ih) _ _ _ _ _
set_option maxRecDepth 100000 in
set_option maxHeartbeats 4000000 in
theorem tX8_openOf {l : Launch} {D : va_G} {ca : Nat → ClassId} {xa ad : Nat → Nat} {A : Nat → Prop} {N : Nat} {x1 : Int32} {σ : zSt} {a : Int32} {τ : zSt} (h : fX8_openOf N x1 σ = some (a, τ)) : zCt l yX8_openOf cX8_openOf 4 (some .int) rmX8_openOf D ca xa A (zwM ad ca) [.ref (ad 0), .int x1] σ (zI a) τ := by
  refine z_met (inj := zI) (lv := [(0, .ref (ad 0)), (1, .int x1)]) (by decide) (Nat.le_of_ble_eq_true rfl) rfl ?_ h
  intro p e s m args below meth c hc hr
  unfold fX8_openOf
  refine z_iconst (v := (0 : Int32)) hc dX8_openOf_0 (by decide) ?_
  refine z_istore_n (lv' := [(2, .int (0 : Int32)), (0, .ref (ad 0)), (1, .int x1)]) hc dX8_openOf_1 rfl (by decide) rfl ?_
  refine z_iconst (v := (0 : Int32)) hc dX8_openOf_2 (by decide) ?_
  refine z_istore_n (lv' := [(3, .int (0 : Int32)), (2, .int (0 : Int32)), (0, .ref (ad 0)), (1, .int x1)]) hc dX8_openOf_3 rfl (by decide) rfl ?_
  refine z_sub [2, 3, 1, 0] rfl ?_
  exact tX8_openOf_4 hc hr N N _ _ _ _
set_option maxRecDepth 100000 in
set_option maxHeartbeats 4000000 in
theorem tX8_isBorneUp_5 {p : Program} {l : Launch} {e : Env} {s : State} {m : MethodId} {args : Array Value} {below : List Frame} {meth : Method} {c : Code} {D : va_G} {ca : Nat → ClassId} {xa ad : Nat → Nat} {A : Nat → Prop} (hc : zCx p s m args meth c cX8_isBorneUp 5 RX8 D ca xa A (zwM ad ca)) (hr : meth.sig.returnType = (some .boolean)) (N : Nat)   : ∀ (n : Nat) (x1 : Int32) (x2 : Int32) (x3 : Int32) (x4 : Int32) (σ : zSt), zGO p l e rmX8_isBorneUp s m args below meth c 0 0 (zwM ad ca) D A 5 (zQ below D A (zwM ad ca) args s zI) (fX8_isBorneUp_5 N n x1 x2 x3 x4 σ) σ 5 [(0, .ref (ad 0)), (1, .int x1), (2, .int x2), (3, .int x3), (4, .int x4)] [] := by
  intro n
  induction n with
  | zero =>
    intro x1 x2 x3 x4 σ
    exact z_none
  | succ n ih =>
    intro x1 x2 x3 x4 σ
    unfold fX8_isBorneUp_5
    refine z_iload hc dX8_isBorneUp_5 4 rfl ?_
    refine z_aload_n hc dX8_isBorneUp_7 0 rfl ?_
    refine gfX8_41 hc dX8_isBorneUp_8 ?_
    refine z_iload_n hc dX8_isBorneUp_11 1 rfl ?_
    refine z_iaload hc 11 (by decide) rfl dX8_isBorneUp_12 (fun v1 => ?_)
    refine z_icmp_ge (tgt := 41) hc dX8_isBorneUp_13 (by decide) ?_ ?_
    · refine z_aload_n hc dX8_isBorneUp_41 0 rfl ?_
      refine gfX8_35 hc dX8_isBorneUp_42 ?_
      refine z_iload_n hc dX8_isBorneUp_45 1 rfl ?_
      refine z_iaload hc 9 (by decide) rfl dX8_isBorneUp_46 (fun v2 => ?_)
      refine z_if_ne (tgt := 68) hc dX8_isBorneUp_47 (by decide) ?_ ?_
      · refine z_iload_n hc dX8_isBorneUp_50 3 rfl ?_
        refine z_aload_n hc dX8_isBorneUp_51 0 rfl ?_
        refine gfX8_41 hc dX8_isBorneUp_52 ?_
        refine z_iload_n hc dX8_isBorneUp_55 1 rfl ?_
        refine z_iaload hc 11 (by decide) rfl dX8_isBorneUp_56 (fun v3 => ?_)
        refine z_icmp_ne (tgt := 64) hc dX8_isBorneUp_57 (by decide) ?_ ?_
        · refine z_iconst (v := (1 : Int32)) hc dX8_isBorneUp_60 (by decide) ?_
          refine z_goto (tgt := 142) hc dX8_isBorneUp_61 (by decide) ?_
          exact z_zret hc hr dX8_isBorneUp_142
        · refine z_iconst (v := (0 : Int32)) hc dX8_isBorneUp_64 (by decide) ?_
          refine z_goto (tgt := 142) hc dX8_isBorneUp_65 (by decide) ?_
          exact z_zret hc hr dX8_isBorneUp_142
      · refine z_aload_n hc dX8_isBorneUp_68 0 rfl ?_
        refine gfX8_35 hc dX8_isBorneUp_69 ?_
        refine z_iload_n hc dX8_isBorneUp_72 1 rfl ?_
        refine z_iaload hc 9 (by decide) rfl dX8_isBorneUp_73 (fun v4 => ?_)
        refine z_iconst (v := (1 : Int32)) hc dX8_isBorneUp_74 (by decide) ?_
        refine z_icmp_ne (tgt := 90) hc dX8_isBorneUp_75 (by decide) ?_ ?_
        · refine z_iload_n hc dX8_isBorneUp_78 3 rfl ?_
          refine z_if_le (tgt := 86) hc dX8_isBorneUp_79 (by decide) ?_ ?_
          · refine z_iconst (v := (0 : Int32)) hc dX8_isBorneUp_86 (by decide) ?_
            refine z_goto (tgt := 142) hc dX8_isBorneUp_87 (by decide) ?_
            exact z_zret hc hr dX8_isBorneUp_142
          · refine z_iconst (v := (1 : Int32)) hc dX8_isBorneUp_82 (by decide) ?_
            refine z_goto (tgt := 142) hc dX8_isBorneUp_83 (by decide) ?_
            exact z_zret hc hr dX8_isBorneUp_142
        · refine z_aload_n hc dX8_isBorneUp_90 0 rfl ?_
          refine gfX8_35 hc dX8_isBorneUp_91 ?_
          refine z_iload_n hc dX8_isBorneUp_94 1 rfl ?_
          refine z_iaload hc 9 (by decide) rfl dX8_isBorneUp_95 (fun v5 => ?_)
          refine z_iconst (v := (2 : Int32)) hc dX8_isBorneUp_96 (by decide) ?_
          refine z_icmp_ne (tgt := 120) hc dX8_isBorneUp_97 (by decide) ?_ ?_
          · refine z_iconst (v := (2 : Int32)) hc dX8_isBorneUp_100 (by decide) ?_
            refine z_iload_n hc dX8_isBorneUp_101 3 rfl ?_
            refine z_imul hc dX8_isBorneUp_102 ?_
            refine z_aload_n hc dX8_isBorneUp_103 0 rfl ?_
            refine gfX8_41 hc dX8_isBorneUp_104 ?_
            refine z_iload_n hc dX8_isBorneUp_107 1 rfl ?_
            refine z_iaload hc 11 (by decide) rfl dX8_isBorneUp_108 (fun v6 => ?_)
            refine z_icmp_le (tgt := 116) hc dX8_isBorneUp_109 (by decide) ?_ ?_
            · refine z_iconst (v := (0 : Int32)) hc dX8_isBorneUp_116 (by decide) ?_
              refine z_goto (tgt := 142) hc dX8_isBorneUp_117 (by decide) ?_
              exact z_zret hc hr dX8_isBorneUp_142
            · refine z_iconst (v := (1 : Int32)) hc dX8_isBorneUp_112 (by decide) ?_
              refine z_goto (tgt := 142) hc dX8_isBorneUp_113 (by decide) ?_
              exact z_zret hc hr dX8_isBorneUp_142
          · refine z_iload_n hc dX8_isBorneUp_120 2 rfl ?_
            refine z_aload_n hc dX8_isBorneUp_121 0 rfl ?_
            refine gfX8_44 hc dX8_isBorneUp_122 ?_
            refine z_bipush (v := (6 : Int32)) hc dX8_isBorneUp_125 (by decide) ?_
            refine z_iload_n hc dX8_isBorneUp_127 1 rfl ?_
            refine z_imul hc dX8_isBorneUp_128 ?_
            refine z_iaload hc 12 (by decide) rfl dX8_isBorneUp_129 (fun v7 => ?_)
            refine z_ishr hc dX8_isBorneUp_130 ?_
            refine z_iconst (v := (1 : Int32)) hc dX8_isBorneUp_131 (by decide) ?_
            refine z_iand hc dX8_isBorneUp_132 ?_
            refine z_iconst (v := (1 : Int32)) hc dX8_isBorneUp_133 (by decide) ?_
            refine z_icmp_ne (tgt := 141) hc dX8_isBorneUp_134 (by decide) ?_ ?_
            · refine z_iconst (v := (1 : Int32)) hc dX8_isBorneUp_137 (by decide) ?_
              refine z_goto (tgt := 142) hc dX8_isBorneUp_138 (by decide) ?_
              exact z_zret hc hr dX8_isBorneUp_142
            · refine z_iconst (v := (0 : Int32)) hc dX8_isBorneUp_141 (by decide) ?_
              exact z_zret hc hr dX8_isBorneUp_142
    · refine z_iload_n hc dX8_isBorneUp_16 3 rfl ?_
      refine z_iload_n hc dX8_isBorneUp_17 2 rfl ?_
      refine z_aload_n hc dX8_isBorneUp_18 0 rfl ?_
      refine gfX8_44 hc dX8_isBorneUp_19 ?_
      refine z_bipush (v := (6 : Int32)) hc dX8_isBorneUp_22 (by decide) ?_
      refine z_iload_n hc dX8_isBorneUp_24 1 rfl ?_
      refine z_imul hc dX8_isBorneUp_25 ?_
      refine z_iload hc dX8_isBorneUp_26 4 rfl ?_
      refine z_iadd hc dX8_isBorneUp_28 ?_
      refine z_iaload hc 12 (by decide) rfl dX8_isBorneUp_29 (fun v8 => ?_)
      refine z_ishr hc dX8_isBorneUp_30 ?_
      refine z_iconst (v := (1 : Int32)) hc dX8_isBorneUp_31 (by decide) ?_
      refine z_iand hc dX8_isBorneUp_32 ?_
      refine z_iadd hc dX8_isBorneUp_33 ?_
      refine z_nm (fun v9 => ?_)
      refine z_istore_n (lv' := [(3, .int v9), (0, .ref (ad 0)), (1, .int x1), (2, .int x2), (4, .int x4)]) hc dX8_isBorneUp_34 rfl (by decide) rfl ?_
      refine z_iinc (v := (x4 + (1 : Int32))) (lv' := [(4, .int (x4 + (1 : Int32))), (3, .int v9), (0, .ref (ad 0)), (1, .int x1), (2, .int x2)]) hc dX8_isBorneUp_35 4 rfl rfl (by decide) rfl ?_
      refine z_goto (tgt := 5) hc dX8_isBorneUp_38 (by decide) ?_
      refine z_sub [2, 3, 4, 1, 0] rfl ?_
      exact ih _ _ _ _ _
set_option maxRecDepth 100000 in
set_option maxHeartbeats 4000000 in
theorem tX8_isBorneUp {l : Launch} {D : va_G} {ca : Nat → ClassId} {xa ad : Nat → Nat} {A : Nat → Prop} {N : Nat} {x1 : Int32} {x2 : Int32} {σ : zSt} {a : Int32} {τ : zSt} (h : fX8_isBorneUp N x1 x2 σ = some (a, τ)) : zCt l yX8_isBorneUp cX8_isBorneUp 5 (some .boolean) rmX8_isBorneUp D ca xa A (zwM ad ca) [.ref (ad 0), .int x1, .int x2] σ (zI a) τ := by
  refine z_met (inj := zI) (lv := [(0, .ref (ad 0)), (1, .int x1), (2, .int x2)]) (by decide) (Nat.le_of_ble_eq_true rfl) rfl ?_ h
  intro p e s m args below meth c hc hr
  unfold fX8_isBorneUp
  refine z_iconst (v := (0 : Int32)) hc dX8_isBorneUp_0 (by decide) ?_
  refine z_istore_n (lv' := [(3, .int (0 : Int32)), (0, .ref (ad 0)), (1, .int x1), (2, .int x2)]) hc dX8_isBorneUp_1 rfl (by decide) rfl ?_
  refine z_iconst (v := (0 : Int32)) hc dX8_isBorneUp_2 (by decide) ?_
  refine z_istore (lv' := [(4, .int (0 : Int32)), (3, .int (0 : Int32)), (0, .ref (ad 0)), (1, .int x1), (2, .int x2)]) hc dX8_isBorneUp_3 (by decide) rfl ?_
  refine z_sub [2, 3, 4, 1, 0] rfl ?_
  exact tX8_isBorneUp_5 hc hr N N _ _ _ _ _
set_option maxRecDepth 100000 in
set_option maxHeartbeats 4000000 in
theorem tX8_shownBy_75 {p : Program} {l : Launch} {e : Env} {s : State} {m : MethodId} {args : Array Value} {below : List Frame} {meth : Method} {c : Code} {D : va_G} {ca : Nat → ClassId} {xa ad : Nat → Nat} {A : Nat → Prop} (hc : zCx p s m args meth c cX8_shownBy 7 RX8 D ca xa A (zwM ad ca)) (hr : meth.sig.returnType = (some .int)) (N : Nat) (k10 : Int32 → Int32 → Int32 → zSt → Option (Int32 × zSt)) (k21 : Int32 → Int32 → Int32 → Int32 → zSt → Option (Int32 × zSt)) (hk10 : ∀ (x2 : Int32) (x3 : Int32) (x4 : Int32) (σ : zSt), zGO p l e rmX8_shownBy s m args below meth c 0 0 (zwM ad ca) D A 7 (zQ below D A (zwM ad ca) args s zI) (k10 x2 x3 x4 σ) σ 10 [(0, .ref (ad 0)), (2, .int x2), (3, .int x3), (4, .int x4)] []) (hk21 : ∀ (x2 : Int32) (x3 : Int32) (x5 : Int32) (x6 : Int32) (σ : zSt), zGO p l e rmX8_shownBy s m args below meth c 0 0 (zwM ad ca) D A 7 (zQ below D A (zwM ad ca) args s zI) (k21 x2 x3 x5 x6 σ) σ 21 [(0, .ref (ad 0)), (2, .int x2), (3, .int x3), (5, .int x5), (6, .int x6)] []) (x2 : Int32) (x3 : Int32) (x6 : Int32) (s0 : Int32) (s1 : Int32) (σ : zSt) : zGO p l e rmX8_shownBy s m args below meth c 0 0 (zwM ad ca) D A 7 (zQ below D A (zwM ad ca) args s zI) (fX8_shownBy_75 N k10 k21 x2 x3 x6 s0 s1 σ) σ 75 [(0, .ref (ad 0)), (2, .int x2), (3, .int x3), (6, .int x6)] [.int s0, .int s1] := by
  unfold fX8_shownBy_75
  refine z_ior hc dX8_shownBy_75 ?_
  refine z_nm (fun v1 => ?_)
  refine z_istore (lv' := [(5, .int v1), (0, .ref (ad 0)), (2, .int x2), (3, .int x3), (6, .int x6)]) hc dX8_shownBy_76 (by decide) rfl ?_
  refine z_iinc (v := (x6 + (1 : Int32))) (lv' := [(6, .int (x6 + (1 : Int32))), (5, .int v1), (0, .ref (ad 0)), (2, .int x2), (3, .int x3)]) hc dX8_shownBy_78 4 rfl rfl (by decide) rfl ?_
  refine z_goto (tgt := 21) hc dX8_shownBy_81 (by decide) ?_
  refine z_sub [2, 3, 4, 1, 0] rfl ?_
  exact hk21 _ _ _ _ _
set_option maxRecDepth 100000 in
set_option maxHeartbeats 4000000 in
theorem tX8_shownBy_74 {p : Program} {l : Launch} {e : Env} {s : State} {m : MethodId} {args : Array Value} {below : List Frame} {meth : Method} {c : Code} {D : va_G} {ca : Nat → ClassId} {xa ad : Nat → Nat} {A : Nat → Prop} (hc : zCx p s m args meth c cX8_shownBy 7 RX8 D ca xa A (zwM ad ca)) (hr : meth.sig.returnType = (some .int)) (N : Nat) (k10 : Int32 → Int32 → Int32 → zSt → Option (Int32 × zSt)) (k21 : Int32 → Int32 → Int32 → Int32 → zSt → Option (Int32 × zSt)) (hk10 : ∀ (x2 : Int32) (x3 : Int32) (x4 : Int32) (σ : zSt), zGO p l e rmX8_shownBy s m args below meth c 0 0 (zwM ad ca) D A 7 (zQ below D A (zwM ad ca) args s zI) (k10 x2 x3 x4 σ) σ 10 [(0, .ref (ad 0)), (2, .int x2), (3, .int x3), (4, .int x4)] []) (hk21 : ∀ (x2 : Int32) (x3 : Int32) (x5 : Int32) (x6 : Int32) (σ : zSt), zGO p l e rmX8_shownBy s m args below meth c 0 0 (zwM ad ca) D A 7 (zQ below D A (zwM ad ca) args s zI) (k21 x2 x3 x5 x6 σ) σ 21 [(0, .ref (ad 0)), (2, .int x2), (3, .int x3), (5, .int x5), (6, .int x6)] []) (x2 : Int32) (x3 : Int32) (x6 : Int32) (s0 : Int32) (σ : zSt) : zGO p l e rmX8_shownBy s m args below meth c 0 0 (zwM ad ca) D A 7 (zQ below D A (zwM ad ca) args s zI) (fX8_shownBy_74 N k10 k21 x2 x3 x6 s0 σ) σ 74 [(0, .ref (ad 0)), (2, .int x2), (3, .int x3), (6, .int x6)] [.int s0] := by
  unfold fX8_shownBy_74
  refine z_iconst (v := (0 : Int32)) hc dX8_shownBy_74 (by decide) ?_
  exact tX8_shownBy_75 hc hr N _ _ hk10 hk21 _ _ _ _ _ _
set_option maxRecDepth 100000 in
set_option maxHeartbeats 4000000 in
theorem tX8_shownBy_112 {p : Program} {l : Launch} {e : Env} {s : State} {m : MethodId} {args : Array Value} {below : List Frame} {meth : Method} {c : Code} {D : va_G} {ca : Nat → ClassId} {xa ad : Nat → Nat} {A : Nat → Prop} (hc : zCx p s m args meth c cX8_shownBy 7 RX8 D ca xa A (zwM ad ca)) (hr : meth.sig.returnType = (some .int)) (N : Nat) (k10 : Int32 → Int32 → Int32 → zSt → Option (Int32 × zSt)) (hk10 : ∀ (x2 : Int32) (x3 : Int32) (x4 : Int32) (σ : zSt), zGO p l e rmX8_shownBy s m args below meth c 0 0 (zwM ad ca) D A 7 (zQ below D A (zwM ad ca) args s zI) (k10 x2 x3 x4 σ) σ 10 [(0, .ref (ad 0)), (2, .int x2), (3, .int x3), (4, .int x4)] []) (x2 : Int32) (x4 : Int32) (x5 : Int32) (s0 : Int32) (s1 : Int32) (σ : zSt) : zGO p l e rmX8_shownBy s m args below meth c 0 0 (zwM ad ca) D A 7 (zQ below D A (zwM ad ca) args s zI) (fX8_shownBy_112 N k10 x2 x4 x5 s0 s1 σ) σ 112 [(0, .ref (ad 0)), (2, .int x2), (4, .int x4), (5, .int x5)] [.int s0, .int s1, .ref (ad 0)] := by
  unfold fX8_shownBy_112
  refine z_iadd hc dX8_shownBy_112 ?_
  refine pfX8_216 hc dX8_shownBy_113 (fun σ1 => ?_)
  refine z_iload hc dX8_shownBy_116 3 rfl ?_
  refine z_istore_n (lv' := [(3, .int x5), (0, .ref (ad 0)), (2, .int x2), (4, .int x4), (5, .int x5)]) hc dX8_shownBy_118 rfl (by decide) rfl ?_
  refine z_goto (tgt := 10) hc dX8_shownBy_119 (by decide) ?_
  refine z_sub [1, 2, 0, 3] rfl ?_
  exact hk10 _ _ _ _
set_option maxRecDepth 100000 in
set_option maxHeartbeats 4000000 in
theorem tX8_shownBy_95 {p : Program} {l : Launch} {e : Env} {s : State} {m : MethodId} {args : Array Value} {below : List Frame} {meth : Method} {c : Code} {D : va_G} {ca : Nat → ClassId} {xa ad : Nat → Nat} {A : Nat → Prop} (hc : zCx p s m args meth c cX8_shownBy 7 RX8 D ca xa A (zwM ad ca)) (hr : meth.sig.returnType = (some .int)) (N : Nat) (k10 : Int32 → Int32 → Int32 → zSt → Option (Int32 × zSt)) (hk10 : ∀ (x2 : Int32) (x3 : Int32) (x4 : Int32) (σ : zSt), zGO p l e rmX8_shownBy s m args below meth c 0 0 (zwM ad ca) D A 7 (zQ below D A (zwM ad ca) args s zI) (k10 x2 x3 x4 σ) σ 10 [(0, .ref (ad 0)), (2, .int x2), (3, .int x3), (4, .int x4)] []) (x2 : Int32) (x5 : Int32) (s0 : Int32) (σ : zSt) : zGO p l e rmX8_shownBy s m args below meth c 0 0 (zwM ad ca) D A 7 (zQ below D A (zwM ad ca) args s zI) (fX8_shownBy_95 N k10 x2 x5 s0 σ) σ 95 [(0, .ref (ad 0)), (2, .int x2), (5, .int x5)] [.int s0] := by
  unfold fX8_shownBy_95
  refine z_istore (lv' := [(4, .int s0), (0, .ref (ad 0)), (2, .int x2), (5, .int x5)]) hc dX8_shownBy_95 (by decide) rfl ?_
  refine z_aload_n hc dX8_shownBy_97 1 rfl ?_
  refine z_dup hc dX8_shownBy_98 rfl ?_
  refine gfX8_216 hc dX8_shownBy_99 ?_
  refine z_iload hc dX8_shownBy_102 0 rfl ?_
  refine z_if_eq (tgt := 111) hc dX8_shownBy_104 (by decide) ?_ ?_
  · refine z_iconst (v := (0 : Int32)) hc dX8_shownBy_111 (by decide) ?_
    refine z_sub [1, 2, 0, 3] rfl ?_
    exact tX8_shownBy_112 hc hr N _ hk10 _ _ _ _ _ _
  · refine z_iconst (v := (1 : Int32)) hc dX8_shownBy_107 (by decide) ?_
    refine z_goto (tgt := 112) hc dX8_shownBy_108 (by decide) ?_
    refine z_sub [1, 2, 0, 3] rfl ?_
    exact tX8_shownBy_112 hc hr N _ hk10 _ _ _ _ _ _
set_option maxRecDepth 100000 in
set_option maxHeartbeats 4000000 in
theorem tX8_shownBy_21 {p : Program} {l : Launch} {e : Env} {s : State} {m : MethodId} {args : Array Value} {below : List Frame} {meth : Method} {c : Code} {D : va_G} {ca : Nat → ClassId} {xa ad : Nat → Nat} {A : Nat → Prop} (hc : zCx p s m args meth c cX8_shownBy 7 RX8 D ca xa A (zwM ad ca)) (hr : meth.sig.returnType = (some .int)) (N : Nat) (k10 : Int32 → Int32 → Int32 → zSt → Option (Int32 × zSt)) (hk10 : ∀ (x2 : Int32) (x3 : Int32) (x4 : Int32) (σ : zSt), zGO p l e rmX8_shownBy s m args below meth c 0 0 (zwM ad ca) D A 7 (zQ below D A (zwM ad ca) args s zI) (k10 x2 x3 x4 σ) σ 10 [(0, .ref (ad 0)), (2, .int x2), (3, .int x3), (4, .int x4)] []) : ∀ (n : Nat) (x2 : Int32) (x3 : Int32) (x5 : Int32) (x6 : Int32) (σ : zSt), zGO p l e rmX8_shownBy s m args below meth c 0 0 (zwM ad ca) D A 7 (zQ below D A (zwM ad ca) args s zI) (fX8_shownBy_21 N k10 n x2 x3 x5 x6 σ) σ 21 [(0, .ref (ad 0)), (2, .int x2), (3, .int x3), (5, .int x5), (6, .int x6)] [] := by
  intro n
  induction n with
  | zero =>
    intro x2 x3 x5 x6 σ
    exact z_none
  | succ n ih =>
    intro x2 x3 x5 x6 σ
    unfold fX8_shownBy_21
    refine z_iload hc dX8_shownBy_21 4 rfl ?_
    refine z_aload_n hc dX8_shownBy_23 0 rfl ?_
    refine gfX8_188 hc dX8_shownBy_24 ?_
    refine z_icmp_ge (tgt := 84) hc dX8_shownBy_27 (by decide) ?_ ?_
    · refine z_iload hc dX8_shownBy_84 3 rfl ?_
      refine z_iload_n hc dX8_shownBy_86 2 rfl ?_
      refine z_icmp_eq (tgt := 94) hc dX8_shownBy_87 (by decide) ?_ ?_
      · refine z_iconst (v := (0 : Int32)) hc dX8_shownBy_94 (by decide) ?_
        refine z_sub [0, 1, 3] rfl ?_
        exact tX8_shownBy_95 hc hr N _ hk10 _ _ _ _
      · refine z_iconst (v := (1 : Int32)) hc dX8_shownBy_90 (by decide) ?_
        refine z_goto (tgt := 95) hc dX8_shownBy_91 (by decide) ?_
        refine z_sub [0, 1, 3] rfl ?_
        exact tX8_shownBy_95 hc hr N _ hk10 _ _ _ _
    · refine z_iload hc dX8_shownBy_30 3 rfl ?_
      refine z_aload_n hc dX8_shownBy_32 0 rfl ?_
      refine gfX8_38 hc dX8_shownBy_33 ?_
      refine z_iload hc dX8_shownBy_36 4 rfl ?_
      refine z_iaload hc 10 (by decide) rfl dX8_shownBy_38 (fun v1 => ?_)
      refine z_iload_n hc dX8_shownBy_39 1 rfl ?_
      refine z_icmp_eq (tgt := 74) hc dX8_shownBy_40 (by decide) ?_ ?_
      · refine z_sub [0, 1, 2, 4] rfl ?_
        exact tX8_shownBy_74 hc hr N _ _ hk10 (ih) _ _ _ _ _
      · refine z_aload_n hc dX8_shownBy_43 0 rfl ?_
        refine z_iload hc dX8_shownBy_44 4 rfl ?_
        refine z_runVi (b0 := ad 0) (As := [.int x6]) (rest := [.int x5]) hc dX8_shownBy_46 (fun _ _ h => tX8_openOf h) mpX8_openOf miX8_openOf kmX8_219 ⟨rfl, rfl, Nat.le_of_ble_eq_true rfl, Nat.le_of_ble_eq_true rfl⟩ ⟨Nat.le_refl _, Nat.le_refl _⟩ zcM_rc0 rfl (Nat.le_of_ble_eq_true rfl) (fun b2 σ3 => ?_)
        refine z_if_ne (tgt := 74) hc dX8_shownBy_49 (by decide) ?_ ?_
        · refine z_aload_n hc dX8_shownBy_52 0 rfl ?_
          refine z_iload hc dX8_shownBy_53 4 rfl ?_
          refine z_iload_n hc dX8_shownBy_55 2 rfl ?_
          refine z_runVi (b0 := ad 0) (As := [.int x6, .int x3]) (rest := [.int x5]) hc dX8_shownBy_56 (fun _ _ h => tX8_isBorneUp h) mpX8_isBorneUp miX8_isBorneUp kmX8_222 ⟨rfl, rfl, Nat.le_of_ble_eq_true rfl, Nat.le_of_ble_eq_true rfl⟩ ⟨Nat.le_refl _, Nat.le_refl _⟩ zcM_rc0 rfl (Nat.le_of_ble_eq_true rfl) (fun b4 σ5 => ?_)
          refine z_if_eq (tgt := 74) hc dX8_shownBy_59 (by decide) ?_ ?_
          · refine z_sub [0, 1, 2, 4] rfl ?_
            exact tX8_shownBy_74 hc hr N _ _ hk10 (ih) _ _ _ _ _
          · refine z_iconst (v := (1 : Int32)) hc dX8_shownBy_62 (by decide) ?_
            refine z_aload_n hc dX8_shownBy_63 0 rfl ?_
            refine gfX8_38 hc dX8_shownBy_64 ?_
            refine z_iload hc dX8_shownBy_67 4 rfl ?_
            refine z_iaload hc 10 (by decide) rfl dX8_shownBy_69 (fun v6 => ?_)
            refine z_ishl hc dX8_shownBy_70 ?_
            refine z_goto (tgt := 75) hc dX8_shownBy_71 (by decide) ?_
            refine z_sub [0, 1, 2, 4] rfl ?_
            exact tX8_shownBy_75 hc hr N _ _ hk10 (ih) _ _ _ _ _ _
        · refine z_sub [0, 1, 2, 4] rfl ?_
          exact tX8_shownBy_74 hc hr N _ _ hk10 (ih) _ _ _ _ _
set_option maxRecDepth 100000 in
set_option maxHeartbeats 4000000 in
theorem tX8_shownBy_10 {p : Program} {l : Launch} {e : Env} {s : State} {m : MethodId} {args : Array Value} {below : List Frame} {meth : Method} {c : Code} {D : va_G} {ca : Nat → ClassId} {xa ad : Nat → Nat} {A : Nat → Prop} (hc : zCx p s m args meth c cX8_shownBy 7 RX8 D ca xa A (zwM ad ca)) (hr : meth.sig.returnType = (some .int)) (N : Nat)   : ∀ (n : Nat) (x2 : Int32) (x3 : Int32) (x4 : Int32) (σ : zSt), zGO p l e rmX8_shownBy s m args below meth c 0 0 (zwM ad ca) D A 7 (zQ below D A (zwM ad ca) args s zI) (fX8_shownBy_10 N n x2 x3 x4 σ) σ 10 [(0, .ref (ad 0)), (2, .int x2), (3, .int x3), (4, .int x4)] [] := by
  intro n
  induction n with
  | zero =>
    intro x2 x3 x4 σ
    exact z_none
  | succ n ih =>
    intro x2 x3 x4 σ
    unfold fX8_shownBy_10
    refine z_iload hc dX8_shownBy_10 3 rfl ?_
    refine z_if_eq (tgt := 122) hc dX8_shownBy_12 (by decide) ?_ ?_
    · refine z_iload_n hc dX8_shownBy_122 2 rfl ?_
      exact z_iret hc hr dX8_shownBy_123
    · refine z_iload_n hc dX8_shownBy_15 2 rfl ?_
      refine z_istore (lv' := [(5, .int x3), (0, .ref (ad 0)), (2, .int x2), (3, .int x3), (4, .int x4)]) hc dX8_shownBy_16 (by decide) rfl ?_
      refine z_iconst (v := (0 : Int32)) hc dX8_shownBy_18 (by decide) ?_
      refine z_istore (lv' := [(6, .int (0 : Int32)), (5, .int x3), (0, .ref (ad 0)), (2, .int x2), (3, .int x3), (4, .int x4)]) hc dX8_shownBy_19 (by decide) rfl ?_
      refine z_sub [2, 3, 4, 1, 0] rfl ?_
      exact tX8_shownBy_21 hc hr N _ (ih) N _ _ _ _ _
set_option maxRecDepth 100000 in
set_option maxHeartbeats 4000000 in
theorem tX8_shownBy {l : Launch} {D : va_G} {ca : Nat → ClassId} {xa ad : Nat → Nat} {A : Nat → Prop} {N : Nat} {x1 : Int32} {x2 : Int32} {σ : zSt} {a : Int32} {τ : zSt} (h : fX8_shownBy N x1 x2 σ = some (a, τ)) : zCt l yX8_shownBy cX8_shownBy 7 (some .int) rmX8_shownBy D ca xa A (zwM ad ca) [.ref (ad 0), .int x1, .int x2] σ (zI a) τ := by
  refine z_met (inj := zI) (lv := [(0, .ref (ad 0)), (1, .int x1), (2, .int x2)]) (by decide) (Nat.le_of_ble_eq_true rfl) rfl ?_ h
  intro p e s m args below meth c hc hr
  unfold fX8_shownBy
  refine z_iload_n hc dX8_shownBy_0 1 rfl ?_
  refine z_istore_n (lv' := [(3, .int x1), (0, .ref (ad 0)), (1, .int x1), (2, .int x2)]) hc dX8_shownBy_1 rfl (by decide) rfl ?_
  refine z_iconst (v := (1 : Int32)) hc dX8_shownBy_2 (by decide) ?_
  refine z_istore (lv' := [(4, .int (1 : Int32)), (3, .int x1), (0, .ref (ad 0)), (1, .int x1), (2, .int x2)]) hc dX8_shownBy_3 (by decide) rfl ?_
  refine z_aload_n hc dX8_shownBy_5 2 rfl ?_
  refine z_iconst (v := (0 : Int32)) hc dX8_shownBy_6 (by decide) ?_
  refine pfX8_216 hc dX8_shownBy_7 (fun σ1 => ?_)
  refine z_sub [2, 4, 1, 0] rfl ?_
  exact tX8_shownBy_10 hc hr N N _ _ _ _
set_option maxRecDepth 100000 in
set_option maxHeartbeats 4000000 in
theorem tX8_shownNow {l : Launch} {D : va_G} {ca : Nat → ClassId} {xa ad : Nat → Nat} {A : Nat → Prop} {N : Nat}  {σ : zSt} {a : Int32} {τ : zSt} (h : fX8_shownNow N σ = some (a, τ)) : zCt l yX8_shownNow cX8_shownNow 1 (some .int) rmX8_shownNow D ca xa A (zwM ad ca) [.ref (ad 0)] σ (zI a) τ := by
  refine z_met (inj := zI) (lv := [(0, .ref (ad 0))]) (by decide) (Nat.le_of_ble_eq_true rfl) rfl ?_ h
  intro p e s m args below meth c hc hr
  unfold fX8_shownNow
  refine z_aload_n hc dX8_shownNow_0 0 rfl ?_
  refine z_aload_n hc dX8_shownNow_1 0 rfl ?_
  refine z_runVi (b0 := ad 0) (As := []) (rest := [.ref (ad 0)]) hc dX8_shownNow_2 (fun _ _ h => tX8_standing h) mpX8_standing miX8_standing kmX8_225 ⟨rfl, rfl, Nat.le_of_ble_eq_true rfl, Nat.le_of_ble_eq_true rfl⟩ ⟨Nat.le_refl _, Nat.le_refl _⟩ zcM_rc0 rfl (Nat.le_of_ble_eq_true rfl) (fun b1 σ2 => ?_)
  refine z_ldc hc dX8_shownNow_5 kcX8_114 ?_
  refine z_runVi (b0 := ad 0) (As := [.int b1, .int (-1000000 : Int32)]) (rest := []) hc dX8_shownNow_7 (fun _ _ h => tX8_shownBy h) mpX8_shownBy miX8_shownBy kmX8_228 ⟨rfl, rfl, Nat.le_of_ble_eq_true rfl, Nat.le_of_ble_eq_true rfl⟩ ⟨Nat.le_refl _, Nat.le_refl _⟩ zcM_rc0 rfl (Nat.le_of_ble_eq_true rfl) (fun b3 σ4 => ?_)
  exact z_iret hc hr dX8_shownNow_10
set_option maxRecDepth 100000 in
set_option maxHeartbeats 4000000 in
theorem tX8_node {l : Launch} {D : va_G} {ca : Nat → ClassId} {xa ad : Nat → Nat} {A : Nat → Prop} {N : Nat} {x1 : Int32} {x2 : Int32} {σ : zSt} {a : Int32} {τ : zSt} (h : fX8_node N x1 x2 σ = some (a, τ)) : zCt l yX8_node cX8_node 3 (some .int) rmX8_node D ca xa A (zwM ad ca) [.ref (ad 0), .int x1, .int x2] σ (zI a) τ := by
  refine z_met (inj := zI) (lv := [(0, .ref (ad 0)), (1, .int x1), (2, .int x2)]) (by decide) (Nat.le_of_ble_eq_true rfl) rfl ?_ h
  intro p e s m args below meth c hc hr
  unfold fX8_node
  refine z_aload_n hc dX8_node_0 0 rfl ?_
  refine z_iconst (v := (0 : Int32)) hc dX8_node_1 (by decide) ?_
  refine pfX8_78 hc dX8_node_2 (fun σ1 => ?_)
  refine z_aload_n hc dX8_node_5 0 rfl ?_
  refine z_iload_n hc dX8_node_6 1 rfl ?_
  refine z_runVi (b0 := ad 0) (As := [.int x1]) (rest := []) hc dX8_node_7 (fun _ _ h => tX8_isNode h) mpX8_isNode miX8_isNode kmX8_204 ⟨rfl, rfl, Nat.le_of_ble_eq_true rfl, Nat.le_of_ble_eq_true rfl⟩ ⟨Nat.le_refl _, Nat.le_refl _⟩ zcM_rc0 rfl (Nat.le_of_ble_eq_true rfl) (fun b2 σ3 => ?_)
  refine z_if_eq (tgt := 25) hc dX8_node_10 (by decide) ?_ ?_
  · refine z_ldc hc dX8_node_25 kcX8_98 ?_
    exact z_iret hc hr dX8_node_27
  · refine z_iload_n hc dX8_node_13 2 rfl ?_
    refine z_i2l hc dX8_node_14 ?_
    refine z_lconst (v := (0 : Int64)) hc dX8_node_15 (by decide) ?_
    refine z_ldc2 hc dX8_node_16 kcX8_254 ?_
    refine z_runSi (As := [.long x2.toInt64, .long (0 : Int64), .long (5 : Int64)]) (rest := []) hc dX8_node_19 (fun _ _ h => tX8_in h) mpX8_in miX8_in kmX8_88 ⟨rfl, rfl, Nat.le_of_ble_eq_true rfl, Nat.le_of_ble_eq_true rfl⟩ ⟨Nat.le_refl _, Nat.le_refl _⟩ rfl (Nat.le_of_ble_eq_true rfl) (fun b4 σ5 => ?_)
    refine z_if_ne (tgt := 28) hc dX8_node_22 (by decide) ?_ ?_
    · refine z_ldc hc dX8_node_25 kcX8_98 ?_
      exact z_iret hc hr dX8_node_27
    · refine z_iload_n hc dX8_node_28 2 rfl ?_
      refine z_ite (fun h7 => ?_) (fun h7 => ?_)
      · refine z_swIn (tgt := 64) (off := 35) hc dX8_node_29 (by rw [h7]; decide) (by rw [h7]; decide) (by rw [h7]; decide) (by decide) ?_
        refine z_aload_n hc dX8_node_64 0 rfl ?_
        refine gfX8_19 hc dX8_node_65 ?_
        refine z_iload_n hc dX8_node_68 1 rfl ?_
        refine z_iaload hc 4 (by decide) rfl dX8_node_69 (fun v6 => ?_)
        exact z_iret hc hr dX8_node_70
      refine z_ite (fun h9 => ?_) (fun h9 => ?_)
      · refine z_swIn (tgt := 71) (off := 42) hc dX8_node_29 (by rw [h9]; decide) (by rw [h9]; decide) (by rw [h9]; decide) (by decide) ?_
        refine z_aload_n hc dX8_node_71 0 rfl ?_
        refine gfX8_22 hc dX8_node_72 ?_
        refine z_iload_n hc dX8_node_75 1 rfl ?_
        refine z_iaload hc 5 (by decide) rfl dX8_node_76 (fun v8 => ?_)
        exact z_iret hc hr dX8_node_77
      refine z_ite (fun h11 => ?_) (fun h11 => ?_)
      · refine z_swIn (tgt := 78) (off := 49) hc dX8_node_29 (by rw [h11]; decide) (by rw [h11]; decide) (by rw [h11]; decide) (by decide) ?_
        refine z_aload_n hc dX8_node_78 0 rfl ?_
        refine gfX8_25 hc dX8_node_79 ?_
        refine z_iload_n hc dX8_node_82 1 rfl ?_
        refine z_iaload hc 6 (by decide) rfl dX8_node_83 (fun v10 => ?_)
        exact z_iret hc hr dX8_node_84
      refine z_ite (fun h13 => ?_) (fun h13 => ?_)
      · refine z_swIn (tgt := 85) (off := 56) hc dX8_node_29 (by rw [h13]; decide) (by rw [h13]; decide) (by rw [h13]; decide) (by decide) ?_
        refine z_aload_n hc dX8_node_85 0 rfl ?_
        refine gfX8_28 hc dX8_node_86 ?_
        refine z_iload_n hc dX8_node_89 1 rfl ?_
        refine z_iaload hc 7 (by decide) rfl dX8_node_90 (fun v12 => ?_)
        exact z_iret hc hr dX8_node_91
      refine z_ite (fun h15 => ?_) (fun h15 => ?_)
      · refine z_swIn (tgt := 92) (off := 63) hc dX8_node_29 (by rw [h15]; decide) (by rw [h15]; decide) (by rw [h15]; decide) (by decide) ?_
        refine z_aload_n hc dX8_node_92 0 rfl ?_
        refine gfX8_31 hc dX8_node_93 ?_
        refine z_iload_n hc dX8_node_96 1 rfl ?_
        refine z_zaload hc 8 (by decide) rfl dX8_node_97 (fun v14 => ?_)
        refine z_if_eq (tgt := 105) hc dX8_node_98 (by decide) ?_ ?_
        · refine z_iconst (v := (0 : Int32)) hc dX8_node_105 (by decide) ?_
          exact z_iret hc hr dX8_node_106
        · refine z_iconst (v := (1 : Int32)) hc dX8_node_101 (by decide) ?_
          refine z_goto (tgt := 106) hc dX8_node_102 (by decide) ?_
          exact z_iret hc hr dX8_node_106
      refine z_swOut (tgt := 107) hc dX8_node_29 (zsw0_4 h7 h9 h11 h13 h15) (by decide) ?_
      refine z_aload_n hc dX8_node_107 0 rfl ?_
      refine z_runVi (b0 := ad 0) (As := []) (rest := []) hc dX8_node_108 (fun _ _ h => tX8_shownNow h) mpX8_shownNow miX8_shownNow kmX8_232 ⟨rfl, rfl, Nat.le_of_ble_eq_true rfl, Nat.le_of_ble_eq_true rfl⟩ ⟨Nat.le_refl _, Nat.le_refl _⟩ zcM_rc0 rfl (Nat.le_of_ble_eq_true rfl) (fun b16 σ17 => ?_)
      refine z_iload_n hc dX8_node_111 1 rfl ?_
      refine z_ishr hc dX8_node_112 ?_
      refine z_iconst (v := (1 : Int32)) hc dX8_node_113 (by decide) ?_
      refine z_iand hc dX8_node_114 ?_
      exact z_iret hc hr dX8_node_115
set_option maxRecDepth 100000 in
set_option maxHeartbeats 4000000 in
theorem tX2_hasStep {l : Launch} {D : va_G} {ca : Nat → ClassId} {xa ad : Nat → Nat} {A : Nat → Prop} {N : Nat} {x1 : Int32} {σ : zSt} {a : Int32} {τ : zSt} (h : fX2_hasStep N x1 σ = some (a, τ)) : zCt l yX2_hasStep cX2_hasStep 2 (some .boolean) rmX2_hasStep D ca xa A (zwC ad ca) [.ref (ad 7), .int x1] σ (zI a) τ := by
  refine z_met (inj := zI) (lv := [(0, .ref (ad 7)), (1, .int x1)]) (by decide) (Nat.le_of_ble_eq_true rfl) rfl ?_ h
  intro p e s m args below meth c hc hr
  unfold fX2_hasStep
  refine z_iload_n hc dX2_hasStep_0 1 rfl ?_
  refine z_if_lt (tgt := 16) hc dX2_hasStep_1 (by decide) ?_ ?_
  · refine z_iconst (v := (0 : Int32)) hc dX2_hasStep_16 (by decide) ?_
    exact z_zret hc hr dX2_hasStep_17
  · refine z_iload_n hc dX2_hasStep_4 1 rfl ?_
    refine z_aload_n hc dX2_hasStep_5 0 rfl ?_
    refine gfX2_59 hc dX2_hasStep_6 ?_
    refine z_icmp_ge (tgt := 16) hc dX2_hasStep_9 (by decide) ?_ ?_
    · refine z_iconst (v := (0 : Int32)) hc dX2_hasStep_16 (by decide) ?_
      exact z_zret hc hr dX2_hasStep_17
    · refine z_iconst (v := (1 : Int32)) hc dX2_hasStep_12 (by decide) ?_
      refine z_goto (tgt := 17) hc dX2_hasStep_13 (by decide) ?_
      exact z_zret hc hr dX2_hasStep_17
set_option maxRecDepth 100000 in
set_option maxHeartbeats 4000000 in
theorem tX2_doubtsOf {l : Launch} {D : va_G} {ca : Nat → ClassId} {xa ad : Nat → Nat} {A : Nat → Prop} {N : Nat} {x1 : Int32} {σ : zSt} {a : Int32} {τ : zSt} (h : fX2_doubtsOf N x1 σ = some (a, τ)) : zCt l yX2_doubtsOf cX2_doubtsOf 2 (some .int) rmX2_doubtsOf D ca xa A (zwC ad ca) [.ref (ad 7), .int x1] σ (zI a) τ := by
  refine z_met (inj := zI) (lv := [(0, .ref (ad 7)), (1, .int x1)]) (by decide) (Nat.le_of_ble_eq_true rfl) rfl ?_ h
  intro p e s m args below meth c hc hr
  unfold fX2_doubtsOf
  refine z_tab (N := 0) (f := zTW) (ref := "") hc (zexZ1 hc) kfX2_66 dX2_doubtsOf_0 ?_
  refine z_aload_n hc dX2_doubtsOf_3 0 rfl ?_
  refine gfX2_27 hc dX2_doubtsOf_4 ?_
  refine z_iload_n hc dX2_doubtsOf_7 1 rfl ?_
  refine z_iaload hc 13 (by decide) rfl dX2_doubtsOf_8 (fun v1 => ?_)
  refine z_tabld hc (zexT1 hc) dX2_doubtsOf_9 (fun v2 => ?_)
  exact z_iret hc hr dX2_doubtsOf_10
set_option maxRecDepth 100000 in
set_option maxHeartbeats 4000000 in
theorem tX7_step {l : Launch} {D : va_G} {ca : Nat → ClassId} {xa ad : Nat → Nat} {A : Nat → Prop} {N : Nat} {x1 : Int32} {x2 : Int32} {σ : zSt} {a : Int32} {τ : zSt} (h : fX7_step N x1 x2 σ = some (a, τ)) : zCt l yX7_step cX7_step 3 (some .int) rmX7_step D ca xa A (zwC ad ca) [.ref (ad 0), .int x1, .int x2] σ (zI a) τ := by
  refine z_met (inj := zI) (lv := [(0, .ref (ad 0)), (1, .int x1), (2, .int x2)]) (by decide) (Nat.le_of_ble_eq_true rfl) rfl ?_ h
  intro p e s m args below meth c hc hr
  unfold fX7_step
  refine z_aload_n hc dX7_step_0 0 rfl ?_
  refine gfX7_26 hc dX7_step_1 ?_
  refine z_iload_n hc dX7_step_4 1 rfl ?_
  refine z_runVNi (b0 := ad 7) (As := [.int x1]) (rest := []) hc dX7_step_5 (fun _ _ h => tX2_hasStep h) mpX2_hasStep miX2_hasStep kmX7_156 ⟨rfl, rfl, Nat.le_of_ble_eq_true rfl, Nat.le_of_ble_eq_true rfl⟩ ⟨Nat.le_refl _, Nat.le_refl _⟩ zcC_rc7 rfl (Nat.le_of_ble_eq_true rfl) (fun b1 σ2 => ?_)
  refine z_if_ne (tgt := 14) hc dX7_step_8 (by decide) ?_ ?_
  · refine z_ldc hc dX7_step_11 kcX7_66 ?_
    exact z_iret hc hr dX7_step_13
  · refine z_iload_n hc dX7_step_14 2 rfl ?_
    refine z_ite (fun h4 => ?_) (fun h4 => ?_)
    · refine z_swIn (tgt := 52) (off := 37) hc dX7_step_15 (by rw [h4]; decide) (by rw [h4]; decide) (by rw [h4]; decide) (by decide) ?_
      refine z_aload_n hc dX7_step_52 0 rfl ?_
      refine gfX7_26 hc dX7_step_53 ?_
      refine gfX7_159 hc dX7_step_56 ?_
      refine z_iload_n hc dX7_step_59 1 rfl ?_
      refine z_iaload hc 13 (by decide) rfl dX7_step_60 (fun v3 => ?_)
      exact z_iret hc hr dX7_step_61
    refine z_ite (fun h6 => ?_) (fun h6 => ?_)
    · refine z_swIn (tgt := 62) (off := 47) hc dX7_step_15 (by rw [h6]; decide) (by rw [h6]; decide) (by rw [h6]; decide) (by decide) ?_
      refine z_aload_n hc dX7_step_62 0 rfl ?_
      refine gfX7_26 hc dX7_step_63 ?_
      refine gfX7_162 hc dX7_step_66 ?_
      refine z_iload_n hc dX7_step_69 1 rfl ?_
      refine z_iaload hc 14 (by decide) rfl dX7_step_70 (fun v5 => ?_)
      exact z_iret hc hr dX7_step_71
    refine z_ite (fun h8 => ?_) (fun h8 => ?_)
    · refine z_swIn (tgt := 72) (off := 57) hc dX7_step_15 (by rw [h8]; decide) (by rw [h8]; decide) (by rw [h8]; decide) (by decide) ?_
      refine z_aload_n hc dX7_step_72 0 rfl ?_
      refine gfX7_26 hc dX7_step_73 ?_
      refine gfX7_165 hc dX7_step_76 ?_
      refine z_iload_n hc dX7_step_79 1 rfl ?_
      refine z_iaload hc 15 (by decide) rfl dX7_step_80 (fun v7 => ?_)
      exact z_iret hc hr dX7_step_81
    refine z_ite (fun h11 => ?_) (fun h11 => ?_)
    · refine z_swIn (tgt := 82) (off := 67) hc dX7_step_15 (by rw [h11]; decide) (by rw [h11]; decide) (by rw [h11]; decide) (by decide) ?_
      refine z_aload_n hc dX7_step_82 0 rfl ?_
      refine gfX7_26 hc dX7_step_83 ?_
      refine z_iload_n hc dX7_step_86 1 rfl ?_
      refine z_runVNi (b0 := ad 7) (As := [.int x1]) (rest := []) hc dX7_step_87 (fun _ _ h => tX2_doubtsOf h) mpX2_doubtsOf miX2_doubtsOf kmX7_168 ⟨rfl, rfl, Nat.le_of_ble_eq_true rfl, Nat.le_of_ble_eq_true rfl⟩ ⟨Nat.le_refl _, Nat.le_refl _⟩ zcC_rc7 rfl (Nat.le_of_ble_eq_true rfl) (fun b9 σ10 => ?_)
      exact z_iret hc hr dX7_step_90
    refine z_ite (fun h13 => ?_) (fun h13 => ?_)
    · refine z_swIn (tgt := 91) (off := 76) hc dX7_step_15 (by rw [h13]; decide) (by rw [h13]; decide) (by rw [h13]; decide) (by decide) ?_
      refine z_aload_n hc dX7_step_91 0 rfl ?_
      refine gfX7_26 hc dX7_step_92 ?_
      refine gfX7_171 hc dX7_step_95 ?_
      refine z_iload_n hc dX7_step_98 1 rfl ?_
      refine z_iaload hc 18 (by decide) rfl dX7_step_99 (fun v12 => ?_)
      exact z_iret hc hr dX7_step_100
    refine z_ite (fun h18 => ?_) (fun h18 => ?_)
    · refine z_swIn (tgt := 101) (off := 86) hc dX7_step_15 (by rw [h18]; decide) (by rw [h18]; decide) (by rw [h18]; decide) (by decide) ?_
      refine z_aload_n hc dX7_step_101 0 rfl ?_
      refine gfX7_26 hc dX7_step_102 ?_
      refine z_iload_n hc dX7_step_105 1 rfl ?_
      refine z_aload_n hc dX7_step_106 0 rfl ?_
      refine gfX7_26 hc dX7_step_107 ?_
      refine z_runVNi (b0 := ad 7) (As := []) (rest := [.int x1, .ref (ad 7)]) hc dX7_step_110 (fun _ _ h => tX2_shownNow h) mpX2_shownNow miX2_shownNow kmX7_148 ⟨rfl, rfl, Nat.le_of_ble_eq_true rfl, Nat.le_of_ble_eq_true rfl⟩ ⟨Nat.le_refl _, Nat.le_refl _⟩ zcC_rc7 rfl (Nat.le_of_ble_eq_true rfl) (fun b14 σ15 => ?_)
      refine z_runVNi (b0 := ad 7) (As := [.int x1, .int b14]) (rest := []) hc dX7_step_113 (fun _ _ h => tX2_isBorneUp h) mpX2_isBorneUp miX2_isBorneUp kmX7_174 ⟨rfl, rfl, Nat.le_of_ble_eq_true rfl, Nat.le_of_ble_eq_true rfl⟩ ⟨Nat.le_refl _, Nat.le_refl _⟩ zcC_rc7 rfl (Nat.le_of_ble_eq_true rfl) (fun b16 σ17 => ?_)
      refine z_if_eq (tgt := 123) hc dX7_step_116 (by decide) ?_ ?_
      · refine z_iconst (v := (0 : Int32)) hc dX7_step_123 (by decide) ?_
        exact z_iret hc hr dX7_step_124
      · refine z_iconst (v := (1 : Int32)) hc dX7_step_119 (by decide) ?_
        refine z_goto (tgt := 124) hc dX7_step_120 (by decide) ?_
        exact z_iret hc hr dX7_step_124
    refine z_swOut (tgt := 125) hc dX7_step_15 (zsw0_5 h4 h6 h8 h11 h13 h18) (by decide) ?_
    refine z_ldc hc dX7_step_125 kcX7_66 ?_
    exact z_iret hc hr dX7_step_127
set_option maxRecDepth 100000 in
set_option maxHeartbeats 4000000 in
theorem tX8_isStep {l : Launch} {D : va_G} {ca : Nat → ClassId} {xa ad : Nat → Nat} {A : Nat → Prop} {N : Nat} {x1 : Int32} {σ : zSt} {a : Int32} {τ : zSt} (h : fX8_isStep N x1 σ = some (a, τ)) : zCt l yX8_isStep cX8_isStep 2 (some .boolean) rmX8_isStep D ca xa A (zwM ad ca) [.ref (ad 0), .int x1] σ (zI a) τ := by
  refine z_met (inj := zI) (lv := [(0, .ref (ad 0)), (1, .int x1)]) (by decide) (Nat.le_of_ble_eq_true rfl) rfl ?_ h
  intro p e s m args below meth c hc hr
  unfold fX8_isStep
  refine z_iload_n hc dX8_isStep_0 1 rfl ?_
  refine z_i2l hc dX8_isStep_1 ?_
  refine z_lconst (v := (0 : Int64)) hc dX8_isStep_2 (by decide) ?_
  refine z_aload_n hc dX8_isStep_3 0 rfl ?_
  refine gfX8_188 hc dX8_isStep_4 ?_
  refine z_iconst (v := (1 : Int32)) hc dX8_isStep_7 (by decide) ?_
  refine z_isub hc dX8_isStep_8 ?_
  refine z_i2l hc dX8_isStep_9 ?_
  refine z_runSi (As := [.long x1.toInt64, .long (0 : Int64), .long ((σ.1 0 6) - (1 : Int32)).toInt64]) (rest := []) hc dX8_isStep_10 (fun _ _ h => tX8_in h) mpX8_in miX8_in kmX8_88 ⟨rfl, rfl, Nat.le_of_ble_eq_true rfl, Nat.le_of_ble_eq_true rfl⟩ ⟨Nat.le_refl _, Nat.le_refl _⟩ rfl (Nat.le_of_ble_eq_true rfl) (fun b1 σ2 => ?_)
  exact z_zret hc hr dX8_isStep_13
set_option maxRecDepth 100000 in
set_option maxHeartbeats 4000000 in
theorem tX8_step {l : Launch} {D : va_G} {ca : Nat → ClassId} {xa ad : Nat → Nat} {A : Nat → Prop} {N : Nat} {x1 : Int32} {x2 : Int32} {σ : zSt} {a : Int32} {τ : zSt} (h : fX8_step N x1 x2 σ = some (a, τ)) : zCt l yX8_step cX8_step 3 (some .int) rmX8_step D ca xa A (zwM ad ca) [.ref (ad 0), .int x1, .int x2] σ (zI a) τ := by
  refine z_met (inj := zI) (lv := [(0, .ref (ad 0)), (1, .int x1), (2, .int x2)]) (by decide) (Nat.le_of_ble_eq_true rfl) rfl ?_ h
  intro p e s m args below meth c hc hr
  unfold fX8_step
  refine z_aload_n hc dX8_step_0 0 rfl ?_
  refine z_iconst (v := (0 : Int32)) hc dX8_step_1 (by decide) ?_
  refine pfX8_78 hc dX8_step_2 (fun σ1 => ?_)
  refine z_aload_n hc dX8_step_5 0 rfl ?_
  refine z_iload_n hc dX8_step_6 1 rfl ?_
  refine z_runVi (b0 := ad 0) (As := [.int x1]) (rest := []) hc dX8_step_7 (fun _ _ h => tX8_isStep h) mpX8_isStep miX8_isStep kmX8_256 ⟨rfl, rfl, Nat.le_of_ble_eq_true rfl, Nat.le_of_ble_eq_true rfl⟩ ⟨Nat.le_refl _, Nat.le_refl _⟩ zcM_rc0 rfl (Nat.le_of_ble_eq_true rfl) (fun b2 σ3 => ?_)
  refine z_if_eq (tgt := 25) hc dX8_step_10 (by decide) ?_ ?_
  · refine z_ldc hc dX8_step_25 kcX8_98 ?_
    exact z_iret hc hr dX8_step_27
  · refine z_iload_n hc dX8_step_13 2 rfl ?_
    refine z_i2l hc dX8_step_14 ?_
    refine z_lconst (v := (0 : Int64)) hc dX8_step_15 (by decide) ?_
    refine z_ldc2 hc dX8_step_16 kcX8_254 ?_
    refine z_runSi (As := [.long x2.toInt64, .long (0 : Int64), .long (5 : Int64)]) (rest := []) hc dX8_step_19 (fun _ _ h => tX8_in h) mpX8_in miX8_in kmX8_88 ⟨rfl, rfl, Nat.le_of_ble_eq_true rfl, Nat.le_of_ble_eq_true rfl⟩ ⟨Nat.le_refl _, Nat.le_refl _⟩ rfl (Nat.le_of_ble_eq_true rfl) (fun b4 σ5 => ?_)
    refine z_if_ne (tgt := 28) hc dX8_step_22 (by decide) ?_ ?_
    · refine z_ldc hc dX8_step_25 kcX8_98 ?_
      exact z_iret hc hr dX8_step_27
    · refine z_iload_n hc dX8_step_28 2 rfl ?_
      refine z_ite (fun h7 => ?_) (fun h7 => ?_)
      · refine z_swIn (tgt := 64) (off := 35) hc dX8_step_29 (by rw [h7]; decide) (by rw [h7]; decide) (by rw [h7]; decide) (by decide) ?_
        refine z_aload_n hc dX8_step_64 0 rfl ?_
        refine gfX8_35 hc dX8_step_65 ?_
        refine z_iload_n hc dX8_step_68 1 rfl ?_
        refine z_iaload hc 9 (by decide) rfl dX8_step_69 (fun v6 => ?_)
        exact z_iret hc hr dX8_step_70
      refine z_ite (fun h9 => ?_) (fun h9 => ?_)
      · refine z_swIn (tgt := 71) (off := 42) hc dX8_step_29 (by rw [h9]; decide) (by rw [h9]; decide) (by rw [h9]; decide) (by decide) ?_
        refine z_aload_n hc dX8_step_71 0 rfl ?_
        refine gfX8_38 hc dX8_step_72 ?_
        refine z_iload_n hc dX8_step_75 1 rfl ?_
        refine z_iaload hc 10 (by decide) rfl dX8_step_76 (fun v8 => ?_)
        exact z_iret hc hr dX8_step_77
      refine z_ite (fun h11 => ?_) (fun h11 => ?_)
      · refine z_swIn (tgt := 78) (off := 49) hc dX8_step_29 (by rw [h11]; decide) (by rw [h11]; decide) (by rw [h11]; decide) (by decide) ?_
        refine z_aload_n hc dX8_step_78 0 rfl ?_
        refine gfX8_41 hc dX8_step_79 ?_
        refine z_iload_n hc dX8_step_82 1 rfl ?_
        refine z_iaload hc 11 (by decide) rfl dX8_step_83 (fun v10 => ?_)
        exact z_iret hc hr dX8_step_84
      refine z_ite (fun h15 => ?_) (fun h15 => ?_)
      · refine z_swIn (tgt := 85) (off := 56) hc dX8_step_29 (by rw [h15]; decide) (by rw [h15]; decide) (by rw [h15]; decide) (by decide) ?_
        refine z_aload_n hc dX8_step_85 0 rfl ?_
        refine gfX8_35 hc dX8_step_86 ?_
        refine z_iload_n hc dX8_step_89 1 rfl ?_
        refine z_iaload hc 9 (by decide) rfl dX8_step_90 (fun v12 => ?_)
        refine z_runSi (As := [.int v12]) (rest := []) hc dX8_step_91 (fun _ _ h => tX8_doubtsOf h) mpX8_doubtsOf miX8_doubtsOf kmX8_213 ⟨rfl, rfl, Nat.le_of_ble_eq_true rfl, Nat.le_of_ble_eq_true rfl⟩ ⟨Nat.le_refl _, Nat.le_refl _⟩ rfl (Nat.le_of_ble_eq_true rfl) (fun b13 σ14 => ?_)
        exact z_iret hc hr dX8_step_94
      refine z_ite (fun h18 => ?_) (fun h18 => ?_)
      · refine z_swIn (tgt := 95) (off := 66) hc dX8_step_29 (by rw [h18]; decide) (by rw [h18]; decide) (by rw [h18]; decide) (by decide) ?_
        refine z_aload_n hc dX8_step_95 0 rfl ?_
        refine z_iload_n hc dX8_step_96 1 rfl ?_
        refine z_runVi (b0 := ad 0) (As := [.int x1]) (rest := []) hc dX8_step_97 (fun _ _ h => tX8_openOf h) mpX8_openOf miX8_openOf kmX8_219 ⟨rfl, rfl, Nat.le_of_ble_eq_true rfl, Nat.le_of_ble_eq_true rfl⟩ ⟨Nat.le_refl _, Nat.le_refl _⟩ zcM_rc0 rfl (Nat.le_of_ble_eq_true rfl) (fun b16 σ17 => ?_)
        exact z_iret hc hr dX8_step_100
      refine z_swOut (tgt := 101) hc dX8_step_29 (zsw0_4 h7 h9 h11 h15 h18) (by decide) ?_
      refine z_aload_n hc dX8_step_101 0 rfl ?_
      refine z_iload_n hc dX8_step_102 1 rfl ?_
      refine z_aload_n hc dX8_step_103 0 rfl ?_
      refine z_runVi (b0 := ad 0) (As := []) (rest := [.int x1, .ref (ad 0)]) hc dX8_step_104 (fun _ _ h => tX8_shownNow h) mpX8_shownNow miX8_shownNow kmX8_232 ⟨rfl, rfl, Nat.le_of_ble_eq_true rfl, Nat.le_of_ble_eq_true rfl⟩ ⟨Nat.le_refl _, Nat.le_refl _⟩ zcM_rc0 rfl (Nat.le_of_ble_eq_true rfl) (fun b19 σ20 => ?_)
      refine z_runVi (b0 := ad 0) (As := [.int x1, .int b19]) (rest := []) hc dX8_step_107 (fun _ _ h => tX8_isBorneUp h) mpX8_isBorneUp miX8_isBorneUp kmX8_222 ⟨rfl, rfl, Nat.le_of_ble_eq_true rfl, Nat.le_of_ble_eq_true rfl⟩ ⟨Nat.le_refl _, Nat.le_refl _⟩ zcM_rc0 rfl (Nat.le_of_ble_eq_true rfl) (fun b21 σ22 => ?_)
      refine z_if_eq (tgt := 117) hc dX8_step_110 (by decide) ?_ ?_
      · refine z_iconst (v := (0 : Int32)) hc dX8_step_117 (by decide) ?_
        exact z_iret hc hr dX8_step_118
      · refine z_iconst (v := (1 : Int32)) hc dX8_step_113 (by decide) ?_
        refine z_goto (tgt := 118) hc dX8_step_114 (by decide) ?_
        exact z_iret hc hr dX8_step_118
set_option maxRecDepth 100000 in
set_option maxHeartbeats 4000000 in
theorem tX2_partAt {l : Launch} {D : va_G} {ca : Nat → ClassId} {xa ad : Nat → Nat} {A : Nat → Prop} {N : Nat} {x1 : Int32} {x2 : Int32} {σ : zSt} {a : Int32} {τ : zSt} (h : fX2_partAt N x1 x2 σ = some (a, τ)) : zCt l yX2_partAt cX2_partAt 3 (some .int) rmX2_partAt D ca xa A (zwC ad ca) [.ref (ad 7), .int x1, .int x2] σ (zI a) τ := by
  refine z_met (inj := zI) (lv := [(0, .ref (ad 7)), (1, .int x1), (2, .int x2)]) (by decide) (Nat.le_of_ble_eq_true rfl) rfl ?_ h
  intro p e s m args below meth c hc hr
  unfold fX2_partAt
  refine z_aload_n hc dX2_partAt_0 0 rfl ?_
  refine gfX2_39 hc dX2_partAt_1 ?_
  refine z_iload_n hc dX2_partAt_4 1 rfl ?_
  refine z_bipush (v := (6 : Int32)) hc dX2_partAt_5 (by decide) ?_
  refine z_imul hc dX2_partAt_7 ?_
  refine z_iload_n hc dX2_partAt_8 2 rfl ?_
  refine z_iadd hc dX2_partAt_9 ?_
  refine z_iaload hc 17 (by decide) rfl dX2_partAt_10 (fun v1 => ?_)
  exact z_iret hc hr dX2_partAt_11
set_option maxRecDepth 100000 in
set_option maxHeartbeats 4000000 in
theorem tX7_part {l : Launch} {D : va_G} {ca : Nat → ClassId} {xa ad : Nat → Nat} {A : Nat → Prop} {N : Nat} {x1 : Int32} {x2 : Int32} {σ : zSt} {a : Int32} {τ : zSt} (h : fX7_part N x1 x2 σ = some (a, τ)) : zCt l yX7_part cX7_part 3 (some .int) rmX7_part D ca xa A (zwC ad ca) [.ref (ad 0), .int x1, .int x2] σ (zI a) τ := by
  refine z_met (inj := zI) (lv := [(0, .ref (ad 0)), (1, .int x1), (2, .int x2)]) (by decide) (Nat.le_of_ble_eq_true rfl) rfl ?_ h
  intro p e s m args below meth c hc hr
  unfold fX7_part
  refine z_aload_n hc dX7_part_0 0 rfl ?_
  refine gfX7_26 hc dX7_part_1 ?_
  refine z_iload_n hc dX7_part_4 1 rfl ?_
  refine z_runVNi (b0 := ad 7) (As := [.int x1]) (rest := []) hc dX7_part_5 (fun _ _ h => tX2_hasStep h) mpX2_hasStep miX2_hasStep kmX7_156 ⟨rfl, rfl, Nat.le_of_ble_eq_true rfl, Nat.le_of_ble_eq_true rfl⟩ ⟨Nat.le_refl _, Nat.le_refl _⟩ zcC_rc7 rfl (Nat.le_of_ble_eq_true rfl) (fun b1 σ2 => ?_)
  refine z_if_eq (tgt := 15) hc dX7_part_8 (by decide) ?_ ?_
  · refine z_ldc hc dX7_part_15 kcX7_66 ?_
    exact z_iret hc hr dX7_part_17
  · refine z_iload_n hc dX7_part_11 2 rfl ?_
    refine z_if_ge (tgt := 18) hc dX7_part_12 (by decide) ?_ ?_
    · refine z_iload_n hc dX7_part_18 2 rfl ?_
      refine z_aload_n hc dX7_part_19 0 rfl ?_
      refine gfX7_26 hc dX7_part_20 ?_
      refine gfX7_165 hc dX7_part_23 ?_
      refine z_iload_n hc dX7_part_26 1 rfl ?_
      refine z_iaload hc 15 (by decide) rfl dX7_part_27 (fun v3 => ?_)
      refine z_icmp_ge (tgt := 43) hc dX7_part_28 (by decide) ?_ ?_
      · refine z_ldc hc dX7_part_43 kcX7_135 ?_
        exact z_iret hc hr dX7_part_45
      · refine z_aload_n hc dX7_part_31 0 rfl ?_
        refine gfX7_26 hc dX7_part_32 ?_
        refine z_iload_n hc dX7_part_35 1 rfl ?_
        refine z_iload_n hc dX7_part_36 2 rfl ?_
        refine z_runVNi (b0 := ad 7) (As := [.int x1, .int x2]) (rest := []) hc dX7_part_37 (fun _ _ h => tX2_partAt h) mpX2_partAt miX2_partAt kmX7_177 ⟨rfl, rfl, Nat.le_of_ble_eq_true rfl, Nat.le_of_ble_eq_true rfl⟩ ⟨Nat.le_refl _, Nat.le_refl _⟩ zcC_rc7 rfl (Nat.le_of_ble_eq_true rfl) (fun b4 σ5 => ?_)
        refine z_goto (tgt := 45) hc dX7_part_40 (by decide) ?_
        exact z_iret hc hr dX7_part_45
    · refine z_ldc hc dX7_part_15 kcX7_66 ?_
      exact z_iret hc hr dX7_part_17
set_option maxRecDepth 100000 in
set_option maxHeartbeats 4000000 in
theorem tX8_part_17 {p : Program} {l : Launch} {e : Env} {s : State} {m : MethodId} {args : Array Value} {below : List Frame} {meth : Method} {c : Code} {D : va_G} {ca : Nat → ClassId} {xa ad : Nat → Nat} {A : Nat → Prop} (hc : zCx p s m args meth c cX8_part 3 RX8 D ca xa A (zwM ad ca)) (hr : meth.sig.returnType = (some .int)) (N : Nat)    (σ : zSt) : zGO p l e rmX8_part s m args below meth c 0 0 (zwM ad ca) D A 3 (zQ below D A (zwM ad ca) args s zI) (fX8_part_17 N σ) σ 17 [] [] := by
  unfold fX8_part_17
  refine z_ldc hc dX8_part_17 kcX8_98 ?_
  refine z_goto (tgt := 48) hc dX8_part_19 (by decide) ?_
  exact z_iret hc hr dX8_part_48
set_option maxRecDepth 100000 in
set_option maxHeartbeats 4000000 in
theorem tX8_part {l : Launch} {D : va_G} {ca : Nat → ClassId} {xa ad : Nat → Nat} {A : Nat → Prop} {N : Nat} {x1 : Int32} {x2 : Int32} {σ : zSt} {a : Int32} {τ : zSt} (h : fX8_part N x1 x2 σ = some (a, τ)) : zCt l yX8_part cX8_part 3 (some .int) rmX8_part D ca xa A (zwM ad ca) [.ref (ad 0), .int x1, .int x2] σ (zI a) τ := by
  refine z_met (inj := zI) (lv := [(0, .ref (ad 0)), (1, .int x1), (2, .int x2)]) (by decide) (Nat.le_of_ble_eq_true rfl) rfl ?_ h
  intro p e s m args below meth c hc hr
  unfold fX8_part
  refine z_aload_n hc dX8_part_0 0 rfl ?_
  refine z_iconst (v := (0 : Int32)) hc dX8_part_1 (by decide) ?_
  refine pfX8_78 hc dX8_part_2 (fun σ1 => ?_)
  refine z_aload_n hc dX8_part_5 0 rfl ?_
  refine z_iload_n hc dX8_part_6 1 rfl ?_
  refine z_runVi (b0 := ad 0) (As := [.int x1]) (rest := []) hc dX8_part_7 (fun _ _ h => tX8_isStep h) mpX8_isStep miX8_isStep kmX8_256 ⟨rfl, rfl, Nat.le_of_ble_eq_true rfl, Nat.le_of_ble_eq_true rfl⟩ ⟨Nat.le_refl _, Nat.le_refl _⟩ zcM_rc0 rfl (Nat.le_of_ble_eq_true rfl) (fun b2 σ3 => ?_)
  refine z_if_eq (tgt := 17) hc dX8_part_10 (by decide) ?_ ?_
  · refine z_sub [] rfl ?_
    exact tX8_part_17 hc hr N _
  · refine z_iload_n hc dX8_part_13 2 rfl ?_
    refine z_if_ge (tgt := 22) hc dX8_part_14 (by decide) ?_ ?_
    · refine z_iload_n hc dX8_part_22 2 rfl ?_
      refine z_aload_n hc dX8_part_23 0 rfl ?_
      refine gfX8_41 hc dX8_part_24 ?_
      refine z_iload_n hc dX8_part_27 1 rfl ?_
      refine z_iaload hc 11 (by decide) rfl dX8_part_28 (fun v4 => ?_)
      refine z_icmp_ge (tgt := 46) hc dX8_part_29 (by decide) ?_ ?_
      · refine z_ldc hc dX8_part_46 kcX8_114 ?_
        exact z_iret hc hr dX8_part_48
      · refine z_aload_n hc dX8_part_32 0 rfl ?_
        refine gfX8_44 hc dX8_part_33 ?_
        refine z_bipush (v := (6 : Int32)) hc dX8_part_36 (by decide) ?_
        refine z_iload_n hc dX8_part_38 1 rfl ?_
        refine z_imul hc dX8_part_39 ?_
        refine z_iload_n hc dX8_part_40 2 rfl ?_
        refine z_iadd hc dX8_part_41 ?_
        refine z_iaload hc 12 (by decide) rfl dX8_part_42 (fun v5 => ?_)
        refine z_goto (tgt := 48) hc dX8_part_43 (by decide) ?_
        exact z_iret hc hr dX8_part_48
    · refine z_sub [] rfl ?_
      exact tX8_part_17 hc hr N _
set_option maxRecDepth 100000 in
set_option maxHeartbeats 4000000 in
theorem tX2_tellDoubt_41 {p : Program} {l : Launch} {e : Env} {s : State} {m : MethodId} {args : Array Value} {below : List Frame} {meth : Method} {c : Code} {D : va_G} {ca : Nat → ClassId} {xa ad : Nat → Nat} {A : Nat → Prop} (hc : zCx p s m args meth c cX2_tellDoubt 5 RX2 D ca xa A (zwC ad ca)) (hr : meth.sig.returnType = (some .int)) (N : Nat)   (x1 : Int32) (x2 : Int32) (x3 : Int32) (x4 : Int32) (σ : zSt) : zGO p l e rmX2_tellDoubt s m args below meth c 0 0 (zwC ad ca) D A 5 (zQ below D A (zwC ad ca) args s zI) (fX2_tellDoubt_41 N x1 x2 x3 x4 σ) σ 41 [(0, .ref (ad 7)), (1, .int x1), (2, .int x2), (3, .int x3), (4, .int x4)] [] := by
  unfold fX2_tellDoubt_41
  refine z_aload_n hc dX2_tellDoubt_41 0 rfl ?_
  refine gfX2_45 hc dX2_tellDoubt_42 ?_
  refine z_iload_n hc dX2_tellDoubt_45 1 rfl ?_
  refine z_iconst (v := (3 : Int32)) hc dX2_tellDoubt_46 (by decide) ?_
  refine z_imul hc dX2_tellDoubt_47 ?_
  refine z_iload_n hc dX2_tellDoubt_48 2 rfl ?_
  refine z_iadd hc dX2_tellDoubt_49 ?_
  refine z_iload_n hc dX2_tellDoubt_50 3 rfl ?_
  refine z_iastore hc 19 (by decide) (fun _ _ => rfl) dX2_tellDoubt_51 (fun σ1 => ?_)
  refine z_iload hc dX2_tellDoubt_52 4 rfl ?_
  exact z_iret hc hr dX2_tellDoubt_54
set_option maxRecDepth 100000 in
set_option maxHeartbeats 4000000 in
theorem tX2_tellDoubt_27 {p : Program} {l : Launch} {e : Env} {s : State} {m : MethodId} {args : Array Value} {below : List Frame} {meth : Method} {c : Code} {D : va_G} {ca : Nat → ClassId} {xa ad : Nat → Nat} {A : Nat → Prop} (hc : zCx p s m args meth c cX2_tellDoubt 5 RX2 D ca xa A (zwC ad ca)) (hr : meth.sig.returnType = (some .int)) (N : Nat)   (x1 : Int32) (x2 : Int32) (x3 : Int32) (x4 : Int32) (σ : zSt) : zGO p l e rmX2_tellDoubt s m args below meth c 0 0 (zwC ad ca) D A 5 (zQ below D A (zwC ad ca) args s zI) (fX2_tellDoubt_27 N x1 x2 x3 x4 σ) σ 27 [(0, .ref (ad 7)), (1, .int x1), (2, .int x2), (3, .int x3), (4, .int x4)] [] := by
  unfold fX2_tellDoubt_27
  refine z_iload_n hc dX2_tellDoubt_27 3 rfl ?_
  refine z_if_ne (tgt := 41) hc dX2_tellDoubt_28 (by decide) ?_ ?_
  · refine z_aload_n hc dX2_tellDoubt_31 0 rfl ?_
    refine gfX2_42 hc dX2_tellDoubt_32 ?_
    refine z_iload_n hc dX2_tellDoubt_35 1 rfl ?_
    refine z_dup2_11 hc dX2_tellDoubt_36 rfl rfl ?_
    refine z_iaload hc 18 (by decide) rfl dX2_tellDoubt_37 (fun v1 => ?_)
    refine z_iconst (v := (1 : Int32)) hc dX2_tellDoubt_38 (by decide) ?_
    refine z_iadd hc dX2_tellDoubt_39 ?_
    refine z_iastore hc 18 (by decide) (fun _ _ => rfl) dX2_tellDoubt_40 (fun σ2 => ?_)
    exact tX2_tellDoubt_41 hc hr N _ _ _ _ _
  · exact tX2_tellDoubt_41 hc hr N _ _ _ _ _
set_option maxRecDepth 100000 in
set_option maxHeartbeats 4000000 in
theorem tX2_tellDoubt {l : Launch} {D : va_G} {ca : Nat → ClassId} {xa ad : Nat → Nat} {A : Nat → Prop} {N : Nat} {x1 : Int32} {x2 : Int32} {x3 : Int32} {σ : zSt} {a : Int32} {τ : zSt} (h : fX2_tellDoubt N x1 x2 x3 σ = some (a, τ)) : zCt l yX2_tellDoubt cX2_tellDoubt 5 (some .int) rmX2_tellDoubt D ca xa A (zwC ad ca) [.ref (ad 7), .int x1, .int x2, .int x3] σ (zI a) τ := by
  refine z_met (inj := zI) (lv := [(0, .ref (ad 7)), (1, .int x1), (2, .int x2), (3, .int x3)]) (by decide) (Nat.le_of_ble_eq_true rfl) rfl ?_ h
  intro p e s m args below meth c hc hr
  unfold fX2_tellDoubt
  refine z_aload_n hc dX2_tellDoubt_0 0 rfl ?_
  refine gfX2_45 hc dX2_tellDoubt_1 ?_
  refine z_iload_n hc dX2_tellDoubt_4 1 rfl ?_
  refine z_iconst (v := (3 : Int32)) hc dX2_tellDoubt_5 (by decide) ?_
  refine z_imul hc dX2_tellDoubt_6 ?_
  refine z_iload_n hc dX2_tellDoubt_7 2 rfl ?_
  refine z_iadd hc dX2_tellDoubt_8 ?_
  refine z_iaload hc 19 (by decide) rfl dX2_tellDoubt_9 (fun v1 => ?_)
  refine z_istore (lv' := [(4, .int v1), (0, .ref (ad 7)), (1, .int x1), (2, .int x2), (3, .int x3)]) hc dX2_tellDoubt_10 (by decide) rfl ?_
  refine z_iload hc dX2_tellDoubt_12 0 rfl ?_
  refine z_if_ne (tgt := 27) hc dX2_tellDoubt_14 (by decide) ?_ ?_
  · refine z_aload_n hc dX2_tellDoubt_17 1 rfl ?_
    refine gfX2_42 hc dX2_tellDoubt_18 ?_
    refine z_iload_n hc dX2_tellDoubt_21 2 rfl ?_
    refine z_dup2_11 hc dX2_tellDoubt_22 rfl rfl ?_
    refine z_iaload hc 18 (by decide) rfl dX2_tellDoubt_23 (fun v2 => ?_)
    refine z_iconst (v := (1 : Int32)) hc dX2_tellDoubt_24 (by decide) ?_
    refine z_isub hc dX2_tellDoubt_25 ?_
    refine z_iastore hc 18 (by decide) (fun _ _ => rfl) dX2_tellDoubt_26 (fun σ3 => ?_)
    refine z_sub [1, 2, 3, 4, 0] rfl ?_
    exact tX2_tellDoubt_27 hc hr N _ _ _ _ _
  · refine z_sub [1, 2, 3, 4, 0] rfl ?_
    exact tX2_tellDoubt_27 hc hr N _ _ _ _ _
set_option maxRecDepth 100000 in
set_option maxHeartbeats 4000000 in
theorem tX7_doubt {l : Launch} {D : va_G} {ca : Nat → ClassId} {xa ad : Nat → Nat} {A : Nat → Prop} {N : Nat} {x1 : Int32} {x2 : Int32} {x3 : Int32} {σ : zSt} {a : Int32} {τ : zSt} (h : fX7_doubt N x1 x2 x3 σ = some (a, τ)) : zCt l yX7_doubt cX7_doubt 4 (some .int) rmX7_doubt D ca xa A (zwC ad ca) [.ref (ad 0), .int x1, .int x2, .int x3] σ (zI a) τ := by
  refine z_met (inj := zI) (lv := [(0, .ref (ad 0)), (1, .int x1), (2, .int x2), (3, .int x3)]) (by decide) (Nat.le_of_ble_eq_true rfl) rfl ?_ h
  intro p e s m args below meth c hc hr
  unfold fX7_doubt
  refine z_aload_n hc dX7_doubt_0 0 rfl ?_
  refine gfX7_26 hc dX7_doubt_1 ?_
  refine z_iload_n hc dX7_doubt_4 1 rfl ?_
  refine z_runVNi (b0 := ad 7) (As := [.int x1]) (rest := []) hc dX7_doubt_5 (fun _ _ h => tX2_hasStep h) mpX2_hasStep miX2_hasStep kmX7_156 ⟨rfl, rfl, Nat.le_of_ble_eq_true rfl, Nat.le_of_ble_eq_true rfl⟩ ⟨Nat.le_refl _, Nat.le_refl _⟩ zcC_rc7 rfl (Nat.le_of_ble_eq_true rfl) (fun b1 σ2 => ?_)
  refine z_if_eq (tgt := 29) hc dX7_doubt_8 (by decide) ?_ ?_
  · refine z_ldc hc dX7_doubt_29 kcX7_66 ?_
    exact z_iret hc hr dX7_doubt_31
  · refine z_iload_n hc dX7_doubt_11 2 rfl ?_
    refine z_iconst (v := (0 : Int32)) hc dX7_doubt_12 (by decide) ?_
    refine z_aload_n hc dX7_doubt_13 0 rfl ?_
    refine gfX7_26 hc dX7_doubt_14 ?_
    refine z_iload_n hc dX7_doubt_17 1 rfl ?_
    refine z_runVNi (b0 := ad 7) (As := [.int x1]) (rest := [.int (0 : Int32), .int x2]) hc dX7_doubt_18 (fun _ _ h => tX2_doubtsOf h) mpX2_doubtsOf miX2_doubtsOf kmX7_168 ⟨rfl, rfl, Nat.le_of_ble_eq_true rfl, Nat.le_of_ble_eq_true rfl⟩ ⟨Nat.le_refl _, Nat.le_refl _⟩ zcC_rc7 rfl (Nat.le_of_ble_eq_true rfl) (fun b3 σ4 => ?_)
    refine z_iconst (v := (1 : Int32)) hc dX7_doubt_21 (by decide) ?_
    refine z_isub hc dX7_doubt_22 ?_
    refine z_runSi (As := [.int x2, .int (0 : Int32), .int (b3 - (1 : Int32))]) (rest := []) hc dX7_doubt_23 (fun _ _ h => tX7_isWithin h) mpX7_isWithin miX7_isWithin kmX7_62 ⟨rfl, rfl, Nat.le_of_ble_eq_true rfl, Nat.le_of_ble_eq_true rfl⟩ ⟨Nat.le_refl _, Nat.le_refl _⟩ rfl (Nat.le_of_ble_eq_true rfl) (fun b5 σ6 => ?_)
    refine z_if_ne (tgt := 32) hc dX7_doubt_26 (by decide) ?_ ?_
    · refine z_ldc hc dX7_doubt_29 kcX7_66 ?_
      exact z_iret hc hr dX7_doubt_31
    · refine z_iload_n hc dX7_doubt_32 3 rfl ?_
      refine z_iconst (v := (0 : Int32)) hc dX7_doubt_33 (by decide) ?_
      refine z_bipush (v := (11 : Int32)) hc dX7_doubt_34 (by decide) ?_
      refine z_runSi (As := [.int x3, .int (0 : Int32), .int (11 : Int32)]) (rest := []) hc dX7_doubt_36 (fun _ _ h => tX7_isWithin h) mpX7_isWithin miX7_isWithin kmX7_62 ⟨rfl, rfl, Nat.le_of_ble_eq_true rfl, Nat.le_of_ble_eq_true rfl⟩ ⟨Nat.le_refl _, Nat.le_refl _⟩ rfl (Nat.le_of_ble_eq_true rfl) (fun b7 σ8 => ?_)
      refine z_if_ne (tgt := 45) hc dX7_doubt_39 (by decide) ?_ ?_
      · refine z_ldc hc dX7_doubt_42 kcX7_66 ?_
        exact z_iret hc hr dX7_doubt_44
      · refine z_aload_n hc dX7_doubt_45 0 rfl ?_
        refine gfX7_26 hc dX7_doubt_46 ?_
        refine z_iload_n hc dX7_doubt_49 1 rfl ?_
        refine z_iload_n hc dX7_doubt_50 2 rfl ?_
        refine z_iload_n hc dX7_doubt_51 3 rfl ?_
        refine z_runVNi (b0 := ad 7) (As := [.int x1, .int x2, .int x3]) (rest := []) hc dX7_doubt_52 (fun _ _ h => tX2_tellDoubt h) mpX2_tellDoubt miX2_tellDoubt kmX7_180 ⟨rfl, rfl, Nat.le_of_ble_eq_true rfl, Nat.le_of_ble_eq_true rfl⟩ ⟨Nat.le_refl _, Nat.le_refl _⟩ zcC_rc7 rfl (Nat.le_of_ble_eq_true rfl) (fun b9 σ10 => ?_)
        exact z_iret hc hr dX7_doubt_55
set_option maxRecDepth 100000 in
set_option maxHeartbeats 4000000 in
theorem tX8_doubt {l : Launch} {D : va_G} {ca : Nat → ClassId} {xa ad : Nat → Nat} {A : Nat → Prop} {N : Nat} {x1 : Int32} {x2 : Int32} {x3 : Int32} {σ : zSt} {a : Int32} {τ : zSt} (h : fX8_doubt N x1 x2 x3 σ = some (a, τ)) : zCt l yX8_doubt cX8_doubt 5 (some .int) rmX8_doubt D ca xa A (zwM ad ca) [.ref (ad 0), .int x1, .int x2, .int x3] σ (zI a) τ := by
  refine z_met (inj := zI) (lv := [(0, .ref (ad 0)), (1, .int x1), (2, .int x2), (3, .int x3)]) (by decide) (Nat.le_of_ble_eq_true rfl) rfl ?_ h
  intro p e s m args below meth c hc hr
  unfold fX8_doubt
  refine z_aload_n hc dX8_doubt_0 0 rfl ?_
  refine z_iconst (v := (0 : Int32)) hc dX8_doubt_1 (by decide) ?_
  refine pfX8_78 hc dX8_doubt_2 (fun σ1 => ?_)
  refine z_aload_n hc dX8_doubt_5 0 rfl ?_
  refine z_iload_n hc dX8_doubt_6 1 rfl ?_
  refine z_runVi (b0 := ad 0) (As := [.int x1]) (rest := []) hc dX8_doubt_7 (fun _ _ h => tX8_isStep h) mpX8_isStep miX8_isStep kmX8_256 ⟨rfl, rfl, Nat.le_of_ble_eq_true rfl, Nat.le_of_ble_eq_true rfl⟩ ⟨Nat.le_refl _, Nat.le_refl _⟩ zcM_rc0 rfl (Nat.le_of_ble_eq_true rfl) (fun b2 σ3 => ?_)
  refine z_if_eq (tgt := 46) hc dX8_doubt_10 (by decide) ?_ ?_
  · refine z_ldc hc dX8_doubt_46 kcX8_98 ?_
    exact z_iret hc hr dX8_doubt_48
  · refine z_iload_n hc dX8_doubt_13 2 rfl ?_
    refine z_i2l hc dX8_doubt_14 ?_
    refine z_lconst (v := (0 : Int64)) hc dX8_doubt_15 (by decide) ?_
    refine z_aload_n hc dX8_doubt_16 0 rfl ?_
    refine gfX8_35 hc dX8_doubt_17 ?_
    refine z_iload_n hc dX8_doubt_20 1 rfl ?_
    refine z_iaload hc 9 (by decide) rfl dX8_doubt_21 (fun v4 => ?_)
    refine z_runSi (As := [.int v4]) (rest := [.long (0 : Int64), .long x2.toInt64]) hc dX8_doubt_22 (fun _ _ h => tX8_doubtsOf h) mpX8_doubtsOf miX8_doubtsOf kmX8_213 ⟨rfl, rfl, Nat.le_of_ble_eq_true rfl, Nat.le_of_ble_eq_true rfl⟩ ⟨Nat.le_refl _, Nat.le_refl _⟩ rfl (Nat.le_of_ble_eq_true rfl) (fun b5 σ6 => ?_)
    refine z_iconst (v := (1 : Int32)) hc dX8_doubt_25 (by decide) ?_
    refine z_isub hc dX8_doubt_26 ?_
    refine z_i2l hc dX8_doubt_27 ?_
    refine z_runSi (As := [.long x2.toInt64, .long (0 : Int64), .long (b5 - (1 : Int32)).toInt64]) (rest := []) hc dX8_doubt_28 (fun _ _ h => tX8_in h) mpX8_in miX8_in kmX8_88 ⟨rfl, rfl, Nat.le_of_ble_eq_true rfl, Nat.le_of_ble_eq_true rfl⟩ ⟨Nat.le_refl _, Nat.le_refl _⟩ rfl (Nat.le_of_ble_eq_true rfl) (fun b7 σ8 => ?_)
    refine z_if_eq (tgt := 46) hc dX8_doubt_31 (by decide) ?_ ?_
    · refine z_ldc hc dX8_doubt_46 kcX8_98 ?_
      exact z_iret hc hr dX8_doubt_48
    · refine z_iload_n hc dX8_doubt_34 3 rfl ?_
      refine z_i2l hc dX8_doubt_35 ?_
      refine z_lconst (v := (0 : Int64)) hc dX8_doubt_36 (by decide) ?_
      refine z_ldc2 hc dX8_doubt_37 kcX8_259 ?_
      refine z_runSi (As := [.long x3.toInt64, .long (0 : Int64), .long (11 : Int64)]) (rest := []) hc dX8_doubt_40 (fun _ _ h => tX8_in h) mpX8_in miX8_in kmX8_88 ⟨rfl, rfl, Nat.le_of_ble_eq_true rfl, Nat.le_of_ble_eq_true rfl⟩ ⟨Nat.le_refl _, Nat.le_refl _⟩ rfl (Nat.le_of_ble_eq_true rfl) (fun b9 σ10 => ?_)
      refine z_if_ne (tgt := 49) hc dX8_doubt_43 (by decide) ?_ ?_
      · refine z_ldc hc dX8_doubt_46 kcX8_98 ?_
        exact z_iret hc hr dX8_doubt_48
      · refine z_aload_n hc dX8_doubt_49 0 rfl ?_
        refine gfX8_47 hc dX8_doubt_50 ?_
        refine z_iconst (v := (3 : Int32)) hc dX8_doubt_53 (by decide) ?_
        refine z_iload_n hc dX8_doubt_54 1 rfl ?_
        refine z_imul hc dX8_doubt_55 ?_
        refine z_iload_n hc dX8_doubt_56 2 rfl ?_
        refine z_iadd hc dX8_doubt_57 ?_
        refine z_iaload hc 13 (by decide) rfl dX8_doubt_58 (fun v11 => ?_)
        refine z_istore (lv' := [(4, .int v11), (0, .ref (ad 0)), (1, .int x1), (2, .int x2), (3, .int x3)]) hc dX8_doubt_59 (by decide) rfl ?_
        refine z_aload_n hc dX8_doubt_61 1 rfl ?_
        refine gfX8_47 hc dX8_doubt_62 ?_
        refine z_iconst (v := (3 : Int32)) hc dX8_doubt_65 (by decide) ?_
        refine z_iload_n hc dX8_doubt_66 2 rfl ?_
        refine z_imul hc dX8_doubt_67 ?_
        refine z_iload_n hc dX8_doubt_68 3 rfl ?_
        refine z_iadd hc dX8_doubt_69 ?_
        refine z_iload_n hc dX8_doubt_70 4 rfl ?_
        refine z_iastore hc 13 (by decide) (fun _ _ => rfl) dX8_doubt_71 (fun σ12 => ?_)
        refine z_iload hc dX8_doubt_72 0 rfl ?_
        exact z_iret hc hr dX8_doubt_74
set_option maxRecDepth 100000 in
set_option maxHeartbeats 4000000 in
theorem tX2_doubtsToldAs_15 {p : Program} {l : Launch} {e : Env} {s : State} {m : MethodId} {args : Array Value} {below : List Frame} {meth : Method} {c : Code} {D : va_G} {ca : Nat → ClassId} {xa ad : Nat → Nat} {A : Nat → Prop} (hc : zCx p s m args meth c cX2_doubtsToldAs 5 RX2 D ca xa A (zwC ad ca)) (hr : meth.sig.returnType = (some .int)) (N : Nat) (k4 : Int32 → Int32 → Int32 → zSt → Option (Int32 × zSt)) (hk4 : ∀ (x1 : Int32) (x2 : Int32) (x3 : Int32) (σ : zSt), zGO p l e rmX2_doubtsToldAs s m args below meth c 0 0 (zwC ad ca) D A 5 (zQ below D A (zwC ad ca) args s zI) (k4 x1 x2 x3 σ) σ 4 [(0, .ref (ad 7)), (1, .int x1), (2, .int x2), (3, .int x3)] []) : ∀ (n : Nat) (x1 : Int32) (x2 : Int32) (x3 : Int32) (x4 : Int32) (σ : zSt), zGO p l e rmX2_doubtsToldAs s m args below meth c 0 0 (zwC ad ca) D A 5 (zQ below D A (zwC ad ca) args s zI) (fX2_doubtsToldAs_15 N k4 n x1 x2 x3 x4 σ) σ 15 [(0, .ref (ad 7)), (1, .int x1), (2, .int x2), (3, .int x3), (4, .int x4)] [] := by
  intro n
  induction n with
  | zero =>
    intro x1 x2 x3 x4 σ
    exact z_none
  | succ n ih =>
    intro x1 x2 x3 x4 σ
    unfold fX2_doubtsToldAs_15
    refine z_iload hc dX2_doubtsToldAs_15 4 rfl ?_
    refine z_aload_n hc dX2_doubtsToldAs_17 0 rfl ?_
    refine z_iload_n hc dX2_doubtsToldAs_18 3 rfl ?_
    refine z_runVi (b0 := ad 7) (As := [.int x3]) (rest := [.int x4]) hc dX2_doubtsToldAs_19 (fun _ _ h => tX2_doubtsOf h) mpX2_doubtsOf miX2_doubtsOf kmX2_74 ⟨rfl, rfl, Nat.le_of_ble_eq_true rfl, Nat.le_of_ble_eq_true rfl⟩ ⟨Nat.le_refl _, Nat.le_refl _⟩ zcC_rc7 rfl (Nat.le_of_ble_eq_true rfl) (fun b1 σ2 => ?_)
    refine z_icmp_ge (tgt := 49) hc dX2_doubtsToldAs_22 (by decide) ?_ ?_
    · refine z_iinc (v := (x3 + (1 : Int32))) (lv' := [(3, .int (x3 + (1 : Int32))), (0, .ref (ad 7)), (1, .int x1), (2, .int x2), (4, .int x4)]) hc dX2_doubtsToldAs_49 3 rfl rfl (by decide) rfl ?_
      refine z_goto (tgt := 4) hc dX2_doubtsToldAs_52 (by decide) ?_
      refine z_sub [1, 2, 3, 0] rfl ?_
      exact hk4 _ _ _ _
    · refine z_aload_n hc dX2_doubtsToldAs_25 0 rfl ?_
      refine gfX2_45 hc dX2_doubtsToldAs_26 ?_
      refine z_iload_n hc dX2_doubtsToldAs_29 3 rfl ?_
      refine z_iconst (v := (3 : Int32)) hc dX2_doubtsToldAs_30 (by decide) ?_
      refine z_imul hc dX2_doubtsToldAs_31 ?_
      refine z_iload hc dX2_doubtsToldAs_32 4 rfl ?_
      refine z_iadd hc dX2_doubtsToldAs_34 ?_
      refine z_iaload hc 19 (by decide) rfl dX2_doubtsToldAs_35 (fun v3 => ?_)
      refine z_iload_n hc dX2_doubtsToldAs_36 1 rfl ?_
      refine z_icmp_ne (tgt := 43) hc dX2_doubtsToldAs_37 (by decide) ?_ ?_
      · refine z_iinc (v := (x2 + (1 : Int32))) (lv' := [(2, .int (x2 + (1 : Int32))), (0, .ref (ad 7)), (1, .int x1), (3, .int x3), (4, .int x4)]) hc dX2_doubtsToldAs_40 2 rfl rfl (by decide) rfl ?_
        refine z_iinc (v := (x4 + (1 : Int32))) (lv' := [(4, .int (x4 + (1 : Int32))), (2, .int (x2 + (1 : Int32))), (0, .ref (ad 7)), (1, .int x1), (3, .int x3)]) hc dX2_doubtsToldAs_43 4 rfl rfl (by decide) rfl ?_
        refine z_goto (tgt := 15) hc dX2_doubtsToldAs_46 (by decide) ?_
        refine z_sub [2, 3, 1, 4, 0] rfl ?_
        exact ih _ _ _ _ _
      · refine z_iinc (v := (x4 + (1 : Int32))) (lv' := [(4, .int (x4 + (1 : Int32))), (0, .ref (ad 7)), (1, .int x1), (2, .int x2), (3, .int x3)]) hc dX2_doubtsToldAs_43 4 rfl rfl (by decide) rfl ?_
        refine z_goto (tgt := 15) hc dX2_doubtsToldAs_46 (by decide) ?_
        refine z_sub [1, 2, 3, 4, 0] rfl ?_
        exact ih _ _ _ _ _
set_option maxRecDepth 100000 in
set_option maxHeartbeats 4000000 in
theorem tX2_doubtsToldAs_4 {p : Program} {l : Launch} {e : Env} {s : State} {m : MethodId} {args : Array Value} {below : List Frame} {meth : Method} {c : Code} {D : va_G} {ca : Nat → ClassId} {xa ad : Nat → Nat} {A : Nat → Prop} (hc : zCx p s m args meth c cX2_doubtsToldAs 5 RX2 D ca xa A (zwC ad ca)) (hr : meth.sig.returnType = (some .int)) (N : Nat)   : ∀ (n : Nat) (x1 : Int32) (x2 : Int32) (x3 : Int32) (σ : zSt), zGO p l e rmX2_doubtsToldAs s m args below meth c 0 0 (zwC ad ca) D A 5 (zQ below D A (zwC ad ca) args s zI) (fX2_doubtsToldAs_4 N n x1 x2 x3 σ) σ 4 [(0, .ref (ad 7)), (1, .int x1), (2, .int x2), (3, .int x3)] [] := by
  intro n
  induction n with
  | zero =>
    intro x1 x2 x3 σ
    exact z_none
  | succ n ih =>
    intro x1 x2 x3 σ
    unfold fX2_doubtsToldAs_4
    refine z_iload_n hc dX2_doubtsToldAs_4 3 rfl ?_
    refine z_aload_n hc dX2_doubtsToldAs_5 0 rfl ?_
    refine gfX2_59 hc dX2_doubtsToldAs_6 ?_
    refine z_icmp_ge (tgt := 55) hc dX2_doubtsToldAs_9 (by decide) ?_ ?_
    · refine z_iload_n hc dX2_doubtsToldAs_55 2 rfl ?_
      exact z_iret hc hr dX2_doubtsToldAs_56
    · refine z_iconst (v := (0 : Int32)) hc dX2_doubtsToldAs_12 (by decide) ?_
      refine z_istore (lv' := [(4, .int (0 : Int32)), (0, .ref (ad 7)), (1, .int x1), (2, .int x2), (3, .int x3)]) hc dX2_doubtsToldAs_13 (by decide) rfl ?_
      refine z_sub [1, 2, 3, 4, 0] rfl ?_
      exact tX2_doubtsToldAs_15 hc hr N _ (ih) N _ _ _ _ _
set_option maxRecDepth 100000 in
set_option maxHeartbeats 4000000 in
theorem tX2_doubtsToldAs {l : Launch} {D : va_G} {ca : Nat → ClassId} {xa ad : Nat → Nat} {A : Nat → Prop} {N : Nat} {x1 : Int32} {σ : zSt} {a : Int32} {τ : zSt} (h : fX2_doubtsToldAs N x1 σ = some (a, τ)) : zCt l yX2_doubtsToldAs cX2_doubtsToldAs 5 (some .int) rmX2_doubtsToldAs D ca xa A (zwC ad ca) [.ref (ad 7), .int x1] σ (zI a) τ := by
  refine z_met (inj := zI) (lv := [(0, .ref (ad 7)), (1, .int x1)]) (by decide) (Nat.le_of_ble_eq_true rfl) rfl ?_ h
  intro p e s m args below meth c hc hr
  unfold fX2_doubtsToldAs
  refine z_iconst (v := (0 : Int32)) hc dX2_doubtsToldAs_0 (by decide) ?_
  refine z_istore_n (lv' := [(2, .int (0 : Int32)), (0, .ref (ad 7)), (1, .int x1)]) hc dX2_doubtsToldAs_1 rfl (by decide) rfl ?_
  refine z_iconst (v := (0 : Int32)) hc dX2_doubtsToldAs_2 (by decide) ?_
  refine z_istore_n (lv' := [(3, .int (0 : Int32)), (2, .int (0 : Int32)), (0, .ref (ad 7)), (1, .int x1)]) hc dX2_doubtsToldAs_3 rfl (by decide) rfl ?_
  refine z_sub [2, 3, 1, 0] rfl ?_
  exact tX2_doubtsToldAs_4 hc hr N N _ _ _ _
set_option maxRecDepth 100000 in
set_option maxHeartbeats 4000000 in
theorem tX7_borne {l : Launch} {D : va_G} {ca : Nat → ClassId} {xa ad : Nat → Nat} {A : Nat → Prop} {N : Nat} {x1 : Int32} {σ : zSt} {a : Int32} {τ : zSt} (h : fX7_borne N x1 σ = some (a, τ)) : zCt l yX7_borne cX7_borne 2 (some .int) rmX7_borne D ca xa A (zwC ad ca) [.ref (ad 0), .int x1] σ (zI a) τ := by
  refine z_met (inj := zI) (lv := [(0, .ref (ad 0)), (1, .int x1)]) (by decide) (Nat.le_of_ble_eq_true rfl) rfl ?_ h
  intro p e s m args below meth c hc hr
  unfold fX7_borne
  refine z_iload_n hc dX7_borne_0 1 rfl ?_
  refine z_iconst (v := (0 : Int32)) hc dX7_borne_1 (by decide) ?_
  refine z_bipush (v := (9 : Int32)) hc dX7_borne_2 (by decide) ?_
  refine z_runSi (As := [.int x1, .int (0 : Int32), .int (9 : Int32)]) (rest := []) hc dX7_borne_4 (fun _ _ h => tX7_isWithin h) mpX7_isWithin miX7_isWithin kmX7_62 ⟨rfl, rfl, Nat.le_of_ble_eq_true rfl, Nat.le_of_ble_eq_true rfl⟩ ⟨Nat.le_refl _, Nat.le_refl _⟩ rfl (Nat.le_of_ble_eq_true rfl) (fun b1 σ2 => ?_)
  refine z_if_ne (tgt := 13) hc dX7_borne_7 (by decide) ?_ ?_
  · refine z_ldc hc dX7_borne_10 kcX7_66 ?_
    exact z_iret hc hr dX7_borne_12
  · refine z_aload_n hc dX7_borne_13 0 rfl ?_
    refine gfX7_26 hc dX7_borne_14 ?_
    refine z_iconst (v := (2 : Int32)) hc dX7_borne_17 (by decide) ?_
    refine z_iload_n hc dX7_borne_18 1 rfl ?_
    refine z_iadd hc dX7_borne_19 ?_
    refine z_runVNi (b0 := ad 7) (As := [.int ((2 : Int32) + x1)]) (rest := []) hc dX7_borne_20 (fun _ _ h => tX2_doubtsToldAs h) mpX2_doubtsToldAs miX2_doubtsToldAs kmX7_183 ⟨rfl, rfl, Nat.le_of_ble_eq_true rfl, Nat.le_of_ble_eq_true rfl⟩ ⟨Nat.le_refl _, Nat.le_refl _⟩ zcC_rc7 rfl (Nat.le_of_ble_eq_true rfl) (fun b3 σ4 => ?_)
    exact z_iret hc hr dX7_borne_23
set_option maxRecDepth 100000 in
set_option maxHeartbeats 4000000 in
theorem tX8_borne_52 {p : Program} {l : Launch} {e : Env} {s : State} {m : MethodId} {args : Array Value} {below : List Frame} {meth : Method} {c : Code} {D : va_G} {ca : Nat → ClassId} {xa ad : Nat → Nat} {A : Nat → Prop} (hc : zCx p s m args meth c cX8_borne 4 RX8 D ca xa A (zwM ad ca)) (hr : meth.sig.returnType = (some .int)) (N : Nat) (k24 : Int32 → Int32 → Int32 → zSt → Option (Int32 × zSt)) (hk24 : ∀ (x1 : Int32) (x2 : Int32) (x3 : Int32) (σ : zSt), zGO p l e rmX8_borne s m args below meth c 0 0 (zwM ad ca) D A 4 (zQ below D A (zwM ad ca) args s zI) (k24 x1 x2 x3 σ) σ 24 [(0, .ref (ad 0)), (1, .int x1), (2, .int x2), (3, .int x3)] []) (x1 : Int32) (x3 : Int32) (s0 : Int32) (s1 : Int32) (σ : zSt) : zGO p l e rmX8_borne s m args below meth c 0 0 (zwM ad ca) D A 4 (zQ below D A (zwM ad ca) args s zI) (fX8_borne_52 N k24 x1 x3 s0 s1 σ) σ 52 [(0, .ref (ad 0)), (1, .int x1), (3, .int x3)] [.int s0, .int s1] := by
  unfold fX8_borne_52
  refine z_iadd hc dX8_borne_52 ?_
  refine z_nm (fun v1 => ?_)
  refine z_istore_n (lv' := [(2, .int v1), (0, .ref (ad 0)), (1, .int x1), (3, .int x3)]) hc dX8_borne_53 rfl (by decide) rfl ?_
  refine z_iinc (v := (x3 + (1 : Int32))) (lv' := [(3, .int (x3 + (1 : Int32))), (2, .int v1), (0, .ref (ad 0)), (1, .int x1)]) hc dX8_borne_54 3 rfl rfl (by decide) rfl ?_
  refine z_goto (tgt := 24) hc dX8_borne_57 (by decide) ?_
  refine z_sub [2, 3, 1, 0] rfl ?_
  exact hk24 _ _ _ _
set_option maxRecDepth 100000 in
set_option maxHeartbeats 4000000 in
theorem tX8_borne_24 {p : Program} {l : Launch} {e : Env} {s : State} {m : MethodId} {args : Array Value} {below : List Frame} {meth : Method} {c : Code} {D : va_G} {ca : Nat → ClassId} {xa ad : Nat → Nat} {A : Nat → Prop} (hc : zCx p s m args meth c cX8_borne 4 RX8 D ca xa A (zwM ad ca)) (hr : meth.sig.returnType = (some .int)) (N : Nat)   : ∀ (n : Nat) (x1 : Int32) (x2 : Int32) (x3 : Int32) (σ : zSt), zGO p l e rmX8_borne s m args below meth c 0 0 (zwM ad ca) D A 4 (zQ below D A (zwM ad ca) args s zI) (fX8_borne_24 N n x1 x2 x3 σ) σ 24 [(0, .ref (ad 0)), (1, .int x1), (2, .int x2), (3, .int x3)] [] := by
  intro n
  induction n with
  | zero =>
    intro x1 x2 x3 σ
    exact z_none
  | succ n ih =>
    intro x1 x2 x3 σ
    unfold fX8_borne_24
    refine z_iload_n hc dX8_borne_24 3 rfl ?_
    refine z_iconst (v := (3 : Int32)) hc dX8_borne_25 (by decide) ?_
    refine z_aload_n hc dX8_borne_26 0 rfl ?_
    refine gfX8_188 hc dX8_borne_27 ?_
    refine z_imul hc dX8_borne_30 ?_
    refine z_icmp_ge (tgt := 60) hc dX8_borne_31 (by decide) ?_ ?_
    · refine z_iload_n hc dX8_borne_60 2 rfl ?_
      exact z_iret hc hr dX8_borne_61
    · refine z_iload_n hc dX8_borne_34 2 rfl ?_
      refine z_aload_n hc dX8_borne_35 0 rfl ?_
      refine gfX8_47 hc dX8_borne_36 ?_
      refine z_iload_n hc dX8_borne_39 3 rfl ?_
      refine z_iaload hc 13 (by decide) rfl dX8_borne_40 (fun v1 => ?_)
      refine z_iconst (v := (2 : Int32)) hc dX8_borne_41 (by decide) ?_
      refine z_iload_n hc dX8_borne_42 1 rfl ?_
      refine z_iadd hc dX8_borne_43 ?_
      refine z_icmp_ne (tgt := 51) hc dX8_borne_44 (by decide) ?_ ?_
      · refine z_iconst (v := (1 : Int32)) hc dX8_borne_47 (by decide) ?_
        refine z_goto (tgt := 52) hc dX8_borne_48 (by decide) ?_
        refine z_sub [0, 1, 3] rfl ?_
        exact tX8_borne_52 hc hr N _ (ih) _ _ _ _ _
      · refine z_iconst (v := (0 : Int32)) hc dX8_borne_51 (by decide) ?_
        refine z_sub [0, 1, 3] rfl ?_
        exact tX8_borne_52 hc hr N _ (ih) _ _ _ _ _
set_option maxRecDepth 100000 in
set_option maxHeartbeats 4000000 in
theorem tX8_borne {l : Launch} {D : va_G} {ca : Nat → ClassId} {xa ad : Nat → Nat} {A : Nat → Prop} {N : Nat} {x1 : Int32} {σ : zSt} {a : Int32} {τ : zSt} (h : fX8_borne N x1 σ = some (a, τ)) : zCt l yX8_borne cX8_borne 4 (some .int) rmX8_borne D ca xa A (zwM ad ca) [.ref (ad 0), .int x1] σ (zI a) τ := by
  refine z_met (inj := zI) (lv := [(0, .ref (ad 0)), (1, .int x1)]) (by decide) (Nat.le_of_ble_eq_true rfl) rfl ?_ h
  intro p e s m args below meth c hc hr
  unfold fX8_borne
  refine z_aload_n hc dX8_borne_0 0 rfl ?_
  refine z_iconst (v := (0 : Int32)) hc dX8_borne_1 (by decide) ?_
  refine pfX8_78 hc dX8_borne_2 (fun σ1 => ?_)
  refine z_iload_n hc dX8_borne_5 1 rfl ?_
  refine z_i2l hc dX8_borne_6 ?_
  refine z_lconst (v := (0 : Int64)) hc dX8_borne_7 (by decide) ?_
  refine z_ldc2 hc dX8_borne_8 kcX8_261 ?_
  refine z_runSi (As := [.long x1.toInt64, .long (0 : Int64), .long (9 : Int64)]) (rest := []) hc dX8_borne_11 (fun _ _ h => tX8_in h) mpX8_in miX8_in kmX8_88 ⟨rfl, rfl, Nat.le_of_ble_eq_true rfl, Nat.le_of_ble_eq_true rfl⟩ ⟨Nat.le_refl _, Nat.le_refl _⟩ rfl (Nat.le_of_ble_eq_true rfl) (fun b2 σ3 => ?_)
  refine z_if_ne (tgt := 20) hc dX8_borne_14 (by decide) ?_ ?_
  · refine z_ldc hc dX8_borne_17 kcX8_98 ?_
    exact z_iret hc hr dX8_borne_19
  · refine z_iconst (v := (0 : Int32)) hc dX8_borne_20 (by decide) ?_
    refine z_istore_n (lv' := [(2, .int (0 : Int32)), (0, .ref (ad 0)), (1, .int x1)]) hc dX8_borne_21 rfl (by decide) rfl ?_
    refine z_iconst (v := (0 : Int32)) hc dX8_borne_22 (by decide) ?_
    refine z_istore_n (lv' := [(3, .int (0 : Int32)), (2, .int (0 : Int32)), (0, .ref (ad 0)), (1, .int x1)]) hc dX8_borne_23 rfl (by decide) rfl ?_
    refine z_sub [2, 3, 1, 0] rfl ?_
    exact tX8_borne_24 hc hr N N _ _ _ _
set_option maxRecDepth 100000 in
set_option maxHeartbeats 4000000 in
theorem tX3_itemAt {l : Launch} {D : va_G} {ca : Nat → ClassId} {xa ad : Nat → Nat} {A : Nat → Prop} {N : Nat} {x1 : Int32} {x2 : Int32} {σ : zSt} {a : Int32} {τ : zSt} (h : fX3_itemAt N x1 x2 σ = some (a, τ)) : zCt l yX3_itemAt cX3_itemAt 3 (some .int) rmX3_itemAt D ca xa A (zwC ad ca) [.ref (ad 1), .int x1, .int x2] σ (zI a) τ := by
  refine z_met (inj := zI) (lv := [(0, .ref (ad 1)), (1, .int x1), (2, .int x2)]) (by decide) (Nat.le_of_ble_eq_true rfl) rfl ?_ h
  intro p e s m args below meth c hc hr
  unfold fX3_itemAt
  refine z_aload_n hc dX3_itemAt_0 0 rfl ?_
  refine gfX3_9 hc dX3_itemAt_1 ?_
  refine z_iload_n hc dX3_itemAt_4 1 rfl ?_
  refine z_bipush (v := (40 : Int32)) hc dX3_itemAt_5 (by decide) ?_
  refine z_imul hc dX3_itemAt_7 ?_
  refine z_iload_n hc dX3_itemAt_8 2 rfl ?_
  refine z_iadd hc dX3_itemAt_9 ?_
  refine z_iaload hc 2 (by decide) rfl dX3_itemAt_10 (fun v1 => ?_)
  exact z_iret hc hr dX3_itemAt_11
set_option maxRecDepth 100000 in
set_option maxHeartbeats 4000000 in
theorem tX2_isGround {l : Launch} {D : va_G} {ca : Nat → ClassId} {xa ad : Nat → Nat} {A : Nat → Prop} {N : Nat} {x1 : Int32} {σ : zSt} {a : Int32} {τ : zSt} (h : fX2_isGround N x1 σ = some (a, τ)) : zCt l yX2_isGround cX2_isGround 2 (some .boolean) rmX2_isGround D ca xa A (zwC ad ca) [.ref (ad 7), .int x1] σ (zI a) τ := by
  refine z_met (inj := zI) (lv := [(0, .ref (ad 7)), (1, .int x1)]) (by decide) (Nat.le_of_ble_eq_true rfl) rfl ?_ h
  intro p e s m args below meth c hc hr
  unfold fX2_isGround
  refine z_aload_n hc dX2_isGround_0 0 rfl ?_
  refine z_iload_n hc dX2_isGround_1 1 rfl ?_
  refine z_runVi (b0 := ad 7) (As := [.int x1]) (rest := []) hc dX2_isGround_2 (fun _ _ h => tX2_hasNode h) mpX2_hasNode miX2_hasNode kmX2_55 ⟨rfl, rfl, Nat.le_of_ble_eq_true rfl, Nat.le_of_ble_eq_true rfl⟩ ⟨Nat.le_refl _, Nat.le_refl _⟩ zcC_rc7 rfl (Nat.le_of_ble_eq_true rfl) (fun b1 σ2 => ?_)
  refine z_if_eq (tgt := 22) hc dX2_isGround_5 (by decide) ?_ ?_
  · refine z_iconst (v := (0 : Int32)) hc dX2_isGround_22 (by decide) ?_
    exact z_zret hc hr dX2_isGround_23
  · refine z_aload_n hc dX2_isGround_8 0 rfl ?_
    refine gfX2_9 hc dX2_isGround_9 ?_
    refine z_iload_n hc dX2_isGround_12 1 rfl ?_
    refine z_iaload hc 8 (by decide) rfl dX2_isGround_13 (fun v3 => ?_)
    refine z_iconst (v := (2 : Int32)) hc dX2_isGround_14 (by decide) ?_
    refine z_icmp_eq (tgt := 22) hc dX2_isGround_15 (by decide) ?_ ?_
    · refine z_iconst (v := (0 : Int32)) hc dX2_isGround_22 (by decide) ?_
      exact z_zret hc hr dX2_isGround_23
    · refine z_iconst (v := (1 : Int32)) hc dX2_isGround_18 (by decide) ?_
      refine z_goto (tgt := 23) hc dX2_isGround_19 (by decide) ?_
      exact z_zret hc hr dX2_isGround_23
set_option maxRecDepth 100000 in
set_option maxHeartbeats 4000000 in
theorem tX7_isLook {l : Launch} {D : va_G} {ca : Nat → ClassId} {xa ad : Nat → Nat} {A : Nat → Prop} {N : Nat} {x1 : Int32} {x2 : Int32} {σ : zSt} {a : Int32} {τ : zSt} (h : fX7_isLook N x1 x2 σ = some (a, τ)) : zCt l yX7_isLook cX7_isLook 3 (some .boolean) rmX7_isLook D ca xa A (zwC ad ca) [.ref (ad 0), .int x1, .int x2] σ (zI a) τ := by
  refine z_met (inj := zI) (lv := [(0, .ref (ad 0)), (1, .int x1), (2, .int x2)]) (by decide) (Nat.le_of_ble_eq_true rfl) rfl ?_ h
  intro p e s m args below meth c hc hr
  unfold fX7_isLook
  refine z_aload_n hc dX7_isLook_0 0 rfl ?_
  refine gfX7_26 hc dX7_isLook_1 ?_
  refine z_aload_n hc dX7_isLook_4 0 rfl ?_
  refine gfX7_10 hc dX7_isLook_5 ?_
  refine z_iload_n hc dX7_isLook_8 1 rfl ?_
  refine z_iload_n hc dX7_isLook_9 2 rfl ?_
  refine z_runVNi (b0 := ad 1) (As := [.int x1, .int x2]) (rest := [.ref (ad 7)]) hc dX7_isLook_10 (fun _ _ h => tX3_itemAt h) mpX3_itemAt miX3_itemAt kmX7_307 ⟨rfl, rfl, Nat.le_of_ble_eq_true rfl, Nat.le_of_ble_eq_true rfl⟩ ⟨Nat.le_refl _, Nat.le_refl _⟩ zcC_rc1 rfl (Nat.le_of_ble_eq_true rfl) (fun b1 σ2 => ?_)
  refine z_runVNi (b0 := ad 7) (As := [.int b1]) (rest := []) hc dX7_isLook_13 (fun _ _ h => tX2_isGround h) mpX2_isGround miX2_isGround kmX7_192 ⟨rfl, rfl, Nat.le_of_ble_eq_true rfl, Nat.le_of_ble_eq_true rfl⟩ ⟨Nat.le_refl _, Nat.le_refl _⟩ zcC_rc7 rfl (Nat.le_of_ble_eq_true rfl) (fun b3 σ4 => ?_)
  refine z_if_eq (tgt := 65) hc dX7_isLook_16 (by decide) ?_ ?_
  · refine z_iconst (v := (0 : Int32)) hc dX7_isLook_65 (by decide) ?_
    exact z_zret hc hr dX7_isLook_66
  · refine z_aload_n hc dX7_isLook_19 0 rfl ?_
    refine gfX7_10 hc dX7_isLook_20 ?_
    refine z_iload_n hc dX7_isLook_23 1 rfl ?_
    refine z_iload_n hc dX7_isLook_24 2 rfl ?_
    refine z_iconst (v := (1 : Int32)) hc dX7_isLook_25 (by decide) ?_
    refine z_iadd hc dX7_isLook_26 ?_
    refine z_runVNi (b0 := ad 1) (As := [.int x1, .int (x2 + (1 : Int32))]) (rest := []) hc dX7_isLook_27 (fun _ _ h => tX3_itemAt h) mpX3_itemAt miX3_itemAt kmX7_307 ⟨rfl, rfl, Nat.le_of_ble_eq_true rfl, Nat.le_of_ble_eq_true rfl⟩ ⟨Nat.le_refl _, Nat.le_refl _⟩ zcC_rc1 rfl (Nat.le_of_ble_eq_true rfl) (fun b5 σ6 => ?_)
    refine z_iconst (v := (0 : Int32)) hc dX7_isLook_30 (by decide) ?_
    refine z_sipush (v := (9999 : Int32)) hc dX7_isLook_31 (by decide) ?_
    refine z_runSi (As := [.int b5, .int (0 : Int32), .int (9999 : Int32)]) (rest := []) hc dX7_isLook_34 (fun _ _ h => tX7_isWithin h) mpX7_isWithin miX7_isWithin kmX7_62 ⟨rfl, rfl, Nat.le_of_ble_eq_true rfl, Nat.le_of_ble_eq_true rfl⟩ ⟨Nat.le_refl _, Nat.le_refl _⟩ rfl (Nat.le_of_ble_eq_true rfl) (fun b7 σ8 => ?_)
    refine z_if_eq (tgt := 65) hc dX7_isLook_37 (by decide) ?_ ?_
    · refine z_iconst (v := (0 : Int32)) hc dX7_isLook_65 (by decide) ?_
      exact z_zret hc hr dX7_isLook_66
    · refine z_aload_n hc dX7_isLook_40 0 rfl ?_
      refine gfX7_10 hc dX7_isLook_41 ?_
      refine z_iload_n hc dX7_isLook_44 1 rfl ?_
      refine z_iload_n hc dX7_isLook_45 2 rfl ?_
      refine z_iconst (v := (2 : Int32)) hc dX7_isLook_46 (by decide) ?_
      refine z_iadd hc dX7_isLook_47 ?_
      refine z_runVNi (b0 := ad 1) (As := [.int x1, .int (x2 + (2 : Int32))]) (rest := []) hc dX7_isLook_48 (fun _ _ h => tX3_itemAt h) mpX3_itemAt miX3_itemAt kmX7_307 ⟨rfl, rfl, Nat.le_of_ble_eq_true rfl, Nat.le_of_ble_eq_true rfl⟩ ⟨Nat.le_refl _, Nat.le_refl _⟩ zcC_rc1 rfl (Nat.le_of_ble_eq_true rfl) (fun b9 σ10 => ?_)
      refine z_iconst (v := (0 : Int32)) hc dX7_isLook_51 (by decide) ?_
      refine z_sipush (v := (9999 : Int32)) hc dX7_isLook_52 (by decide) ?_
      refine z_runSi (As := [.int b9, .int (0 : Int32), .int (9999 : Int32)]) (rest := []) hc dX7_isLook_55 (fun _ _ h => tX7_isWithin h) mpX7_isWithin miX7_isWithin kmX7_62 ⟨rfl, rfl, Nat.le_of_ble_eq_true rfl, Nat.le_of_ble_eq_true rfl⟩ ⟨Nat.le_refl _, Nat.le_refl _⟩ rfl (Nat.le_of_ble_eq_true rfl) (fun b11 σ12 => ?_)
      refine z_if_eq (tgt := 65) hc dX7_isLook_58 (by decide) ?_ ?_
      · refine z_iconst (v := (0 : Int32)) hc dX7_isLook_65 (by decide) ?_
        exact z_zret hc hr dX7_isLook_66
      · refine z_iconst (v := (1 : Int32)) hc dX7_isLook_61 (by decide) ?_
        refine z_goto (tgt := 66) hc dX7_isLook_62 (by decide) ?_
        exact z_zret hc hr dX7_isLook_66
set_option maxRecDepth 100000 in
set_option maxHeartbeats 4000000 in
theorem tX7_tellLook {l : Launch} {D : va_G} {ca : Nat → ClassId} {xa ad : Nat → Nat} {A : Nat → Prop} {N : Nat} {x1 : Int32} {x2 : Int32} {σ : zSt} {a : Unit} {τ : zSt} (h : fX7_tellLook N x1 x2 σ = some (a, τ)) : zCt l yX7_tellLook cX7_tellLook 4 none rmX7_tellLook D ca xa A (zwC ad ca) [.ref (ad 0), .int x1, .int x2] σ (zV a) τ := by
  refine z_met (inj := zV) (lv := [(0, .ref (ad 0)), (1, .int x1), (2, .int x2)]) (by decide) (Nat.le_of_ble_eq_true rfl) rfl ?_ h
  intro p e s m args below meth c hc hr
  unfold fX7_tellLook
  refine z_aload_n hc dX7_tellLook_0 0 rfl ?_
  refine gfX7_10 hc dX7_tellLook_1 ?_
  refine z_iload_n hc dX7_tellLook_4 1 rfl ?_
  refine z_iload_n hc dX7_tellLook_5 2 rfl ?_
  refine z_runVNi (b0 := ad 1) (As := [.int x1, .int x2]) (rest := []) hc dX7_tellLook_6 (fun _ _ h => tX3_itemAt h) mpX3_itemAt miX3_itemAt kmX7_307 ⟨rfl, rfl, Nat.le_of_ble_eq_true rfl, Nat.le_of_ble_eq_true rfl⟩ ⟨Nat.le_refl _, Nat.le_refl _⟩ zcC_rc1 rfl (Nat.le_of_ble_eq_true rfl) (fun b1 σ2 => ?_)
  refine z_istore_n (lv' := [(3, .int b1), (0, .ref (ad 0)), (1, .int x1), (2, .int x2)]) hc dX7_tellLook_9 rfl (by decide) rfl ?_
  refine z_aload_n hc dX7_tellLook_10 1 rfl ?_
  refine gfX7_26 hc dX7_tellLook_11 ?_
  refine z_iload_n hc dX7_tellLook_14 0 rfl ?_
  refine z_runVNi (b0 := ad 7) (As := [.int b1]) (rest := []) hc dX7_tellLook_15 (fun _ _ h => tX2_isGround h) mpX2_isGround miX2_isGround kmX7_192 ⟨rfl, rfl, Nat.le_of_ble_eq_true rfl, Nat.le_of_ble_eq_true rfl⟩ ⟨Nat.le_refl _, Nat.le_refl _⟩ zcC_rc7 rfl (Nat.le_of_ble_eq_true rfl) (fun b3 σ4 => ?_)
  refine z_if_ne (tgt := 22) hc dX7_tellLook_18 (by decide) ?_ ?_
  · exact z_vret hc hr dX7_tellLook_21
  · refine z_aload_n hc dX7_tellLook_22 1 rfl ?_
    refine gfX7_26 hc dX7_tellLook_23 ?_
    refine gfX7_139 hc dX7_tellLook_26 ?_
    refine z_iload_n hc dX7_tellLook_29 0 rfl ?_
    refine z_aload_n hc dX7_tellLook_30 1 rfl ?_
    refine gfX7_10 hc dX7_tellLook_31 ?_
    refine z_iload_n hc dX7_tellLook_34 2 rfl ?_
    refine z_iload_n hc dX7_tellLook_35 3 rfl ?_
    refine z_iconst (v := (1 : Int32)) hc dX7_tellLook_36 (by decide) ?_
    refine z_iadd hc dX7_tellLook_37 ?_
    refine z_runVNi (b0 := ad 1) (As := [.int x1, .int (x2 + (1 : Int32))]) (rest := [.int b1, .ref (ad 10)]) hc dX7_tellLook_38 (fun _ _ h => tX3_itemAt h) mpX3_itemAt miX3_itemAt kmX7_307 ⟨rfl, rfl, Nat.le_of_ble_eq_true rfl, Nat.le_of_ble_eq_true rfl⟩ ⟨Nat.le_refl _, Nat.le_refl _⟩ zcC_rc1 rfl (Nat.le_of_ble_eq_true rfl) (fun b5 σ6 => ?_)
    refine z_iastore hc 10 (by decide) (fun _ _ => rfl) dX7_tellLook_41 (fun σ7 => ?_)
    refine z_aload_n hc dX7_tellLook_42 1 rfl ?_
    refine gfX7_26 hc dX7_tellLook_43 ?_
    refine gfX7_142 hc dX7_tellLook_46 ?_
    refine z_iload_n hc dX7_tellLook_49 0 rfl ?_
    refine z_aload_n hc dX7_tellLook_50 1 rfl ?_
    refine gfX7_10 hc dX7_tellLook_51 ?_
    refine z_iload_n hc dX7_tellLook_54 2 rfl ?_
    refine z_iload_n hc dX7_tellLook_55 3 rfl ?_
    refine z_iconst (v := (2 : Int32)) hc dX7_tellLook_56 (by decide) ?_
    refine z_iadd hc dX7_tellLook_57 ?_
    refine z_runVNi (b0 := ad 1) (As := [.int x1, .int (x2 + (2 : Int32))]) (rest := [.int b1, .ref (ad 11)]) hc dX7_tellLook_58 (fun _ _ h => tX3_itemAt h) mpX3_itemAt miX3_itemAt kmX7_307 ⟨rfl, rfl, Nat.le_of_ble_eq_true rfl, Nat.le_of_ble_eq_true rfl⟩ ⟨Nat.le_refl _, Nat.le_refl _⟩ zcC_rc1 rfl (Nat.le_of_ble_eq_true rfl) (fun b8 σ9 => ?_)
    refine z_iastore hc 11 (by decide) (fun _ _ => rfl) dX7_tellLook_61 (fun σ10 => ?_)
    exact z_vret hc hr dX7_tellLook_62
set_option maxRecDepth 100000 in
set_option maxHeartbeats 4000000 in
theorem tX7_looked_97 {p : Program} {l : Launch} {e : Env} {s : State} {m : MethodId} {args : Array Value} {below : List Frame} {meth : Method} {c : Code} {D : va_G} {ca : Nat → ClassId} {xa ad : Nat → Nat} {A : Nat → Prop} (hc : zCx p s m args meth c cX7_looked 5 RX7 D ca xa A (zwC ad ca)) (hr : meth.sig.returnType = (some .int)) (N : Nat)   : ∀ (n : Nat) (x1 : Int32) (x2 : Int32) (x3 : Int32) (x4 : Int32) (σ : zSt), zGO p l e rmX7_looked s m args below meth c 0 0 (zwC ad ca) D A 5 (zQ below D A (zwC ad ca) args s zI) (fX7_looked_97 N n x1 x2 x3 x4 σ) σ 97 [(0, .ref (ad 0)), (1, .int x1), (2, .int x2), (3, .int x3), (4, .int x4)] [] := by
  intro n
  induction n with
  | zero =>
    intro x1 x2 x3 x4 σ
    exact z_none
  | succ n ih =>
    intro x1 x2 x3 x4 σ
    unfold fX7_looked_97
    refine z_iload hc dX7_looked_97 4 rfl ?_
    refine z_iload_n hc dX7_looked_99 3 rfl ?_
    refine z_icmp_ge (tgt := 120) hc dX7_looked_100 (by decide) ?_ ?_
    · refine z_aload_n hc dX7_looked_120 0 rfl ?_
      refine z_iload_n hc dX7_looked_121 3 rfl ?_
      refine z_runVi (b0 := ad 0) (As := [.int x3]) (rest := []) hc dX7_looked_122 (fun _ _ h => tX7_unfound h) mpX7_unfound miX7_unfound kmX7_75 ⟨rfl, rfl, Nat.le_of_ble_eq_true rfl, Nat.le_of_ble_eq_true rfl⟩ ⟨Nat.le_refl _, Nat.le_refl _⟩ zcC_rc0 rfl (Nat.le_of_ble_eq_true rfl) (fun b1 σ2 => ?_)
      exact z_iret hc hr dX7_looked_125
    · refine z_aload_n hc dX7_looked_103 0 rfl ?_
      refine z_iload_n hc dX7_looked_104 1 rfl ?_
      refine z_iload_n hc dX7_looked_105 2 rfl ?_
      refine z_iconst (v := (3 : Int32)) hc dX7_looked_106 (by decide) ?_
      refine z_iload hc dX7_looked_107 4 rfl ?_
      refine z_imul hc dX7_looked_109 ?_
      refine z_iadd hc dX7_looked_110 ?_
      refine z_runVv (b0 := ad 0) (As := [.int x1, .int (x2 + ((3 : Int32) * x4))]) (rest := []) hc dX7_looked_111 (fun _ _ h => tX7_tellLook h) mpX7_tellLook miX7_tellLook kmX7_189 ⟨rfl, rfl, Nat.le_of_ble_eq_true rfl, Nat.le_of_ble_eq_true rfl⟩ ⟨Nat.le_refl _, Nat.le_refl _⟩ zcC_rc0 rfl (Nat.le_of_ble_eq_true rfl) (fun b3 σ4 => ?_)
      refine z_iinc (v := (x4 + (1 : Int32))) (lv' := [(4, .int (x4 + (1 : Int32))), (0, .ref (ad 0)), (1, .int x1), (2, .int x2), (3, .int x3)]) hc dX7_looked_114 4 rfl rfl (by decide) rfl ?_
      refine z_goto (tgt := 97) hc dX7_looked_117 (by decide) ?_
      refine z_sub [1, 2, 3, 4, 0] rfl ?_
      exact ih _ _ _ _ _
set_option maxRecDepth 100000 in
set_option maxHeartbeats 4000000 in
theorem tX7_looked_65 {p : Program} {l : Launch} {e : Env} {s : State} {m : MethodId} {args : Array Value} {below : List Frame} {meth : Method} {c : Code} {D : va_G} {ca : Nat → ClassId} {xa ad : Nat → Nat} {A : Nat → Prop} (hc : zCx p s m args meth c cX7_looked 5 RX7 D ca xa A (zwC ad ca)) (hr : meth.sig.returnType = (some .int)) (N : Nat)   : ∀ (n : Nat) (x1 : Int32) (x2 : Int32) (x3 : Int32) (x4 : Int32) (σ : zSt), zGO p l e rmX7_looked s m args below meth c 0 0 (zwC ad ca) D A 5 (zQ below D A (zwC ad ca) args s zI) (fX7_looked_65 N n x1 x2 x3 x4 σ) σ 65 [(0, .ref (ad 0)), (1, .int x1), (2, .int x2), (3, .int x3), (4, .int x4)] [] := by
  intro n
  induction n with
  | zero =>
    intro x1 x2 x3 x4 σ
    exact z_none
  | succ n ih =>
    intro x1 x2 x3 x4 σ
    unfold fX7_looked_65
    refine z_iload hc dX7_looked_65 4 rfl ?_
    refine z_iload_n hc dX7_looked_67 3 rfl ?_
    refine z_icmp_ge (tgt := 94) hc dX7_looked_68 (by decide) ?_ ?_
    · refine z_iconst (v := (0 : Int32)) hc dX7_looked_94 (by decide) ?_
      refine z_istore (lv' := [(4, .int (0 : Int32)), (0, .ref (ad 0)), (1, .int x1), (2, .int x2), (3, .int x3)]) hc dX7_looked_95 (by decide) rfl ?_
      refine z_sub [1, 2, 3, 4, 0] rfl ?_
      exact tX7_looked_97 hc hr N N _ _ _ _ _
    · refine z_aload_n hc dX7_looked_71 0 rfl ?_
      refine z_iload_n hc dX7_looked_72 1 rfl ?_
      refine z_iload_n hc dX7_looked_73 2 rfl ?_
      refine z_iconst (v := (3 : Int32)) hc dX7_looked_74 (by decide) ?_
      refine z_iload hc dX7_looked_75 4 rfl ?_
      refine z_imul hc dX7_looked_77 ?_
      refine z_iadd hc dX7_looked_78 ?_
      refine z_runVi (b0 := ad 0) (As := [.int x1, .int (x2 + ((3 : Int32) * x4))]) (rest := []) hc dX7_looked_79 (fun _ _ h => tX7_isLook h) mpX7_isLook miX7_isLook kmX7_186 ⟨rfl, rfl, Nat.le_of_ble_eq_true rfl, Nat.le_of_ble_eq_true rfl⟩ ⟨Nat.le_refl _, Nat.le_refl _⟩ zcC_rc0 rfl (Nat.le_of_ble_eq_true rfl) (fun b1 σ2 => ?_)
      refine z_if_ne (tgt := 88) hc dX7_looked_82 (by decide) ?_ ?_
      · refine z_ldc hc dX7_looked_85 kcX7_66 ?_
        exact z_iret hc hr dX7_looked_87
      · refine z_iinc (v := (x4 + (1 : Int32))) (lv' := [(4, .int (x4 + (1 : Int32))), (0, .ref (ad 0)), (1, .int x1), (2, .int x2), (3, .int x3)]) hc dX7_looked_88 4 rfl rfl (by decide) rfl ?_
        refine z_goto (tgt := 65) hc dX7_looked_91 (by decide) ?_
        refine z_sub [1, 2, 3, 4, 0] rfl ?_
        exact ih _ _ _ _ _
set_option maxRecDepth 100000 in
set_option maxHeartbeats 4000000 in
theorem tX7_looked {l : Launch} {D : va_G} {ca : Nat → ClassId} {xa ad : Nat → Nat} {A : Nat → Prop} {N : Nat} {x1 : Int32} {x2 : Int32} {x3 : Int32} {σ : zSt} {a : Int32} {τ : zSt} (h : fX7_looked N x1 x2 x3 σ = some (a, τ)) : zCt l yX7_looked cX7_looked 5 (some .int) rmX7_looked D ca xa A (zwC ad ca) [.ref (ad 0), .int x1, .int x2, .int x3] σ (zI a) τ := by
  refine z_met (inj := zI) (lv := [(0, .ref (ad 0)), (1, .int x1), (2, .int x2), (3, .int x3)]) (by decide) (Nat.le_of_ble_eq_true rfl) rfl ?_ h
  intro p e s m args below meth c hc hr
  unfold fX7_looked
  refine z_aload_n hc dX7_looked_0 0 rfl ?_
  refine gfX7_10 hc dX7_looked_1 ?_
  refine z_iload_n hc dX7_looked_4 1 rfl ?_
  refine z_runVNi (b0 := ad 1) (As := [.int x1]) (rest := []) hc dX7_looked_5 (fun _ _ h => tX3_isNumber h) mpX3_isNumber miX3_isNumber kmX7_58 ⟨rfl, rfl, Nat.le_of_ble_eq_true rfl, Nat.le_of_ble_eq_true rfl⟩ ⟨Nat.le_refl _, Nat.le_refl _⟩ zcC_rc1 rfl (Nat.le_of_ble_eq_true rfl) (fun b1 σ2 => ?_)
  refine z_if_eq (tgt := 21) hc dX7_looked_8 (by decide) ?_ ?_
  · refine z_ldc hc dX7_looked_21 kcX7_66 ?_
    exact z_iret hc hr dX7_looked_23
  · refine z_iload_n hc dX7_looked_11 3 rfl ?_
    refine z_iconst (v := (1 : Int32)) hc dX7_looked_12 (by decide) ?_
    refine z_bipush (v := (8 : Int32)) hc dX7_looked_13 (by decide) ?_
    refine z_runSi (As := [.int x3, .int (1 : Int32), .int (8 : Int32)]) (rest := []) hc dX7_looked_15 (fun _ _ h => tX7_isWithin h) mpX7_isWithin miX7_isWithin kmX7_62 ⟨rfl, rfl, Nat.le_of_ble_eq_true rfl, Nat.le_of_ble_eq_true rfl⟩ ⟨Nat.le_refl _, Nat.le_refl _⟩ rfl (Nat.le_of_ble_eq_true rfl) (fun b3 σ4 => ?_)
    refine z_if_ne (tgt := 24) hc dX7_looked_18 (by decide) ?_ ?_
    · refine z_ldc hc dX7_looked_21 kcX7_66 ?_
      exact z_iret hc hr dX7_looked_23
    · refine z_aload_n hc dX7_looked_24 0 rfl ?_
      refine gfX7_10 hc dX7_looked_25 ?_
      refine z_iload_n hc dX7_looked_28 1 rfl ?_
      refine z_runVNi (b0 := ad 1) (As := [.int x1]) (rest := []) hc dX7_looked_29 (fun _ _ h => tX3_isMissing h) mpX3_isMissing miX3_isMissing kmX7_78 ⟨rfl, rfl, Nat.le_of_ble_eq_true rfl, Nat.le_of_ble_eq_true rfl⟩ ⟨Nat.le_refl _, Nat.le_refl _⟩ zcC_rc1 rfl (Nat.le_of_ble_eq_true rfl) (fun b5 σ6 => ?_)
      refine z_if_eq (tgt := 41) hc dX7_looked_32 (by decide) ?_ ?_
      · refine z_aload_n hc dX7_looked_41 0 rfl ?_
        refine gfX7_10 hc dX7_looked_42 ?_
        refine z_iload_n hc dX7_looked_45 1 rfl ?_
        refine z_iload_n hc dX7_looked_46 2 rfl ?_
        refine z_iconst (v := (3 : Int32)) hc dX7_looked_47 (by decide) ?_
        refine z_iload_n hc dX7_looked_48 3 rfl ?_
        refine z_imul hc dX7_looked_49 ?_
        refine z_runVNi (b0 := ad 1) (As := [.int x1, .int x2, .int ((3 : Int32) * x3)]) (rest := []) hc dX7_looked_50 (fun _ _ h => tX3_hasPlaces h) mpX3_hasPlaces miX3_hasPlaces kmX7_81 ⟨rfl, rfl, Nat.le_of_ble_eq_true rfl, Nat.le_of_ble_eq_true rfl⟩ ⟨Nat.le_refl _, Nat.le_refl _⟩ zcC_rc1 rfl (Nat.le_of_ble_eq_true rfl) (fun b7 σ8 => ?_)
        refine z_if_ne (tgt := 62) hc dX7_looked_53 (by decide) ?_ ?_
        · refine z_aload_n hc dX7_looked_56 0 rfl ?_
          refine z_iconst (v := (2 : Int32)) hc dX7_looked_57 (by decide) ?_
          refine z_runVi (b0 := ad 0) (As := [.int (2 : Int32)]) (rest := []) hc dX7_looked_58 (fun _ _ h => tX7_found h) mpX7_found miX7_found kmX7_67 ⟨rfl, rfl, Nat.le_of_ble_eq_true rfl, Nat.le_of_ble_eq_true rfl⟩ ⟨Nat.le_refl _, Nat.le_refl _⟩ zcC_rc0 rfl (Nat.le_of_ble_eq_true rfl) (fun b9 σ10 => ?_)
          exact z_iret hc hr dX7_looked_61
        · refine z_iconst (v := (0 : Int32)) hc dX7_looked_62 (by decide) ?_
          refine z_istore (lv' := [(4, .int (0 : Int32)), (0, .ref (ad 0)), (1, .int x1), (2, .int x2), (3, .int x3)]) hc dX7_looked_63 (by decide) rfl ?_
          refine z_sub [1, 2, 3, 4, 0] rfl ?_
          exact tX7_looked_65 hc hr N N _ _ _ _ _
      · refine z_aload_n hc dX7_looked_35 0 rfl ?_
        refine z_iconst (v := (1 : Int32)) hc dX7_looked_36 (by decide) ?_
        refine z_runVi (b0 := ad 0) (As := [.int (1 : Int32)]) (rest := []) hc dX7_looked_37 (fun _ _ h => tX7_found h) mpX7_found miX7_found kmX7_67 ⟨rfl, rfl, Nat.le_of_ble_eq_true rfl, Nat.le_of_ble_eq_true rfl⟩ ⟨Nat.le_refl _, Nat.le_refl _⟩ zcC_rc0 rfl (Nat.le_of_ble_eq_true rfl) (fun b11 σ12 => ?_)
        exact z_iret hc hr dX7_looked_40
set_option maxRecDepth 100000 in
set_option maxHeartbeats 4000000 in
theorem tX8_isLeaf {l : Launch} {D : va_G} {ca : Nat → ClassId} {xa ad : Nat → Nat} {A : Nat → Prop} {N : Nat} {x1 : Int32} {σ : zSt} {a : Int32} {τ : zSt} (h : fX8_isLeaf N x1 σ = some (a, τ)) : zCt l yX8_isLeaf cX8_isLeaf 2 (some .boolean) rmX8_isLeaf D ca xa A (zwM ad ca) [.ref (ad 0), .int x1] σ (zI a) τ := by
  refine z_met (inj := zI) (lv := [(0, .ref (ad 0)), (1, .int x1)]) (by decide) (Nat.le_of_ble_eq_true rfl) rfl ?_ h
  intro p e s m args below meth c hc hr
  unfold fX8_isLeaf
  refine z_aload_n hc dX8_isLeaf_0 0 rfl ?_
  refine z_iload_n hc dX8_isLeaf_1 1 rfl ?_
  refine z_runVi (b0 := ad 0) (As := [.int x1]) (rest := []) hc dX8_isLeaf_2 (fun _ _ h => tX8_isNode h) mpX8_isNode miX8_isNode kmX8_204 ⟨rfl, rfl, Nat.le_of_ble_eq_true rfl, Nat.le_of_ble_eq_true rfl⟩ ⟨Nat.le_refl _, Nat.le_refl _⟩ zcM_rc0 rfl (Nat.le_of_ble_eq_true rfl) (fun b1 σ2 => ?_)
  refine z_if_eq (tgt := 22) hc dX8_isLeaf_5 (by decide) ?_ ?_
  · refine z_iconst (v := (0 : Int32)) hc dX8_isLeaf_22 (by decide) ?_
    exact z_zret hc hr dX8_isLeaf_23
  · refine z_aload_n hc dX8_isLeaf_8 0 rfl ?_
    refine gfX8_19 hc dX8_isLeaf_9 ?_
    refine z_iload_n hc dX8_isLeaf_12 1 rfl ?_
    refine z_iaload hc 4 (by decide) rfl dX8_isLeaf_13 (fun v3 => ?_)
    refine z_iconst (v := (2 : Int32)) hc dX8_isLeaf_14 (by decide) ?_
    refine z_icmp_ge (tgt := 22) hc dX8_isLeaf_15 (by decide) ?_ ?_
    · refine z_iconst (v := (0 : Int32)) hc dX8_isLeaf_22 (by decide) ?_
      exact z_zret hc hr dX8_isLeaf_23
    · refine z_iconst (v := (1 : Int32)) hc dX8_isLeaf_18 (by decide) ?_
      refine z_goto (tgt := 23) hc dX8_isLeaf_19 (by decide) ?_
      exact z_zret hc hr dX8_isLeaf_23
set_option maxRecDepth 100000 in
set_option maxHeartbeats 4000000 in
theorem tX8_looked_64 {p : Program} {l : Launch} {e : Env} {s : State} {m : MethodId} {args : Array Value} {below : List Frame} {meth : Method} {c : Code} {D : va_G} {ca : Nat → ClassId} {xa ad : Nat → Nat} {A : Nat → Prop} (hc : zCx p s m args meth c cX8_looked 6 RX8 D ca xa A (zwM ad ca)) (hr : meth.sig.returnType = (some .int)) (N : Nat)    (σ : zSt) : zGO p l e rmX8_looked s m args below meth c 0 0 (zwM ad ca) D A 6 (zQ below D A (zwM ad ca) args s zI) (fX8_looked_64 N σ) σ 64 [(0, .ref (ad 0))] [] := by
  unfold fX8_looked_64
  refine z_aload_n hc dX8_looked_64 0 rfl ?_
  refine z_iconst (v := (2 : Int32)) hc dX8_looked_65 (by decide) ?_
  refine z_runVi (b0 := ad 0) (As := [.int (2 : Int32)]) (rest := []) hc dX8_looked_66 (fun _ _ h => tX8_finding h) mpX8_finding miX8_finding kmX8_99 ⟨rfl, rfl, Nat.le_of_ble_eq_true rfl, Nat.le_of_ble_eq_true rfl⟩ ⟨Nat.le_refl _, Nat.le_refl _⟩ zcM_rc0 rfl (Nat.le_of_ble_eq_true rfl) (fun b1 σ2 => ?_)
  exact z_iret hc hr dX8_looked_69
set_option maxRecDepth 100000 in
set_option maxHeartbeats 4000000 in
theorem tX8_looked_165 {p : Program} {l : Launch} {e : Env} {s : State} {m : MethodId} {args : Array Value} {below : List Frame} {meth : Method} {c : Code} {D : va_G} {ca : Nat → ClassId} {xa ad : Nat → Nat} {A : Nat → Prop} (hc : zCx p s m args meth c cX8_looked 6 RX8 D ca xa A (zwM ad ca)) (hr : meth.sig.returnType = (some .int)) (N : Nat)   : ∀ (n : Nat) (x3 : Int32) (x4 : Int32) (x5 : Int32) (σ : zSt), zGO p l e rmX8_looked s m args below meth c 0 0 (zwM ad ca) D A 6 (zQ below D A (zwM ad ca) args s zI) (fX8_looked_165 N n x3 x4 x5 σ) σ 165 [(0, .ref (ad 0)), (3, .int x3), (4, .int x4), (5, .int x5)] [] := by
  intro n
  induction n with
  | zero =>
    intro x3 x4 x5 σ
    exact z_none
  | succ n ih =>
    intro x3 x4 x5 σ
    unfold fX8_looked_165
    refine z_iload hc dX8_looked_165 3 rfl ?_
    refine z_iload hc dX8_looked_167 2 rfl ?_
    refine z_iconst (v := (3 : Int32)) hc dX8_looked_169 (by decide) ?_
    refine z_iload_n hc dX8_looked_170 1 rfl ?_
    refine z_imul hc dX8_looked_171 ?_
    refine z_iadd hc dX8_looked_172 ?_
    refine z_icmp_ge (tgt := 224) hc dX8_looked_173 (by decide) ?_ ?_
    · refine z_iload_n hc dX8_looked_224 1 rfl ?_
      exact z_iret hc hr dX8_looked_225
    · refine z_aload_n hc dX8_looked_176 0 rfl ?_
      refine gfX8_25 hc dX8_looked_177 ?_
      refine z_aload_n hc dX8_looked_180 0 rfl ?_
      refine gfX8_16 hc dX8_looked_181 ?_
      refine z_iload hc dX8_looked_184 3 rfl ?_
      refine z_iaload hc 3 (by decide) rfl dX8_looked_186 (fun v1 => ?_)
      refine z_aload_n hc dX8_looked_187 0 rfl ?_
      refine gfX8_16 hc dX8_looked_188 ?_
      refine z_iload hc dX8_looked_191 3 rfl ?_
      refine z_iconst (v := (1 : Int32)) hc dX8_looked_193 (by decide) ?_
      refine z_iadd hc dX8_looked_194 ?_
      refine z_iaload hc 3 (by decide) rfl dX8_looked_195 (fun v2 => ?_)
      refine z_iastore hc 6 (by decide) (fun _ _ => rfl) dX8_looked_196 (fun σ3 => ?_)
      refine z_aload_n hc dX8_looked_197 0 rfl ?_
      refine gfX8_28 hc dX8_looked_198 ?_
      refine z_aload_n hc dX8_looked_201 0 rfl ?_
      refine gfX8_16 hc dX8_looked_202 ?_
      refine z_iload hc dX8_looked_205 3 rfl ?_
      refine z_iaload hc 3 (by decide) rfl dX8_looked_207 (fun v4 => ?_)
      refine z_aload_n hc dX8_looked_208 0 rfl ?_
      refine gfX8_16 hc dX8_looked_209 ?_
      refine z_iload hc dX8_looked_212 3 rfl ?_
      refine z_iconst (v := (2 : Int32)) hc dX8_looked_214 (by decide) ?_
      refine z_iadd hc dX8_looked_215 ?_
      refine z_iaload hc 3 (by decide) rfl dX8_looked_216 (fun v5 => ?_)
      refine z_iastore hc 7 (by decide) (fun _ _ => rfl) dX8_looked_217 (fun σ6 => ?_)
      refine z_iinc (v := (x5 + (3 : Int32))) (lv' := [(5, .int (x5 + (3 : Int32))), (0, .ref (ad 0)), (3, .int x3), (4, .int x4)]) hc dX8_looked_218 3 rfl rfl (by decide) rfl ?_
      refine z_goto (tgt := 165) hc dX8_looked_221 (by decide) ?_
      refine z_sub [1, 2, 3, 0] rfl ?_
      exact ih _ _ _ _
set_option maxRecDepth 100000 in
set_option maxHeartbeats 4000000 in
theorem tX8_looked_82 {p : Program} {l : Launch} {e : Env} {s : State} {m : MethodId} {args : Array Value} {below : List Frame} {meth : Method} {c : Code} {D : va_G} {ca : Nat → ClassId} {xa ad : Nat → Nat} {A : Nat → Prop} (hc : zCx p s m args meth c cX8_looked 6 RX8 D ca xa A (zwM ad ca)) (hr : meth.sig.returnType = (some .int)) (N : Nat)   : ∀ (n : Nat) (x3 : Int32) (x4 : Int32) (x5 : Int32) (σ : zSt), zGO p l e rmX8_looked s m args below meth c 0 0 (zwM ad ca) D A 6 (zQ below D A (zwM ad ca) args s zI) (fX8_looked_82 N n x3 x4 x5 σ) σ 82 [(0, .ref (ad 0)), (3, .int x3), (4, .int x4), (5, .int x5)] [] := by
  intro n
  induction n with
  | zero =>
    intro x3 x4 x5 σ
    exact z_none
  | succ n ih =>
    intro x3 x4 x5 σ
    unfold fX8_looked_82
    refine z_iload hc dX8_looked_82 3 rfl ?_
    refine z_iload hc dX8_looked_84 2 rfl ?_
    refine z_iconst (v := (3 : Int32)) hc dX8_looked_86 (by decide) ?_
    refine z_iload_n hc dX8_looked_87 1 rfl ?_
    refine z_imul hc dX8_looked_88 ?_
    refine z_iadd hc dX8_looked_89 ?_
    refine z_icmp_ge (tgt := 156) hc dX8_looked_90 (by decide) ?_ ?_
    · refine z_aload_n hc dX8_looked_156 0 rfl ?_
      refine z_iconst (v := (0 : Int32)) hc dX8_looked_157 (by decide) ?_
      refine pfX8_82 hc dX8_looked_158 (fun σ1 => ?_)
      refine z_iload hc dX8_looked_161 2 rfl ?_
      refine z_istore (lv' := [(5, .int x4), (0, .ref (ad 0)), (3, .int x3), (4, .int x4)]) hc dX8_looked_163 (by decide) rfl ?_
      refine z_sub [1, 2, 3, 0] rfl ?_
      exact tX8_looked_165 hc hr N N _ _ _ _
    · refine z_aload_n hc dX8_looked_93 0 rfl ?_
      refine z_aload_n hc dX8_looked_94 0 rfl ?_
      refine gfX8_16 hc dX8_looked_95 ?_
      refine z_iload hc dX8_looked_98 3 rfl ?_
      refine z_iaload hc 3 (by decide) rfl dX8_looked_100 (fun v2 => ?_)
      refine z_runVi (b0 := ad 0) (As := [.int v2]) (rest := []) hc dX8_looked_101 (fun _ _ h => tX8_isLeaf h) mpX8_isLeaf miX8_isLeaf kmX8_263 ⟨rfl, rfl, Nat.le_of_ble_eq_true rfl, Nat.le_of_ble_eq_true rfl⟩ ⟨Nat.le_refl _, Nat.le_refl _⟩ zcM_rc0 rfl (Nat.le_of_ble_eq_true rfl) (fun b3 σ4 => ?_)
      refine z_if_eq (tgt := 147) hc dX8_looked_104 (by decide) ?_ ?_
      · refine z_ldc hc dX8_looked_147 kcX8_98 ?_
        exact z_iret hc hr dX8_looked_149
      · refine z_aload_n hc dX8_looked_107 0 rfl ?_
        refine gfX8_16 hc dX8_looked_108 ?_
        refine z_iload hc dX8_looked_111 3 rfl ?_
        refine z_iconst (v := (1 : Int32)) hc dX8_looked_113 (by decide) ?_
        refine z_iadd hc dX8_looked_114 ?_
        refine z_iaload hc 3 (by decide) rfl dX8_looked_115 (fun v5 => ?_)
        refine z_i2l hc dX8_looked_116 ?_
        refine z_lconst (v := (0 : Int64)) hc dX8_looked_117 (by decide) ?_
        refine z_ldc2 hc dX8_looked_118 kcX8_266 ?_
        refine z_runSi (As := [.long v5.toInt64, .long (0 : Int64), .long (9999 : Int64)]) (rest := []) hc dX8_looked_121 (fun _ _ h => tX8_in h) mpX8_in miX8_in kmX8_88 ⟨rfl, rfl, Nat.le_of_ble_eq_true rfl, Nat.le_of_ble_eq_true rfl⟩ ⟨Nat.le_refl _, Nat.le_refl _⟩ rfl (Nat.le_of_ble_eq_true rfl) (fun b6 σ7 => ?_)
        refine z_if_eq (tgt := 147) hc dX8_looked_124 (by decide) ?_ ?_
        · refine z_ldc hc dX8_looked_147 kcX8_98 ?_
          exact z_iret hc hr dX8_looked_149
        · refine z_aload_n hc dX8_looked_127 0 rfl ?_
          refine gfX8_16 hc dX8_looked_128 ?_
          refine z_iload hc dX8_looked_131 3 rfl ?_
          refine z_iconst (v := (2 : Int32)) hc dX8_looked_133 (by decide) ?_
          refine z_iadd hc dX8_looked_134 ?_
          refine z_iaload hc 3 (by decide) rfl dX8_looked_135 (fun v8 => ?_)
          refine z_i2l hc dX8_looked_136 ?_
          refine z_lconst (v := (0 : Int64)) hc dX8_looked_137 (by decide) ?_
          refine z_ldc2 hc dX8_looked_138 kcX8_266 ?_
          refine z_runSi (As := [.long v8.toInt64, .long (0 : Int64), .long (9999 : Int64)]) (rest := []) hc dX8_looked_141 (fun _ _ h => tX8_in h) mpX8_in miX8_in kmX8_88 ⟨rfl, rfl, Nat.le_of_ble_eq_true rfl, Nat.le_of_ble_eq_true rfl⟩ ⟨Nat.le_refl _, Nat.le_refl _⟩ rfl (Nat.le_of_ble_eq_true rfl) (fun b9 σ10 => ?_)
          refine z_if_ne (tgt := 150) hc dX8_looked_144 (by decide) ?_ ?_
          · refine z_ldc hc dX8_looked_147 kcX8_98 ?_
            exact z_iret hc hr dX8_looked_149
          · refine z_iinc (v := (x5 + (3 : Int32))) (lv' := [(5, .int (x5 + (3 : Int32))), (0, .ref (ad 0)), (3, .int x3), (4, .int x4)]) hc dX8_looked_150 3 rfl rfl (by decide) rfl ?_
            refine z_goto (tgt := 82) hc dX8_looked_153 (by decide) ?_
            refine z_sub [1, 2, 3, 0] rfl ?_
            exact ih _ _ _ _
set_option maxRecDepth 100000 in
set_option maxHeartbeats 4000000 in
theorem tX8_looked {l : Launch} {D : va_G} {ca : Nat → ClassId} {xa ad : Nat → Nat} {A : Nat → Prop} {N : Nat} {x1 : Int32} {x2 : Int32} {x3 : Int32} {σ : zSt} {a : Int32} {τ : zSt} (h : fX8_looked N x1 x2 x3 σ = some (a, τ)) : zCt l yX8_looked cX8_looked 6 (some .int) rmX8_looked D ca xa A (zwM ad ca) [.ref (ad 0), .int x1, .int x2, .int x3] σ (zI a) τ := by
  refine z_met (inj := zI) (lv := [(0, .ref (ad 0)), (1, .int x1), (2, .int x2), (3, .int x3)]) (by decide) (Nat.le_of_ble_eq_true rfl) rfl ?_ h
  intro p e s m args below meth c hc hr
  unfold fX8_looked
  refine z_aload_n hc dX8_looked_0 0 rfl ?_
  refine z_iconst (v := (0 : Int32)) hc dX8_looked_1 (by decide) ?_
  refine pfX8_78 hc dX8_looked_2 (fun σ1 => ?_)
  refine z_iload_n hc dX8_looked_5 1 rfl ?_
  refine z_runSi (As := [.int x1]) (rest := []) hc dX8_looked_6 (fun _ _ h => tX8_isSheet h) mpX8_isSheet miX8_isSheet kmX8_92 ⟨rfl, rfl, Nat.le_of_ble_eq_true rfl, Nat.le_of_ble_eq_true rfl⟩ ⟨Nat.le_refl _, Nat.le_refl _⟩ rfl (Nat.le_of_ble_eq_true rfl) (fun b2 σ3 => ?_)
  refine z_if_eq (tgt := 24) hc dX8_looked_9 (by decide) ?_ ?_
  · refine z_ldc hc dX8_looked_24 kcX8_98 ?_
    exact z_iret hc hr dX8_looked_26
  · refine z_iload_n hc dX8_looked_12 3 rfl ?_
    refine z_i2l hc dX8_looked_13 ?_
    refine z_lconst (v := (1 : Int64)) hc dX8_looked_14 (by decide) ?_
    refine z_ldc2 hc dX8_looked_15 kcX8_103 ?_
    refine z_runSi (As := [.long x3.toInt64, .long (1 : Int64), .long (8 : Int64)]) (rest := []) hc dX8_looked_18 (fun _ _ h => tX8_in h) mpX8_in miX8_in kmX8_88 ⟨rfl, rfl, Nat.le_of_ble_eq_true rfl, Nat.le_of_ble_eq_true rfl⟩ ⟨Nat.le_refl _, Nat.le_refl _⟩ rfl (Nat.le_of_ble_eq_true rfl) (fun b4 σ5 => ?_)
    refine z_if_ne (tgt := 27) hc dX8_looked_21 (by decide) ?_ ?_
    · refine z_ldc hc dX8_looked_24 kcX8_98 ?_
      exact z_iret hc hr dX8_looked_26
    · refine z_aload_n hc dX8_looked_27 0 rfl ?_
      refine gfX8_7 hc dX8_looked_28 ?_
      refine z_iload_n hc dX8_looked_31 1 rfl ?_
      refine z_iaload hc 1 (by decide) rfl dX8_looked_32 (fun v6 => ?_)
      refine z_if_ge (tgt := 42) hc dX8_looked_33 (by decide) ?_ ?_
      · refine z_iload_n hc dX8_looked_42 2 rfl ?_
        refine z_if_lt (tgt := 64) hc dX8_looked_43 (by decide) ?_ ?_
        · refine z_sub [0] rfl ?_
          exact tX8_looked_64 hc hr N _
        · refine z_iload_n hc dX8_looked_46 2 rfl ?_
          refine z_i2l hc dX8_looked_47 ?_
          refine z_iconst (v := (3 : Int32)) hc dX8_looked_48 (by decide) ?_
          refine z_iload_n hc dX8_looked_49 3 rfl ?_
          refine z_imul hc dX8_looked_50 ?_
          refine z_i2l hc dX8_looked_51 ?_
          refine z_ladd hc dX8_looked_52 ?_
          refine z_aload_n hc dX8_looked_53 0 rfl ?_
          refine gfX8_13 hc dX8_looked_54 ?_
          refine z_iload_n hc dX8_looked_57 1 rfl ?_
          refine z_iaload hc 2 (by decide) rfl dX8_looked_58 (fun v7 => ?_)
          refine z_i2l hc dX8_looked_59 ?_
          refine z_lcmp_le (tgt := 70) hc dX8_looked_60 dX8_looked_61 (by decide) ?_ ?_
          · refine z_bipush (v := (40 : Int32)) hc dX8_looked_70 (by decide) ?_
            refine z_iload_n hc dX8_looked_72 1 rfl ?_
            refine z_imul hc dX8_looked_73 ?_
            refine z_iload_n hc dX8_looked_74 2 rfl ?_
            refine z_iadd hc dX8_looked_75 ?_
            refine z_nm (fun v8 => ?_)
            refine z_istore (lv' := [(4, .int v8), (0, .ref (ad 0)), (1, .int x1), (2, .int x2), (3, .int x3)]) hc dX8_looked_76 (by decide) rfl ?_
            refine z_iload hc dX8_looked_78 0 rfl ?_
            refine z_istore (lv' := [(5, .int v8), (4, .int v8), (0, .ref (ad 0)), (1, .int x1), (2, .int x2), (3, .int x3)]) hc dX8_looked_80 (by decide) rfl ?_
            refine z_sub [2, 5, 1, 0] rfl ?_
            exact tX8_looked_82 hc hr N N _ _ _ _
          · refine z_sub [0] rfl ?_
            exact tX8_looked_64 hc hr N _
      · refine z_aload_n hc dX8_looked_36 0 rfl ?_
        refine z_iconst (v := (1 : Int32)) hc dX8_looked_37 (by decide) ?_
        refine z_runVi (b0 := ad 0) (As := [.int (1 : Int32)]) (rest := []) hc dX8_looked_38 (fun _ _ h => tX8_finding h) mpX8_finding miX8_finding kmX8_99 ⟨rfl, rfl, Nat.le_of_ble_eq_true rfl, Nat.le_of_ble_eq_true rfl⟩ ⟨Nat.le_refl _, Nat.le_refl _⟩ zcM_rc0 rfl (Nat.le_of_ble_eq_true rfl) (fun b9 σ10 => ?_)
        exact z_iret hc hr dX8_looked_41
