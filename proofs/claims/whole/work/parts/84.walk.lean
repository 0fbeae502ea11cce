set_option maxRecDepth 100000 in
set_option maxHeartbeats 4000000 in
theorem tX7_kind {l : Launch} {D : va_G} {ca : Nat → ClassId} {xa ad : Nat → Nat} {A : Nat → Prop} {N : Nat} {x1 : Int32} {σ : zSt} {a : Int32} {τ : zSt} (h : fX7_kind N x1 σ = some (a, τ)) : zCt l yX7_kind cX7_kind 2 (some .int) rmX7_kind D ca xa A (zwC ad ca) [.ref (ad 0), .int x1] σ (zI a) τ := by
  refine z_met (inj := zI) (lv := [(0, .ref (ad 0)), (1, .int x1)]) (by decide) (Nat.le_of_ble_eq_true rfl) rfl ?_ h
  intro p e s m args below meth c hc hr
  unfold fX7_kind
  refine z_aload_n hc dX7_kind_0 0 rfl ?_
  refine gfX7_26 hc dX7_kind_1 ?_
  refine z_iload_n hc dX7_kind_4 1 rfl ?_
  refine z_runVNi (b0 := ad 7) (As := [.int x1]) (rest := []) hc dX7_kind_5 (fun _ _ h => tX2_hasNode h) mpX2_hasNode miX2_hasNode kmX7_125 ⟨rfl, rfl, Nat.le_of_ble_eq_true rfl, Nat.le_of_ble_eq_true rfl⟩ ⟨Nat.le_refl _, Nat.le_refl _⟩ zcC_rc7 rfl (Nat.le_of_ble_eq_true rfl) (fun b1 σ2 => ?_)
  refine z_if_ne (tgt := 14) hc dX7_kind_8 (by decide) ?_ ?_
  · refine z_ldc hc dX7_kind_11 kcX7_66 ?_
    exact z_iret hc hr dX7_kind_13
  · refine z_aload_n hc dX7_kind_14 0 rfl ?_
    refine gfX7_26 hc dX7_kind_15 ?_
    refine z_iload_n hc dX7_kind_18 1 rfl ?_
    refine z_runVNi (b0 := ad 7) (As := [.int x1]) (rest := []) hc dX7_kind_19 (fun _ _ h => tX2_kindOf h) mpX2_kindOf miX2_kindOf kmX7_272 ⟨rfl, rfl, Nat.le_of_ble_eq_true rfl, Nat.le_of_ble_eq_true rfl⟩ ⟨Nat.le_refl _, Nat.le_refl _⟩ zcC_rc7 rfl (Nat.le_of_ble_eq_true rfl) (fun b3 σ4 => ?_)
    exact z_iret hc hr dX7_kind_22
set_option maxRecDepth 100000 in
set_option maxHeartbeats 4000000 in
theorem tX8_partsIn_27 {p : Program} {l : Launch} {e : Env} {s : State} {m : MethodId} {args : Array Value} {below : List Frame} {meth : Method} {c : Code} {D : va_G} {ca : Nat → ClassId} {xa ad : Nat → Nat} {A : Nat → Prop} (hc : zCx p s m args meth c cX8_partsIn 4 RX8 D ca xa A (zwM ad ca)) (hr : meth.sig.returnType = (some .int)) (N : Nat) (k4 : Int32 → Int32 → Int32 → zSt → Option (Int32 × zSt)) (hk4 : ∀ (x1 : Int32) (x2 : Int32) (x3 : Int32) (σ : zSt), zGO p l e rmX8_partsIn s m args below meth c 0 0 (zwM ad ca) D A 4 (zQ below D A (zwM ad ca) args s zI) (k4 x1 x2 x3 σ) σ 4 [(0, .ref (ad 0)), (1, .int x1), (2, .int x2), (3, .int x3)] []) (x1 : Int32) (x3 : Int32) (s0 : Int32) (s1 : Int32) (σ : zSt) : zGO p l e rmX8_partsIn s m args below meth c 0 0 (zwM ad ca) D A 4 (zQ below D A (zwM ad ca) args s zI) (fX8_partsIn_27 N k4 x1 x3 s0 s1 σ) σ 27 [(0, .ref (ad 0)), (1, .int x1), (3, .int x3)] [.int s0, .int s1] := by
  unfold fX8_partsIn_27
  refine z_iadd hc dX8_partsIn_27 ?_
  refine z_nm (fun v1 => ?_)
  refine z_istore_n (lv' := [(2, .int v1), (0, .ref (ad 0)), (1, .int x1), (3, .int x3)]) hc dX8_partsIn_28 rfl (by decide) rfl ?_
  refine z_iinc (v := (x3 + (1 : Int32))) (lv' := [(3, .int (x3 + (1 : Int32))), (2, .int v1), (0, .ref (ad 0)), (1, .int x1)]) hc dX8_partsIn_29 3 rfl rfl (by decide) rfl ?_
  refine z_goto (tgt := 4) hc dX8_partsIn_32 (by decide) ?_
  refine z_sub [2, 3, 1, 0] rfl ?_
  exact hk4 _ _ _ _
set_option maxRecDepth 100000 in
set_option maxHeartbeats 4000000 in
theorem tX8_partsIn_4 {p : Program} {l : Launch} {e : Env} {s : State} {m : MethodId} {args : Array Value} {below : List Frame} {meth : Method} {c : Code} {D : va_G} {ca : Nat → ClassId} {xa ad : Nat → Nat} {A : Nat → Prop} (hc : zCx p s m args meth c cX8_partsIn 4 RX8 D ca xa A (zwM ad ca)) (hr : meth.sig.returnType = (some .int)) (N : Nat)   : ∀ (n : Nat) (x1 : Int32) (x2 : Int32) (x3 : Int32) (σ : zSt), zGO p l e rmX8_partsIn s m args below meth c 0 0 (zwM ad ca) D A 4 (zQ below D A (zwM ad ca) args s zI) (fX8_partsIn_4 N n x1 x2 x3 σ) σ 4 [(0, .ref (ad 0)), (1, .int x1), (2, .int x2), (3, .int x3)] [] := by
  intro n
  induction n with
  | zero =>
    intro x1 x2 x3 σ
    exact z_none
  | succ n ih =>
    intro x1 x2 x3 σ
    unfold fX8_partsIn_4
    refine z_iload_n hc dX8_partsIn_4 3 rfl ?_
    refine z_aload_n hc dX8_partsIn_5 0 rfl ?_
    refine gfX8_188 hc dX8_partsIn_6 ?_
    refine z_icmp_ge (tgt := 35) hc dX8_partsIn_9 (by decide) ?_ ?_
    · refine z_iload_n hc dX8_partsIn_35 2 rfl ?_
      exact z_iret hc hr dX8_partsIn_36
    · refine z_iload_n hc dX8_partsIn_12 2 rfl ?_
      refine z_aload_n hc dX8_partsIn_13 0 rfl ?_
      refine z_iload_n hc dX8_partsIn_14 3 rfl ?_
      refine z_iload_n hc dX8_partsIn_15 1 rfl ?_
      refine z_runVi (b0 := ad 0) (As := [.int x3, .int x1]) (rest := [.int x2]) hc dX8_partsIn_16 (fun _ _ h => tX8_isPart h) mpX8_isPart miX8_isPart kmX8_181 ⟨rfl, rfl, Nat.le_of_ble_eq_true rfl, Nat.le_of_ble_eq_true rfl⟩ ⟨Nat.le_refl _, Nat.le_refl _⟩ zcM_rc0 rfl (Nat.le_of_ble_eq_true rfl) (fun b1 σ2 => ?_)
      refine z_if_eq (tgt := 26) hc dX8_partsIn_19 (by decide) ?_ ?_
      · refine z_iconst (v := (0 : Int32)) hc dX8_partsIn_26 (by decide) ?_
        refine z_sub [0, 1, 3] rfl ?_
        exact tX8_partsIn_27 hc hr N _ (ih) _ _ _ _ _
      · refine z_iconst (v := (1 : Int32)) hc dX8_partsIn_22 (by decide) ?_
        refine z_goto (tgt := 27) hc dX8_partsIn_23 (by decide) ?_
        refine z_sub [0, 1, 3] rfl ?_
        exact tX8_partsIn_27 hc hr N _ (ih) _ _ _ _ _
set_option maxRecDepth 100000 in
set_option maxHeartbeats 4000000 in
theorem tX8_partsIn {l : Launch} {D : va_G} {ca : Nat → ClassId} {xa ad : Nat → Nat} {A : Nat → Prop} {N : Nat} {x1 : Int32} {σ : zSt} {a : Int32} {τ : zSt} (h : fX8_partsIn N x1 σ = some (a, τ)) : zCt l yX8_partsIn cX8_partsIn 4 (some .int) rmX8_partsIn D ca xa A (zwM ad ca) [.ref (ad 0), .int x1] σ (zI a) τ := by
  refine z_met (inj := zI) (lv := [(0, .ref (ad 0)), (1, .int x1)]) (by decide) (Nat.le_of_ble_eq_true rfl) rfl ?_ h
  intro p e s m args below meth c hc hr
  unfold fX8_partsIn
  refine z_iconst (v := (0 : Int32)) hc dX8_partsIn_0 (by decide) ?_
  refine z_istore_n (lv' := [(2, .int (0 : Int32)), (0, .ref (ad 0)), (1, .int x1)]) hc dX8_partsIn_1 rfl (by decide) rfl ?_
  refine z_iconst (v := (0 : Int32)) hc dX8_partsIn_2 (by decide) ?_
  refine z_istore_n (lv' := [(3, .int (0 : Int32)), (2, .int (0 : Int32)), (0, .ref (ad 0)), (1, .int x1)]) hc dX8_partsIn_3 rfl (by decide) rfl ?_
  refine z_sub [2, 3, 1, 0] rfl ?_
  exact tX8_partsIn_4 hc hr N N _ _ _ _
set_option maxRecDepth 100000 in
set_option maxHeartbeats 4000000 in
theorem tX8_kindOf {l : Launch} {D : va_G} {ca : Nat → ClassId} {xa ad : Nat → Nat} {A : Nat → Prop} {N : Nat} {x1 : Int32} {σ : zSt} {a : Int32} {τ : zSt} (h : fX8_kindOf N x1 σ = some (a, τ)) : zCt l yX8_kindOf cX8_kindOf 2 (some .int) rmX8_kindOf D ca xa A (zwM ad ca) [.ref (ad 0), .int x1] σ (zI a) τ := by
  refine z_met (inj := zI) (lv := [(0, .ref (ad 0)), (1, .int x1)]) (by decide) (Nat.le_of_ble_eq_true rfl) rfl ?_ h
  intro p e s m args below meth c hc hr
  unfold fX8_kindOf
  refine z_aload_n hc dX8_kindOf_0 0 rfl ?_
  refine gfX8_19 hc dX8_kindOf_1 ?_
  refine z_iload_n hc dX8_kindOf_4 1 rfl ?_
  refine z_iaload hc 4 (by decide) rfl dX8_kindOf_5 (fun v1 => ?_)
  refine z_iconst (v := (2 : Int32)) hc dX8_kindOf_6 (by decide) ?_
  refine z_icmp_ne (tgt := 26) hc dX8_kindOf_7 (by decide) ?_ ?_
  · refine z_aload_n hc dX8_kindOf_10 0 rfl ?_
    refine z_iload_n hc dX8_kindOf_11 1 rfl ?_
    refine z_runVi (b0 := ad 0) (As := [.int x1]) (rest := []) hc dX8_kindOf_12 (fun _ _ h => tX8_partsIn h) mpX8_partsIn miX8_partsIn kmX8_327 ⟨rfl, rfl, Nat.le_of_ble_eq_true rfl, Nat.le_of_ble_eq_true rfl⟩ ⟨Nat.le_refl _, Nat.le_refl _⟩ zcM_rc0 rfl (Nat.le_of_ble_eq_true rfl) (fun b2 σ3 => ?_)
    refine z_if_ne (tgt := 22) hc dX8_kindOf_15 (by decide) ?_ ?_
    · refine z_iconst (v := (4 : Int32)) hc dX8_kindOf_18 (by decide) ?_
      refine z_goto (tgt := 53) hc dX8_kindOf_19 (by decide) ?_
      exact z_iret hc hr dX8_kindOf_53
    · refine z_iconst (v := (3 : Int32)) hc dX8_kindOf_22 (by decide) ?_
      refine z_goto (tgt := 53) hc dX8_kindOf_23 (by decide) ?_
      exact z_iret hc hr dX8_kindOf_53
  · refine z_aload_n hc dX8_kindOf_26 0 rfl ?_
    refine z_iload_n hc dX8_kindOf_27 1 rfl ?_
    refine z_runVi (b0 := ad 0) (As := [.int x1]) (rest := []) hc dX8_kindOf_28 (fun _ _ h => tX8_stands h) mpX8_stands miX8_stands kmX8_210 ⟨rfl, rfl, Nat.le_of_ble_eq_true rfl, Nat.le_of_ble_eq_true rfl⟩ ⟨Nat.le_refl _, Nat.le_refl _⟩ zcM_rc0 rfl (Nat.le_of_ble_eq_true rfl) (fun b4 σ5 => ?_)
    refine z_if_ne (tgt := 38) hc dX8_kindOf_31 (by decide) ?_ ?_
    · refine z_iconst (v := (5 : Int32)) hc dX8_kindOf_34 (by decide) ?_
      refine z_goto (tgt := 53) hc dX8_kindOf_35 (by decide) ?_
      exact z_iret hc hr dX8_kindOf_53
    · refine z_aload_n hc dX8_kindOf_38 0 rfl ?_
      refine gfX8_19 hc dX8_kindOf_39 ?_
      refine z_iload_n hc dX8_kindOf_42 1 rfl ?_
      refine z_iaload hc 4 (by decide) rfl dX8_kindOf_43 (fun v6 => ?_)
      refine z_iconst (v := (1 : Int32)) hc dX8_kindOf_44 (by decide) ?_
      refine z_icmp_ne (tgt := 52) hc dX8_kindOf_45 (by decide) ?_ ?_
      · refine z_iconst (v := (2 : Int32)) hc dX8_kindOf_48 (by decide) ?_
        refine z_goto (tgt := 53) hc dX8_kindOf_49 (by decide) ?_
        exact z_iret hc hr dX8_kindOf_53
      · refine z_iconst (v := (1 : Int32)) hc dX8_kindOf_52 (by decide) ?_
        exact z_iret hc hr dX8_kindOf_53
set_option maxRecDepth 100000 in
set_option maxHeartbeats 4000000 in
theorem tX8_kind {l : Launch} {D : va_G} {ca : Nat → ClassId} {xa ad : Nat → Nat} {A : Nat → Prop} {N : Nat} {x1 : Int32} {σ : zSt} {a : Int32} {τ : zSt} (h : fX8_kind N x1 σ = some (a, τ)) : zCt l yX8_kind cX8_kind 2 (some .int) rmX8_kind D ca xa A (zwM ad ca) [.ref (ad 0), .int x1] σ (zI a) τ := by
  refine z_met (inj := zI) (lv := [(0, .ref (ad 0)), (1, .int x1)]) (by decide) (Nat.le_of_ble_eq_true rfl) rfl ?_ h
  intro p e s m args below meth c hc hr
  unfold fX8_kind
  refine z_aload_n hc dX8_kind_0 0 rfl ?_
  refine z_iconst (v := (0 : Int32)) hc dX8_kind_1 (by decide) ?_
  refine pfX8_78 hc dX8_kind_2 (fun σ1 => ?_)
  refine z_aload_n hc dX8_kind_5 0 rfl ?_
  refine z_iload_n hc dX8_kind_6 1 rfl ?_
  refine z_runVi (b0 := ad 0) (As := [.int x1]) (rest := []) hc dX8_kind_7 (fun _ _ h => tX8_isNode h) mpX8_isNode miX8_isNode kmX8_204 ⟨rfl, rfl, Nat.le_of_ble_eq_true rfl, Nat.le_of_ble_eq_true rfl⟩ ⟨Nat.le_refl _, Nat.le_refl _⟩ zcM_rc0 rfl (Nat.le_of_ble_eq_true rfl) (fun b2 σ3 => ?_)
  refine z_if_eq (tgt := 21) hc dX8_kind_10 (by decide) ?_ ?_
  · refine z_ldc hc dX8_kind_21 kcX8_98 ?_
    exact z_iret hc hr dX8_kind_23
  · refine z_aload_n hc dX8_kind_13 0 rfl ?_
    refine z_iload_n hc dX8_kind_14 1 rfl ?_
    refine z_runVi (b0 := ad 0) (As := [.int x1]) (rest := []) hc dX8_kind_15 (fun _ _ h => tX8_kindOf h) mpX8_kindOf miX8_kindOf kmX8_330 ⟨rfl, rfl, Nat.le_of_ble_eq_true rfl, Nat.le_of_ble_eq_true rfl⟩ ⟨Nat.le_refl _, Nat.le_refl _⟩ zcM_rc0 rfl (Nat.le_of_ble_eq_true rfl) (fun b4 σ5 => ?_)
    refine z_goto (tgt := 23) hc dX8_kind_18 (by decide) ?_
    exact z_iret hc hr dX8_kind_23
set_option maxRecDepth 100000 in
set_option maxHeartbeats 4000000 in
theorem tX2_isTakenAs {l : Launch} {D : va_G} {ca : Nat → ClassId} {xa ad : Nat → Nat} {A : Nat → Prop} {N : Nat} {x1 : Int32} {x2 : Int32} {σ : zSt} {a : Int32} {τ : zSt} (h : fX2_isTakenAs N x1 x2 σ = some (a, τ)) : zCt l yX2_isTakenAs cX2_isTakenAs 3 (some .boolean) rmX2_isTakenAs D ca xa A (zwC ad ca) [.ref (ad 7), .int x1, .int x2] σ (zI a) τ := by
  refine z_met (inj := zI) (lv := [(0, .ref (ad 7)), (1, .int x1), (2, .int x2)]) (by decide) (Nat.le_of_ble_eq_true rfl) rfl ?_ h
  intro p e s m args below meth c hc hr
  unfold fX2_isTakenAs
  refine z_tab (N := 0) (f := zTW) (ref := "") hc (zexZ2 hc) kfX2_109 dX2_isTakenAs_0 ?_
  refine z_aload_n hc dX2_isTakenAs_3 0 rfl ?_
  refine z_iload_n hc dX2_isTakenAs_4 1 rfl ?_
  refine z_runVi (b0 := ad 7) (As := [.int x1]) (rest := [.ref (xa 2)]) hc dX2_isTakenAs_5 (fun _ _ h => tX2_kindOf h) mpX2_kindOf miX2_kindOf kmX2_112 ⟨rfl, rfl, Nat.le_of_ble_eq_true rfl, Nat.le_of_ble_eq_true rfl⟩ ⟨Nat.le_refl _, Nat.le_refl _⟩ zcC_rc7 rfl (Nat.le_of_ble_eq_true rfl) (fun b1 σ2 => ?_)
  refine z_tabld hc (zexT2 hc) dX2_isTakenAs_8 (fun v3 => ?_)
  refine z_iload_n hc dX2_isTakenAs_9 2 rfl ?_
  refine z_runSNi (As := [.int v3, .int x2]) (rest := []) hc dX2_isTakenAs_10 (fun _ _ h => tX7_bitAt h) mpX7_bitAt miX7_bitAt kmX2_62 ⟨rfl, rfl, Nat.le_of_ble_eq_true rfl, Nat.le_of_ble_eq_true rfl⟩ ⟨Nat.le_refl _, Nat.le_refl _⟩ rfl (Nat.le_of_ble_eq_true rfl) (fun b4 σ5 => ?_)
  refine z_iconst (v := (1 : Int32)) hc dX2_isTakenAs_13 (by decide) ?_
  refine z_icmp_ne (tgt := 21) hc dX2_isTakenAs_14 (by decide) ?_ ?_
  · refine z_iconst (v := (1 : Int32)) hc dX2_isTakenAs_17 (by decide) ?_
    refine z_goto (tgt := 22) hc dX2_isTakenAs_18 (by decide) ?_
    exact z_zret hc hr dX2_isTakenAs_22
  · refine z_iconst (v := (0 : Int32)) hc dX2_isTakenAs_21 (by decide) ?_
    exact z_zret hc hr dX2_isTakenAs_22
set_option maxRecDepth 100000 in
set_option maxHeartbeats 4000000 in
theorem tX7_as {l : Launch} {D : va_G} {ca : Nat → ClassId} {xa ad : Nat → Nat} {A : Nat → Prop} {N : Nat} {x1 : Int32} {x2 : Int32} {σ : zSt} {a : Int32} {τ : zSt} (h : fX7_as N x1 x2 σ = some (a, τ)) : zCt l yX7_as cX7_as 3 (some .int) rmX7_as D ca xa A (zwC ad ca) [.ref (ad 0), .int x1, .int x2] σ (zI a) τ := by
  refine z_met (inj := zI) (lv := [(0, .ref (ad 0)), (1, .int x1), (2, .int x2)]) (by decide) (Nat.le_of_ble_eq_true rfl) rfl ?_ h
  intro p e s m args below meth c hc hr
  unfold fX7_as
  refine z_aload_n hc dX7_as_0 0 rfl ?_
  refine gfX7_26 hc dX7_as_1 ?_
  refine z_iload_n hc dX7_as_4 1 rfl ?_
  refine z_runVNi (b0 := ad 7) (As := [.int x1]) (rest := []) hc dX7_as_5 (fun _ _ h => tX2_hasNode h) mpX2_hasNode miX2_hasNode kmX7_125 ⟨rfl, rfl, Nat.le_of_ble_eq_true rfl, Nat.le_of_ble_eq_true rfl⟩ ⟨Nat.le_refl _, Nat.le_refl _⟩ zcC_rc7 rfl (Nat.le_of_ble_eq_true rfl) (fun b1 σ2 => ?_)
  refine z_if_eq (tgt := 20) hc dX7_as_8 (by decide) ?_ ?_
  · refine z_ldc hc dX7_as_20 kcX7_66 ?_
    exact z_iret hc hr dX7_as_22
  · refine z_iload_n hc dX7_as_11 2 rfl ?_
    refine z_iconst (v := (0 : Int32)) hc dX7_as_12 (by decide) ?_
    refine z_iconst (v := (5 : Int32)) hc dX7_as_13 (by decide) ?_
    refine z_runSi (As := [.int x2, .int (0 : Int32), .int (5 : Int32)]) (rest := []) hc dX7_as_14 (fun _ _ h => tX7_isWithin h) mpX7_isWithin miX7_isWithin kmX7_62 ⟨rfl, rfl, Nat.le_of_ble_eq_true rfl, Nat.le_of_ble_eq_true rfl⟩ ⟨Nat.le_refl _, Nat.le_refl _⟩ rfl (Nat.le_of_ble_eq_true rfl) (fun b3 σ4 => ?_)
    refine z_if_ne (tgt := 23) hc dX7_as_17 (by decide) ?_ ?_
    · refine z_ldc hc dX7_as_20 kcX7_66 ?_
      exact z_iret hc hr dX7_as_22
    · refine z_aload_n hc dX7_as_23 0 rfl ?_
      refine gfX7_26 hc dX7_as_24 ?_
      refine z_iload_n hc dX7_as_27 1 rfl ?_
      refine z_iload_n hc dX7_as_28 2 rfl ?_
      refine z_runVNi (b0 := ad 7) (As := [.int x1, .int x2]) (rest := []) hc dX7_as_29 (fun _ _ h => tX2_isTakenAs h) mpX2_isTakenAs miX2_isTakenAs kmX7_275 ⟨rfl, rfl, Nat.le_of_ble_eq_true rfl, Nat.le_of_ble_eq_true rfl⟩ ⟨Nat.le_refl _, Nat.le_refl _⟩ zcC_rc7 rfl (Nat.le_of_ble_eq_true rfl) (fun b5 σ6 => ?_)
      refine z_if_ne (tgt := 41) hc dX7_as_32 (by decide) ?_ ?_
      · refine z_aload_n hc dX7_as_35 0 rfl ?_
        refine z_iconst (v := (3 : Int32)) hc dX7_as_36 (by decide) ?_
        refine z_runVi (b0 := ad 0) (As := [.int (3 : Int32)]) (rest := []) hc dX7_as_37 (fun _ _ h => tX7_found h) mpX7_found miX7_found kmX7_67 ⟨rfl, rfl, Nat.le_of_ble_eq_true rfl, Nat.le_of_ble_eq_true rfl⟩ ⟨Nat.le_refl _, Nat.le_refl _⟩ zcC_rc0 rfl (Nat.le_of_ble_eq_true rfl) (fun b7 σ8 => ?_)
        exact z_iret hc hr dX7_as_40
      · refine z_aload_n hc dX7_as_41 0 rfl ?_
        refine z_iload_n hc dX7_as_42 1 rfl ?_
        refine z_runVi (b0 := ad 0) (As := [.int x1]) (rest := []) hc dX7_as_43 (fun _ _ h => tX7_unfound h) mpX7_unfound miX7_unfound kmX7_75 ⟨rfl, rfl, Nat.le_of_ble_eq_true rfl, Nat.le_of_ble_eq_true rfl⟩ ⟨Nat.le_refl _, Nat.le_refl _⟩ zcC_rc0 rfl (Nat.le_of_ble_eq_true rfl) (fun b9 σ10 => ?_)
        exact z_iret hc hr dX7_as_46
set_option maxRecDepth 100000 in
set_option maxHeartbeats 4000000 in
theorem tX8_isOf_34 {p : Program} {l : Launch} {e : Env} {s : State} {m : MethodId} {args : Array Value} {below : List Frame} {meth : Method} {c : Code} {D : va_G} {ca : Nat → ClassId} {xa ad : Nat → Nat} {A : Nat → Prop} (hc : zCx p s m args meth c cX8_isOf 2 RX8 D ca xa A (zwM ad ca)) (hr : meth.sig.returnType = (some .boolean)) (N : Nat)    (σ : zSt) : zGO p l e rmX8_isOf s m args below meth c 0 0 (zwM ad ca) D A 2 (zQ below D A (zwM ad ca) args s zI) (fX8_isOf_34 N σ) σ 34 [] [] := by
  unfold fX8_isOf_34
  refine z_iconst (v := (1 : Int32)) hc dX8_isOf_34 (by decide) ?_
  refine z_goto (tgt := 39) hc dX8_isOf_35 (by decide) ?_
  exact z_zret hc hr dX8_isOf_39
set_option maxRecDepth 100000 in
set_option maxHeartbeats 4000000 in
theorem tX8_isOf_24 {p : Program} {l : Launch} {e : Env} {s : State} {m : MethodId} {args : Array Value} {below : List Frame} {meth : Method} {c : Code} {D : va_G} {ca : Nat → ClassId} {xa ad : Nat → Nat} {A : Nat → Prop} (hc : zCx p s m args meth c cX8_isOf 2 RX8 D ca xa A (zwM ad ca)) (hr : meth.sig.returnType = (some .boolean)) (N : Nat)   (x0 : Int32) (x1 : Int32) (σ : zSt) : zGO p l e rmX8_isOf s m args below meth c 0 0 (zwM ad ca) D A 2 (zQ below D A (zwM ad ca) args s zI) (fX8_isOf_24 N x0 x1 σ) σ 24 [(0, .int x0), (1, .int x1)] [] := by
  unfold fX8_isOf_24
  refine z_iload_n hc dX8_isOf_24 1 rfl ?_
  refine z_iconst (v := (3 : Int32)) hc dX8_isOf_25 (by decide) ?_
  refine z_icmp_ne (tgt := 38) hc dX8_isOf_26 (by decide) ?_ ?_
  · refine z_iload_n hc dX8_isOf_29 0 rfl ?_
    refine z_iconst (v := (4 : Int32)) hc dX8_isOf_30 (by decide) ?_
    refine z_icmp_ne (tgt := 38) hc dX8_isOf_31 (by decide) ?_ ?_
    · refine z_sub [] rfl ?_
      exact tX8_isOf_34 hc hr N _
    · refine z_iconst (v := (0 : Int32)) hc dX8_isOf_38 (by decide) ?_
      exact z_zret hc hr dX8_isOf_39
  · refine z_iconst (v := (0 : Int32)) hc dX8_isOf_38 (by decide) ?_
    exact z_zret hc hr dX8_isOf_39
set_option maxRecDepth 100000 in
set_option maxHeartbeats 4000000 in
theorem tX8_isOf {l : Launch} {D : va_G} {ca : Nat → ClassId} {xa ad : Nat → Nat} {A : Nat → Prop} {N : Nat} {x0 : Int32} {x1 : Int32} {σ : zSt} {a : Int32} {τ : zSt} (h : fX8_isOf N x0 x1 σ = some (a, τ)) : zCt l yX8_isOf cX8_isOf 2 (some .boolean) rmX8_isOf D ca xa A (zwM ad ca) [.int x0, .int x1] σ (zI a) τ := by
  refine z_met (inj := zI) (lv := [(0, .int x0), (1, .int x1)]) (by decide) (Nat.le_of_ble_eq_true rfl) rfl ?_ h
  intro p e s m args below meth c hc hr
  unfold fX8_isOf
  refine z_iload_n hc dX8_isOf_0 1 rfl ?_
  refine z_if_eq (tgt := 34) hc dX8_isOf_1 (by decide) ?_ ?_
  · refine z_sub [] rfl ?_
    exact tX8_isOf_34 hc hr N _
  · refine z_iload_n hc dX8_isOf_4 0 rfl ?_
    refine z_iload_n hc dX8_isOf_5 1 rfl ?_
    refine z_icmp_eq (tgt := 34) hc dX8_isOf_6 (by decide) ?_ ?_
    · refine z_sub [] rfl ?_
      exact tX8_isOf_34 hc hr N _
    · refine z_iload_n hc dX8_isOf_9 1 rfl ?_
      refine z_iconst (v := (1 : Int32)) hc dX8_isOf_10 (by decide) ?_
      refine z_icmp_ne (tgt := 24) hc dX8_isOf_11 (by decide) ?_ ?_
      · refine z_iload_n hc dX8_isOf_14 0 rfl ?_
        refine z_iconst (v := (2 : Int32)) hc dX8_isOf_15 (by decide) ?_
        refine z_icmp_eq (tgt := 34) hc dX8_isOf_16 (by decide) ?_ ?_
        · refine z_sub [] rfl ?_
          exact tX8_isOf_34 hc hr N _
        · refine z_iload_n hc dX8_isOf_19 0 rfl ?_
          refine z_iconst (v := (5 : Int32)) hc dX8_isOf_20 (by decide) ?_
          refine z_icmp_eq (tgt := 34) hc dX8_isOf_21 (by decide) ?_ ?_
          · refine z_sub [] rfl ?_
            exact tX8_isOf_34 hc hr N _
          · exact tX8_isOf_24 hc hr N _ _ _
      · exact tX8_isOf_24 hc hr N _ _ _
set_option maxRecDepth 100000 in
set_option maxHeartbeats 4000000 in
theorem tX8_as {l : Launch} {D : va_G} {ca : Nat → ClassId} {xa ad : Nat → Nat} {A : Nat → Prop} {N : Nat} {x1 : Int32} {x2 : Int32} {σ : zSt} {a : Int32} {τ : zSt} (h : fX8_as N x1 x2 σ = some (a, τ)) : zCt l yX8_as cX8_as 3 (some .int) rmX8_as D ca xa A (zwM ad ca) [.ref (ad 0), .int x1, .int x2] σ (zI a) τ := by
  refine z_met (inj := zI) (lv := [(0, .ref (ad 0)), (1, .int x1), (2, .int x2)]) (by decide) (Nat.le_of_ble_eq_true rfl) rfl ?_ h
  intro p e s m args below meth c hc hr
  unfold fX8_as
  refine z_aload_n hc dX8_as_0 0 rfl ?_
  refine z_iconst (v := (0 : Int32)) hc dX8_as_1 (by decide) ?_
  refine pfX8_78 hc dX8_as_2 (fun σ1 => ?_)
  refine z_aload_n hc dX8_as_5 0 rfl ?_
  refine z_iload_n hc dX8_as_6 1 rfl ?_
  refine z_runVi (b0 := ad 0) (As := [.int x1]) (rest := []) hc dX8_as_7 (fun _ _ h => tX8_isNode h) mpX8_isNode miX8_isNode kmX8_204 ⟨rfl, rfl, Nat.le_of_ble_eq_true rfl, Nat.le_of_ble_eq_true rfl⟩ ⟨Nat.le_refl _, Nat.le_refl _⟩ zcM_rc0 rfl (Nat.le_of_ble_eq_true rfl) (fun b2 σ3 => ?_)
  refine z_if_eq (tgt := 25) hc dX8_as_10 (by decide) ?_ ?_
  · refine z_ldc hc dX8_as_25 kcX8_98 ?_
    exact z_iret hc hr dX8_as_27
  · refine z_iload_n hc dX8_as_13 2 rfl ?_
    refine z_i2l hc dX8_as_14 ?_
    refine z_lconst (v := (0 : Int64)) hc dX8_as_15 (by decide) ?_
    refine z_ldc2 hc dX8_as_16 kcX8_254 ?_
    refine z_runSi (As := [.long x2.toInt64, .long (0 : Int64), .long (5 : Int64)]) (rest := []) hc dX8_as_19 (fun _ _ h => tX8_in h) mpX8_in miX8_in kmX8_88 ⟨rfl, rfl, Nat.le_of_ble_eq_true rfl, Nat.le_of_ble_eq_true rfl⟩ ⟨Nat.le_refl _, Nat.le_refl _⟩ rfl (Nat.le_of_ble_eq_true rfl) (fun b4 σ5 => ?_)
    refine z_if_ne (tgt := 28) hc dX8_as_22 (by decide) ?_ ?_
    · refine z_ldc hc dX8_as_25 kcX8_98 ?_
      exact z_iret hc hr dX8_as_27
    · refine z_aload_n hc dX8_as_28 0 rfl ?_
      refine z_iconst (v := (0 : Int32)) hc dX8_as_29 (by decide) ?_
      refine pfX8_82 hc dX8_as_30 (fun σ6 => ?_)
      refine z_aload_n hc dX8_as_33 0 rfl ?_
      refine z_iload_n hc dX8_as_34 1 rfl ?_
      refine z_runVi (b0 := ad 0) (As := [.int x1]) (rest := []) hc dX8_as_35 (fun _ _ h => tX8_kindOf h) mpX8_kindOf miX8_kindOf kmX8_330 ⟨rfl, rfl, Nat.le_of_ble_eq_true rfl, Nat.le_of_ble_eq_true rfl⟩ ⟨Nat.le_refl _, Nat.le_refl _⟩ zcM_rc0 rfl (Nat.le_of_ble_eq_true rfl) (fun b7 σ8 => ?_)
      refine z_iload_n hc dX8_as_38 2 rfl ?_
      refine z_runSi (As := [.int b7, .int x2]) (rest := []) hc dX8_as_39 (fun _ _ h => tX8_isOf h) mpX8_isOf miX8_isOf kmX8_333 ⟨rfl, rfl, Nat.le_of_ble_eq_true rfl, Nat.le_of_ble_eq_true rfl⟩ ⟨Nat.le_refl _, Nat.le_refl _⟩ rfl (Nat.le_of_ble_eq_true rfl) (fun b9 σ10 => ?_)
      refine z_if_eq (tgt := 49) hc dX8_as_42 (by decide) ?_ ?_
      · refine z_aload_n hc dX8_as_49 0 rfl ?_
        refine z_iconst (v := (3 : Int32)) hc dX8_as_50 (by decide) ?_
        refine z_runVi (b0 := ad 0) (As := [.int (3 : Int32)]) (rest := []) hc dX8_as_51 (fun _ _ h => tX8_finding h) mpX8_finding miX8_finding kmX8_99 ⟨rfl, rfl, Nat.le_of_ble_eq_true rfl, Nat.le_of_ble_eq_true rfl⟩ ⟨Nat.le_refl _, Nat.le_refl _⟩ zcM_rc0 rfl (Nat.le_of_ble_eq_true rfl) (fun b11 σ12 => ?_)
        exact z_iret hc hr dX8_as_54
      · refine z_iload_n hc dX8_as_45 1 rfl ?_
        refine z_goto (tgt := 54) hc dX8_as_46 (by decide) ?_
        exact z_iret hc hr dX8_as_54
set_option maxRecDepth 100000 in
set_option maxHeartbeats 4000000 in
theorem tX0_start {l : Launch} {D : va_G} {ca : Nat → ClassId} {xa ad : Nat → Nat} {A : Nat → Prop} {N : Nat} {x1 : Int32} {σ : zSt} {a : Unit} {τ : zSt} (h : fX0_start N x1 σ = some (a, τ)) : zCt l yX0_start cX0_start 2 none rmX0_start D ca xa A (zwC ad ca) [.ref (ad 33), .int x1] σ (zV a) τ := by
  refine z_met (inj := zV) (lv := [(0, .ref (ad 33)), (1, .int x1)]) (by decide) (Nat.le_of_ble_eq_true rfl) rfl ?_ h
  intro p e s m args below meth c hc hr
  unfold fX0_start
  refine z_aload_n hc dX0_start_0 0 rfl ?_
  refine z_iconst (v := (0 : Int32)) hc dX0_start_1 (by decide) ?_
  refine pfX0_15 hc dX0_start_2 (fun σ1 => ?_)
  refine z_aload_n hc dX0_start_5 0 rfl ?_
  refine z_iload_n hc dX0_start_6 1 rfl ?_
  refine pfX0_19 hc dX0_start_7 (fun σ2 => ?_)
  exact z_vret hc hr dX0_start_10
set_option maxRecDepth 100000 in
set_option maxHeartbeats 4000000 in
theorem tX0_begin {l : Launch} {D : va_G} {ca : Nat → ClassId} {xa ad : Nat → Nat} {A : Nat → Prop} {N : Nat} {x1 : Int32} {σ : zSt} {a : Unit} {τ : zSt} (h : fX0_begin N x1 σ = some (a, τ)) : zCt l yX0_begin cX0_begin 2 none rmX0_begin D ca xa A (zwC ad ca) [.ref (ad 33), .int x1] σ (zV a) τ := by
  refine z_met (inj := zV) (lv := [(0, .ref (ad 33)), (1, .int x1)]) (by decide) (Nat.le_of_ble_eq_true rfl) rfl ?_ h
  intro p e s m args below meth c hc hr
  unfold fX0_begin
  refine z_aload_n hc dX0_begin_0 0 rfl ?_
  refine gfX0_15 hc dX0_begin_1 ?_
  refine z_bipush (v := (16 : Int32)) hc dX0_begin_4 (by decide) ?_
  refine z_icmp_lt (tgt := 10) hc dX0_begin_6 (by decide) ?_ ?_
  · refine z_aload_n hc dX0_begin_10 0 rfl ?_
    refine gfX0_11 hc dX0_begin_11 ?_
    refine z_aload_n hc dX0_begin_14 0 rfl ?_
    refine gfX0_15 hc dX0_begin_15 ?_
    refine z_iload_n hc dX0_begin_18 1 rfl ?_
    refine z_iastore hc 34 (by decide) (fun _ _ => rfl) dX0_begin_19 (fun σ1 => ?_)
    refine z_aload_n hc dX0_begin_20 0 rfl ?_
    refine z_dup hc dX0_begin_21 rfl ?_
    refine gfX0_15 hc dX0_begin_22 ?_
    refine z_iconst (v := (1 : Int32)) hc dX0_begin_25 (by decide) ?_
    refine z_iadd hc dX0_begin_26 ?_
    refine pfX0_15 hc dX0_begin_27 (fun σ2 => ?_)
    exact z_vret hc hr dX0_begin_30
  · exact z_vret hc hr dX0_begin_9
set_option maxRecDepth 100000 in
set_option maxHeartbeats 4000000 in
theorem tX0_size10 {l : Launch} {D : va_G} {ca : Nat → ClassId} {xa ad : Nat → Nat} {A : Nat → Prop} {N : Nat} {x2 : Int32} {σ : zSt} {a : Int32} {τ : zSt} (h : fX0_size10 N x2 σ = some (a, τ)) : zCt l yX0_size10 cX0_size10 3 (some .int) rmX0_size10 D ca xa A (zwC ad ca) [.ref (ad 33), .ref (ad 7), .int x2] σ (zI a) τ := by
  refine z_met (inj := zI) (lv := [(0, .ref (ad 33)), (1, .ref (ad 7)), (2, .int x2)]) (by decide) (Nat.le_of_ble_eq_true rfl) rfl ?_ h
  intro p e s m args below meth c hc hr
  unfold fX0_size10
  refine z_aload_n hc dX0_size10_0 0 rfl ?_
  refine z_bipush (v := (10 : Int32)) hc dX0_size10_1 (by decide) ?_
  refine z_runVv (b0 := ad 33) (As := [.int (10 : Int32)]) (rest := []) hc dX0_size10_3 (fun _ _ h => tX0_begin h) mpX0_begin miX0_begin kmX0_56 ⟨rfl, rfl, Nat.le_of_ble_eq_true rfl, Nat.le_of_ble_eq_true rfl⟩ ⟨Nat.le_refl _, Nat.le_refl _⟩ zcC_rc33 rfl (Nat.le_of_ble_eq_true rfl) (fun b1 σ2 => ?_)
  refine z_aload_n hc dX0_size10_6 1 rfl ?_
  refine z_iload_n hc dX0_size10_7 2 rfl ?_
  refine z_runVNi (b0 := ad 7) (As := [.int x2]) (rest := []) hc dX0_size10_8 (fun _ _ h => tX2_timesPart h) mpX2_timesPart miX2_timesPart kmX0_60 ⟨rfl, rfl, Nat.le_of_ble_eq_true rfl, Nat.le_of_ble_eq_true rfl⟩ ⟨Nat.le_refl _, Nat.le_refl _⟩ zcC_rc7 rfl (Nat.le_of_ble_eq_true rfl) (fun b3 σ4 => ?_)
  exact z_iret hc hr dX0_size10_11
set_option maxRecDepth 100000 in
set_option maxHeartbeats 4000000 in
theorem tX0_size11 {l : Launch} {D : va_G} {ca : Nat → ClassId} {xa ad : Nat → Nat} {A : Nat → Prop} {N : Nat} {x2 : Int32} {σ : zSt} {a : Int32} {τ : zSt} (h : fX0_size11 N x2 σ = some (a, τ)) : zCt l yX0_size11 cX0_size11 3 (some .int) rmX0_size11 D ca xa A (zwC ad ca) [.ref (ad 33), .ref (ad 7), .int x2] σ (zI a) τ := by
  refine z_met (inj := zI) (lv := [(0, .ref (ad 33)), (1, .ref (ad 7)), (2, .int x2)]) (by decide) (Nat.le_of_ble_eq_true rfl) rfl ?_ h
  intro p e s m args below meth c hc hr
  unfold fX0_size11
  refine z_aload_n hc dX0_size11_0 0 rfl ?_
  refine z_bipush (v := (11 : Int32)) hc dX0_size11_1 (by decide) ?_
  refine z_runVv (b0 := ad 33) (As := [.int (11 : Int32)]) (rest := []) hc dX0_size11_3 (fun _ _ h => tX0_begin h) mpX0_begin miX0_begin kmX0_56 ⟨rfl, rfl, Nat.le_of_ble_eq_true rfl, Nat.le_of_ble_eq_true rfl⟩ ⟨Nat.le_refl _, Nat.le_refl _⟩ zcC_rc33 rfl (Nat.le_of_ble_eq_true rfl) (fun b1 σ2 => ?_)
  refine z_aload_n hc dX0_size11_6 0 rfl ?_
  refine z_aload_n hc dX0_size11_7 1 rfl ?_
  refine z_iload_n hc dX0_size11_8 2 rfl ?_
  refine z_runVi (b0 := ad 33) (As := [.ref (ad 7), .int x2]) (rest := []) hc dX0_size11_9 (fun _ _ h => tX0_size10 h) mpX0_size10 miX0_size10 kmX0_44 ⟨rfl, rfl, Nat.le_of_ble_eq_true rfl, Nat.le_of_ble_eq_true rfl⟩ ⟨Nat.le_refl _, Nat.le_refl _⟩ zcC_rc33 rfl (Nat.le_of_ble_eq_true rfl) (fun b3 σ4 => ?_)
  refine z_aload_n hc dX0_size11_12 1 rfl ?_
  refine gfX0_63 hc dX0_size11_13 ?_
  refine z_iload_n hc dX0_size11_16 2 rfl ?_
  refine z_iaload hc 9 (by decide) rfl dX0_size11_17 (fun v5 => ?_)
  refine z_iadd hc dX0_size11_18 ?_
  exact z_iret hc hr dX0_size11_19
set_option maxRecDepth 100000 in
set_option maxHeartbeats 4000000 in
theorem tX0_size12 {l : Launch} {D : va_G} {ca : Nat → ClassId} {xa ad : Nat → Nat} {A : Nat → Prop} {N : Nat} {x2 : Int32} {σ : zSt} {a : Int32} {τ : zSt} (h : fX0_size12 N x2 σ = some (a, τ)) : zCt l yX0_size12 cX0_size12 3 (some .int) rmX0_size12 D ca xa A (zwC ad ca) [.ref (ad 33), .ref (ad 7), .int x2] σ (zI a) τ := by
  refine z_met (inj := zI) (lv := [(0, .ref (ad 33)), (1, .ref (ad 7)), (2, .int x2)]) (by decide) (Nat.le_of_ble_eq_true rfl) rfl ?_ h
  intro p e s m args below meth c hc hr
  unfold fX0_size12
  refine z_aload_n hc dX0_size12_0 0 rfl ?_
  refine z_bipush (v := (12 : Int32)) hc dX0_size12_1 (by decide) ?_
  refine z_runVv (b0 := ad 33) (As := [.int (12 : Int32)]) (rest := []) hc dX0_size12_3 (fun _ _ h => tX0_begin h) mpX0_begin miX0_begin kmX0_56 ⟨rfl, rfl, Nat.le_of_ble_eq_true rfl, Nat.le_of_ble_eq_true rfl⟩ ⟨Nat.le_refl _, Nat.le_refl _⟩ zcC_rc33 rfl (Nat.le_of_ble_eq_true rfl) (fun b1 σ2 => ?_)
  refine z_iconst (v := (2 : Int32)) hc dX0_size12_6 (by decide) ?_
  refine z_aload_n hc dX0_size12_7 0 rfl ?_
  refine z_aload_n hc dX0_size12_8 1 rfl ?_
  refine z_iload_n hc dX0_size12_9 2 rfl ?_
  refine z_runVi (b0 := ad 33) (As := [.ref (ad 7), .int x2]) (rest := [.int (2 : Int32)]) hc dX0_size12_10 (fun _ _ h => tX0_size11 h) mpX0_size11 miX0_size11 kmX0_28 ⟨rfl, rfl, Nat.le_of_ble_eq_true rfl, Nat.le_of_ble_eq_true rfl⟩ ⟨Nat.le_refl _, Nat.le_refl _⟩ zcC_rc33 rfl (Nat.le_of_ble_eq_true rfl) (fun b3 σ4 => ?_)
  refine z_imul hc dX0_size12_13 ?_
  exact z_iret hc hr dX0_size12_14
set_option maxRecDepth 100000 in
set_option maxHeartbeats 4000000 in
theorem tX0_mark20 {l : Launch} {D : va_G} {ca : Nat → ClassId} {xa ad : Nat → Nat} {A : Nat → Prop} {N : Nat} {x1 : Int32} {σ : zSt} {a : Int32} {τ : zSt} (h : fX0_mark20 N x1 σ = some (a, τ)) : zCt l yX0_mark20 cX0_mark20 2 (some .int) rmX0_mark20 D ca xa A (zwC ad ca) [.ref (ad 33), .int x1] σ (zI a) τ := by
  refine z_met (inj := zI) (lv := [(0, .ref (ad 33)), (1, .int x1)]) (by decide) (Nat.le_of_ble_eq_true rfl) rfl ?_ h
  intro p e s m args below meth c hc hr
  unfold fX0_mark20
  refine z_aload_n hc dX0_mark20_0 0 rfl ?_
  refine z_bipush (v := (20 : Int32)) hc dX0_mark20_1 (by decide) ?_
  refine z_runVv (b0 := ad 33) (As := [.int (20 : Int32)]) (rest := []) hc dX0_mark20_3 (fun _ _ h => tX0_begin h) mpX0_begin miX0_begin kmX0_56 ⟨rfl, rfl, Nat.le_of_ble_eq_true rfl, Nat.le_of_ble_eq_true rfl⟩ ⟨Nat.le_refl _, Nat.le_refl _⟩ zcC_rc33 rfl (Nat.le_of_ble_eq_true rfl) (fun b1 σ2 => ?_)
  refine z_iload_n hc dX0_mark20_6 1 rfl ?_
  exact z_iret hc hr dX0_mark20_7
set_option maxRecDepth 100000 in
set_option maxHeartbeats 4000000 in
theorem tX0_mark21 {l : Launch} {D : va_G} {ca : Nat → ClassId} {xa ad : Nat → Nat} {A : Nat → Prop} {N : Nat} {x1 : Int32} {σ : zSt} {a : Int32} {τ : zSt} (h : fX0_mark21 N x1 σ = some (a, τ)) : zCt l yX0_mark21 cX0_mark21 2 (some .int) rmX0_mark21 D ca xa A (zwC ad ca) [.ref (ad 33), .int x1] σ (zI a) τ := by
  refine z_met (inj := zI) (lv := [(0, .ref (ad 33)), (1, .int x1)]) (by decide) (Nat.le_of_ble_eq_true rfl) rfl ?_ h
  intro p e s m args below meth c hc hr
  unfold fX0_mark21
  refine z_aload_n hc dX0_mark21_0 0 rfl ?_
  refine z_bipush (v := (21 : Int32)) hc dX0_mark21_1 (by decide) ?_
  refine z_runVv (b0 := ad 33) (As := [.int (21 : Int32)]) (rest := []) hc dX0_mark21_3 (fun _ _ h => tX0_begin h) mpX0_begin miX0_begin kmX0_56 ⟨rfl, rfl, Nat.le_of_ble_eq_true rfl, Nat.le_of_ble_eq_true rfl⟩ ⟨Nat.le_refl _, Nat.le_refl _⟩ zcC_rc33 rfl (Nat.le_of_ble_eq_true rfl) (fun b1 σ2 => ?_)
  refine z_aload_n hc dX0_mark21_6 0 rfl ?_
  refine z_iload_n hc dX0_mark21_7 1 rfl ?_
  refine z_runVi (b0 := ad 33) (As := [.int x1]) (rest := []) hc dX0_mark21_8 (fun _ _ h => tX0_mark20 h) mpX0_mark20 miX0_mark20 kmX0_53 ⟨rfl, rfl, Nat.le_of_ble_eq_true rfl, Nat.le_of_ble_eq_true rfl⟩ ⟨Nat.le_refl _, Nat.le_refl _⟩ zcC_rc33 rfl (Nat.le_of_ble_eq_true rfl) (fun b3 σ4 => ?_)
  refine z_bipush (v := (100 : Int32)) hc dX0_mark21_11 (by decide) ?_
  refine z_aload_n hc dX0_mark21_13 0 rfl ?_
  refine gfX0_19 hc dX0_mark21_14 ?_
  refine z_iload_n hc dX0_mark21_17 1 rfl ?_
  refine z_runSNi (As := [.int (σ4.1 33 2), .int x1]) (rest := [.int (100 : Int32), .int b3]) hc dX0_mark21_18 (fun _ _ h => tX7_bitAt h) mpX7_bitAt miX7_bitAt kmX0_72 ⟨rfl, rfl, Nat.le_of_ble_eq_true rfl, Nat.le_of_ble_eq_true rfl⟩ ⟨Nat.le_refl _, Nat.le_refl _⟩ rfl (Nat.le_of_ble_eq_true rfl) (fun b5 σ6 => ?_)
  refine z_imul hc dX0_mark21_21 ?_
  refine z_iadd hc dX0_mark21_22 ?_
  exact z_iret hc hr dX0_mark21_23
set_option maxRecDepth 100000 in
set_option maxHeartbeats 4000000 in
theorem tX0_mark22 {l : Launch} {D : va_G} {ca : Nat → ClassId} {xa ad : Nat → Nat} {A : Nat → Prop} {N : Nat} {x2 : Int32} {σ : zSt} {a : Int32} {τ : zSt} (h : fX0_mark22 N x2 σ = some (a, τ)) : zCt l yX0_mark22 cX0_mark22 3 (some .int) rmX0_mark22 D ca xa A (zwC ad ca) [.ref (ad 33), .ref (ad 7), .int x2] σ (zI a) τ := by
  refine z_met (inj := zI) (lv := [(0, .ref (ad 33)), (1, .ref (ad 7)), (2, .int x2)]) (by decide) (Nat.le_of_ble_eq_true rfl) rfl ?_ h
  intro p e s m args below meth c hc hr
  unfold fX0_mark22
  refine z_aload_n hc dX0_mark22_0 0 rfl ?_
  refine z_bipush (v := (22 : Int32)) hc dX0_mark22_1 (by decide) ?_
  refine z_runVv (b0 := ad 33) (As := [.int (22 : Int32)]) (rest := []) hc dX0_mark22_3 (fun _ _ h => tX0_begin h) mpX0_begin miX0_begin kmX0_56 ⟨rfl, rfl, Nat.le_of_ble_eq_true rfl, Nat.le_of_ble_eq_true rfl⟩ ⟨Nat.le_refl _, Nat.le_refl _⟩ zcC_rc33 rfl (Nat.le_of_ble_eq_true rfl) (fun b1 σ2 => ?_)
  refine z_aload_n hc dX0_mark22_6 0 rfl ?_
  refine z_iload_n hc dX0_mark22_7 2 rfl ?_
  refine z_runVi (b0 := ad 33) (As := [.int x2]) (rest := []) hc dX0_mark22_8 (fun _ _ h => tX0_mark20 h) mpX0_mark20 miX0_mark20 kmX0_53 ⟨rfl, rfl, Nat.le_of_ble_eq_true rfl, Nat.le_of_ble_eq_true rfl⟩ ⟨Nat.le_refl _, Nat.le_refl _⟩ zcC_rc33 rfl (Nat.le_of_ble_eq_true rfl) (fun b3 σ4 => ?_)
  refine z_aload_n hc dX0_mark22_11 1 rfl ?_
  refine gfX0_76 hc dX0_mark22_12 ?_
  refine z_iadd hc dX0_mark22_15 ?_
  exact z_iret hc hr dX0_mark22_16
set_option maxRecDepth 100000 in
set_option maxHeartbeats 4000000 in
theorem tX0_mark_32 {p : Program} {l : Launch} {e : Env} {s : State} {m : MethodId} {args : Array Value} {below : List Frame} {meth : Method} {c : Code} {D : va_G} {ca : Nat → ClassId} {xa ad : Nat → Nat} {A : Nat → Prop} (hc : zCx p s m args meth c cX0_mark 3 RX0 D ca xa A (zwC ad ca)) (hr : meth.sig.returnType = (some .int)) (N : Nat)   (x2 : Int32) (σ : zSt) : zGO p l e rmX0_mark s m args below meth c 0 0 (zwC ad ca) D A 3 (zQ below D A (zwC ad ca) args s zI) (fX0_mark_32 N x2 σ) σ 32 [(0, .ref (ad 33)), (2, .int x2)] [] := by
  unfold fX0_mark_32
  refine z_aload_n hc dX0_mark_32 0 rfl ?_
  refine z_iload_n hc dX0_mark_33 1 rfl ?_
  refine z_runVi (b0 := ad 33) (As := [.int x2]) (rest := []) hc dX0_mark_34 (fun _ _ h => tX0_mark21 h) mpX0_mark21 miX0_mark21 kmX0_47 ⟨rfl, rfl, Nat.le_of_ble_eq_true rfl, Nat.le_of_ble_eq_true rfl⟩ ⟨Nat.le_refl _, Nat.le_refl _⟩ zcC_rc33 rfl (Nat.le_of_ble_eq_true rfl) (fun b1 σ2 => ?_)
  exact z_iret hc hr dX0_mark_37
set_option maxRecDepth 100000 in
set_option maxHeartbeats 4000000 in
theorem tX0_mark {l : Launch} {D : va_G} {ca : Nat → ClassId} {xa ad : Nat → Nat} {A : Nat → Prop} {N : Nat} {x2 : Int32} {σ : zSt} {a : Int32} {τ : zSt} (h : fX0_mark N x2 σ = some (a, τ)) : zCt l yX0_mark cX0_mark 3 (some .int) rmX0_mark D ca xa A (zwC ad ca) [.ref (ad 33), .ref (ad 7), .int x2] σ (zI a) τ := by
  refine z_met (inj := zI) (lv := [(0, .ref (ad 33)), (1, .ref (ad 7)), (2, .int x2)]) (by decide) (Nat.le_of_ble_eq_true rfl) rfl ?_ h
  intro p e s m args below meth c hc hr
  unfold fX0_mark
  refine z_aload_n hc dX0_mark_0 1 rfl ?_
  refine z_iload_n hc dX0_mark_1 2 rfl ?_
  refine z_runVNi (b0 := ad 7) (As := [.int x2]) (rest := []) hc dX0_mark_2 (fun _ _ h => tX2_kindOf h) mpX2_kindOf miX2_kindOf kmX0_22 ⟨rfl, rfl, Nat.le_of_ble_eq_true rfl, Nat.le_of_ble_eq_true rfl⟩ ⟨Nat.le_refl _, Nat.le_refl _⟩ zcC_rc7 rfl (Nat.le_of_ble_eq_true rfl) (fun b1 σ2 => ?_)
  refine z_ite (fun h3 => ?_) (fun h3 => ?_)
  · refine z_swIn (tgt := 32) (off := 27) hc dX0_mark_5 (by rw [h3]; decide) (by rw [h3]; decide) (by rw [h3]; decide) (by decide) ?_
    refine z_sub [0, 2] rfl ?_
    exact tX0_mark_32 hc hr N _ _
  refine z_ite (fun h4 => ?_) (fun h4 => ?_)
  · refine z_swIn (tgt := 32) (off := 27) hc dX0_mark_5 (by rw [h4]; decide) (by rw [h4]; decide) (by rw [h4]; decide) (by decide) ?_
    refine z_sub [0, 2] rfl ?_
    exact tX0_mark_32 hc hr N _ _
  refine z_ite (fun h7 => ?_) (fun h7 => ?_)
  · refine z_swIn (tgt := 38) (off := 33) hc dX0_mark_5 (by rw [h7]; decide) (by rw [h7]; decide) (by rw [h7]; decide) (by decide) ?_
    refine z_aload_n hc dX0_mark_38 0 rfl ?_
    refine z_aload_n hc dX0_mark_39 1 rfl ?_
    refine z_iload_n hc dX0_mark_40 2 rfl ?_
    refine z_runVi (b0 := ad 33) (As := [.ref (ad 7), .int x2]) (rest := []) hc dX0_mark_41 (fun _ _ h => tX0_mark22 h) mpX0_mark22 miX0_mark22 kmX0_50 ⟨rfl, rfl, Nat.le_of_ble_eq_true rfl, Nat.le_of_ble_eq_true rfl⟩ ⟨Nat.le_refl _, Nat.le_refl _⟩ zcC_rc33 rfl (Nat.le_of_ble_eq_true rfl) (fun b5 σ6 => ?_)
    exact z_iret hc hr dX0_mark_44
  refine z_swOut (tgt := 45) hc dX0_mark_5 (zsw3_5 h3 h4 h7) (by decide) ?_
  refine z_aload_n hc dX0_mark_45 0 rfl ?_
  refine z_iload_n hc dX0_mark_46 2 rfl ?_
  refine z_runVi (b0 := ad 33) (As := [.int x2]) (rest := []) hc dX0_mark_47 (fun _ _ h => tX0_mark20 h) mpX0_mark20 miX0_mark20 kmX0_53 ⟨rfl, rfl, Nat.le_of_ble_eq_true rfl, Nat.le_of_ble_eq_true rfl⟩ ⟨Nat.le_refl _, Nat.le_refl _⟩ zcC_rc33 rfl (Nat.le_of_ble_eq_true rfl) (fun b8 σ9 => ?_)
  exact z_iret hc hr dX0_mark_50
set_option maxRecDepth 100000 in
set_option maxHeartbeats 4000000 in
theorem tX0_size13 {l : Launch} {D : va_G} {ca : Nat → ClassId} {xa ad : Nat → Nat} {A : Nat → Prop} {N : Nat} {x2 : Int32} {σ : zSt} {a : Int32} {τ : zSt} (h : fX0_size13 N x2 σ = some (a, τ)) : zCt l yX0_size13 cX0_size13 3 (some .int) rmX0_size13 D ca xa A (zwC ad ca) [.ref (ad 33), .ref (ad 7), .int x2] σ (zI a) τ := by
  refine z_met (inj := zI) (lv := [(0, .ref (ad 33)), (1, .ref (ad 7)), (2, .int x2)]) (by decide) (Nat.le_of_ble_eq_true rfl) rfl ?_ h
  intro p e s m args below meth c hc hr
  unfold fX0_size13
  refine z_aload_n hc dX0_size13_0 0 rfl ?_
  refine z_bipush (v := (13 : Int32)) hc dX0_size13_1 (by decide) ?_
  refine z_runVv (b0 := ad 33) (As := [.int (13 : Int32)]) (rest := []) hc dX0_size13_3 (fun _ _ h => tX0_begin h) mpX0_begin miX0_begin kmX0_56 ⟨rfl, rfl, Nat.le_of_ble_eq_true rfl, Nat.le_of_ble_eq_true rfl⟩ ⟨Nat.le_refl _, Nat.le_refl _⟩ zcC_rc33 rfl (Nat.le_of_ble_eq_true rfl) (fun b1 σ2 => ?_)
  refine z_aload_n hc dX0_size13_6 0 rfl ?_
  refine z_aload_n hc dX0_size13_7 1 rfl ?_
  refine z_iload_n hc dX0_size13_8 2 rfl ?_
  refine z_runVi (b0 := ad 33) (As := [.ref (ad 7), .int x2]) (rest := []) hc dX0_size13_9 (fun _ _ h => tX0_size10 h) mpX0_size10 miX0_size10 kmX0_44 ⟨rfl, rfl, Nat.le_of_ble_eq_true rfl, Nat.le_of_ble_eq_true rfl⟩ ⟨Nat.le_refl _, Nat.le_refl _⟩ zcC_rc33 rfl (Nat.le_of_ble_eq_true rfl) (fun b3 σ4 => ?_)
  refine z_aload_n hc dX0_size13_12 0 rfl ?_
  refine z_aload_n hc dX0_size13_13 1 rfl ?_
  refine z_iload_n hc dX0_size13_14 2 rfl ?_
  refine z_runVi (b0 := ad 33) (As := [.ref (ad 7), .int x2]) (rest := [.int b3]) hc dX0_size13_15 (fun _ _ h => tX0_mark h) mpX0_mark miX0_mark kmX0_66 ⟨rfl, rfl, Nat.le_of_ble_eq_true rfl, Nat.le_of_ble_eq_true rfl⟩ ⟨Nat.le_refl _, Nat.le_refl _⟩ zcC_rc33 rfl (Nat.le_of_ble_eq_true rfl) (fun b5 σ6 => ?_)
  refine z_iadd hc dX0_size13_18 ?_
  exact z_iret hc hr dX0_size13_19
set_option maxRecDepth 100000 in
set_option maxHeartbeats 4000000 in
theorem tX2_timesHeld_4 {p : Program} {l : Launch} {e : Env} {s : State} {m : MethodId} {args : Array Value} {below : List Frame} {meth : Method} {c : Code} {D : va_G} {ca : Nat → ClassId} {xa ad : Nat → Nat} {A : Nat → Prop} (hc : zCx p s m args meth c cX2_timesHeld 4 RX2 D ca xa A (zwC ad ca)) (hr : meth.sig.returnType = (some .int)) (N : Nat)   : ∀ (n : Nat) (x1 : Int32) (x2 : Int32) (x3 : Int32) (σ : zSt), zGO p l e rmX2_timesHeld s m args below meth c 0 0 (zwC ad ca) D A 4 (zQ below D A (zwC ad ca) args s zI) (fX2_timesHeld_4 N n x1 x2 x3 σ) σ 4 [(0, .ref (ad 7)), (1, .int x1), (2, .int x2), (3, .int x3)] [] := by
  intro n
  induction n with
  | zero =>
    intro x1 x2 x3 σ
    exact z_none
  | succ n ih =>
    intro x1 x2 x3 σ
    unfold fX2_timesHeld_4
    refine z_iload_n hc dX2_timesHeld_4 3 rfl ?_
    refine z_aload_n hc dX2_timesHeld_5 0 rfl ?_
    refine gfX2_59 hc dX2_timesHeld_6 ?_
    refine z_icmp_ge (tgt := 31) hc dX2_timesHeld_9 (by decide) ?_ ?_
    · refine z_iload_n hc dX2_timesHeld_31 2 rfl ?_
      exact z_iret hc hr dX2_timesHeld_32
    · refine z_aload_n hc dX2_timesHeld_12 0 rfl ?_
      refine gfX2_30 hc dX2_timesHeld_13 ?_
      refine z_iload_n hc dX2_timesHeld_16 3 rfl ?_
      refine z_iaload hc 14 (by decide) rfl dX2_timesHeld_17 (fun v1 => ?_)
      refine z_iload_n hc dX2_timesHeld_18 1 rfl ?_
      refine z_icmp_ne (tgt := 25) hc dX2_timesHeld_19 (by decide) ?_ ?_
      · refine z_iinc (v := (x2 + (1 : Int32))) (lv' := [(2, .int (x2 + (1 : Int32))), (0, .ref (ad 7)), (1, .int x1), (3, .int x3)]) hc dX2_timesHeld_22 2 rfl rfl (by decide) rfl ?_
        refine z_iinc (v := (x3 + (1 : Int32))) (lv' := [(3, .int (x3 + (1 : Int32))), (2, .int (x2 + (1 : Int32))), (0, .ref (ad 7)), (1, .int x1)]) hc dX2_timesHeld_25 3 rfl rfl (by decide) rfl ?_
        refine z_goto (tgt := 4) hc dX2_timesHeld_28 (by decide) ?_
        refine z_sub [2, 3, 1, 0] rfl ?_
        exact ih _ _ _ _
      · refine z_iinc (v := (x3 + (1 : Int32))) (lv' := [(3, .int (x3 + (1 : Int32))), (0, .ref (ad 7)), (1, .int x1), (2, .int x2)]) hc dX2_timesHeld_25 3 rfl rfl (by decide) rfl ?_
        refine z_goto (tgt := 4) hc dX2_timesHeld_28 (by decide) ?_
        refine z_sub [1, 2, 3, 0] rfl ?_
        exact ih _ _ _ _
set_option maxRecDepth 100000 in
set_option maxHeartbeats 4000000 in
theorem tX2_timesHeld {l : Launch} {D : va_G} {ca : Nat → ClassId} {xa ad : Nat → Nat} {A : Nat → Prop} {N : Nat} {x1 : Int32} {σ : zSt} {a : Int32} {τ : zSt} (h : fX2_timesHeld N x1 σ = some (a, τ)) : zCt l yX2_timesHeld cX2_timesHeld 4 (some .int) rmX2_timesHeld D ca xa A (zwC ad ca) [.ref (ad 7), .int x1] σ (zI a) τ := by
  refine z_met (inj := zI) (lv := [(0, .ref (ad 7)), (1, .int x1)]) (by decide) (Nat.le_of_ble_eq_true rfl) rfl ?_ h
  intro p e s m args below meth c hc hr
  unfold fX2_timesHeld
  refine z_iconst (v := (0 : Int32)) hc dX2_timesHeld_0 (by decide) ?_
  refine z_istore_n (lv' := [(2, .int (0 : Int32)), (0, .ref (ad 7)), (1, .int x1)]) hc dX2_timesHeld_1 rfl (by decide) rfl ?_
  refine z_iconst (v := (0 : Int32)) hc dX2_timesHeld_2 (by decide) ?_
  refine z_istore_n (lv' := [(3, .int (0 : Int32)), (2, .int (0 : Int32)), (0, .ref (ad 7)), (1, .int x1)]) hc dX2_timesHeld_3 rfl (by decide) rfl ?_
  refine z_sub [2, 3, 1, 0] rfl ?_
  exact tX2_timesHeld_4 hc hr N N _ _ _ _
set_option maxRecDepth 100000 in
set_option maxHeartbeats 4000000 in
theorem tX0_size14 {l : Launch} {D : va_G} {ca : Nat → ClassId} {xa ad : Nat → Nat} {A : Nat → Prop} {N : Nat} {x2 : Int32} {σ : zSt} {a : Int32} {τ : zSt} (h : fX0_size14 N x2 σ = some (a, τ)) : zCt l yX0_size14 cX0_size14 3 (some .int) rmX0_size14 D ca xa A (zwC ad ca) [.ref (ad 33), .ref (ad 7), .int x2] σ (zI a) τ := by
  refine z_met (inj := zI) (lv := [(0, .ref (ad 33)), (1, .ref (ad 7)), (2, .int x2)]) (by decide) (Nat.le_of_ble_eq_true rfl) rfl ?_ h
  intro p e s m args below meth c hc hr
  unfold fX0_size14
  refine z_aload_n hc dX0_size14_0 0 rfl ?_
  refine z_bipush (v := (14 : Int32)) hc dX0_size14_1 (by decide) ?_
  refine z_runVv (b0 := ad 33) (As := [.int (14 : Int32)]) (rest := []) hc dX0_size14_3 (fun _ _ h => tX0_begin h) mpX0_begin miX0_begin kmX0_56 ⟨rfl, rfl, Nat.le_of_ble_eq_true rfl, Nat.le_of_ble_eq_true rfl⟩ ⟨Nat.le_refl _, Nat.le_refl _⟩ zcC_rc33 rfl (Nat.le_of_ble_eq_true rfl) (fun b1 σ2 => ?_)
  refine z_aload_n hc dX0_size14_6 0 rfl ?_
  refine z_aload_n hc dX0_size14_7 1 rfl ?_
  refine z_iload_n hc dX0_size14_8 2 rfl ?_
  refine z_runVi (b0 := ad 33) (As := [.ref (ad 7), .int x2]) (rest := []) hc dX0_size14_9 (fun _ _ h => tX0_size13 h) mpX0_size13 miX0_size13 kmX0_35 ⟨rfl, rfl, Nat.le_of_ble_eq_true rfl, Nat.le_of_ble_eq_true rfl⟩ ⟨Nat.le_refl _, Nat.le_refl _⟩ zcC_rc33 rfl (Nat.le_of_ble_eq_true rfl) (fun b3 σ4 => ?_)
  refine z_aload_n hc dX0_size14_12 1 rfl ?_
  refine z_iload_n hc dX0_size14_13 2 rfl ?_
  refine z_runVNi (b0 := ad 7) (As := [.int x2]) (rest := [.int b3]) hc dX0_size14_14 (fun _ _ h => tX2_timesHeld h) mpX2_timesHeld miX2_timesHeld kmX0_69 ⟨rfl, rfl, Nat.le_of_ble_eq_true rfl, Nat.le_of_ble_eq_true rfl⟩ ⟨Nat.le_refl _, Nat.le_refl _⟩ zcC_rc7 rfl (Nat.le_of_ble_eq_true rfl) (fun b5 σ6 => ?_)
  refine z_iadd hc dX0_size14_17 ?_
  exact z_iret hc hr dX0_size14_18
set_option maxRecDepth 100000 in
set_option maxHeartbeats 4000000 in
theorem tX0_size15 {l : Launch} {D : va_G} {ca : Nat → ClassId} {xa ad : Nat → Nat} {A : Nat → Prop} {N : Nat} {x2 : Int32} {σ : zSt} {a : Int32} {τ : zSt} (h : fX0_size15 N x2 σ = some (a, τ)) : zCt l yX0_size15 cX0_size15 3 (some .int) rmX0_size15 D ca xa A (zwC ad ca) [.ref (ad 33), .ref (ad 7), .int x2] σ (zI a) τ := by
  refine z_met (inj := zI) (lv := [(0, .ref (ad 33)), (1, .ref (ad 7)), (2, .int x2)]) (by decide) (Nat.le_of_ble_eq_true rfl) rfl ?_ h
  intro p e s m args below meth c hc hr
  unfold fX0_size15
  refine z_aload_n hc dX0_size15_0 0 rfl ?_
  refine z_bipush (v := (15 : Int32)) hc dX0_size15_1 (by decide) ?_
  refine z_runVv (b0 := ad 33) (As := [.int (15 : Int32)]) (rest := []) hc dX0_size15_3 (fun _ _ h => tX0_begin h) mpX0_begin miX0_begin kmX0_56 ⟨rfl, rfl, Nat.le_of_ble_eq_true rfl, Nat.le_of_ble_eq_true rfl⟩ ⟨Nat.le_refl _, Nat.le_refl _⟩ zcC_rc33 rfl (Nat.le_of_ble_eq_true rfl) (fun b1 σ2 => ?_)
  refine z_aload_n hc dX0_size15_6 0 rfl ?_
  refine z_aload_n hc dX0_size15_7 1 rfl ?_
  refine z_iload_n hc dX0_size15_8 2 rfl ?_
  refine z_runVi (b0 := ad 33) (As := [.ref (ad 7), .int x2]) (rest := []) hc dX0_size15_9 (fun _ _ h => tX0_size11 h) mpX0_size11 miX0_size11 kmX0_28 ⟨rfl, rfl, Nat.le_of_ble_eq_true rfl, Nat.le_of_ble_eq_true rfl⟩ ⟨Nat.le_refl _, Nat.le_refl _⟩ zcC_rc33 rfl (Nat.le_of_ble_eq_true rfl) (fun b3 σ4 => ?_)
  refine z_ineg hc dX0_size15_12 ?_
  exact z_iret hc hr dX0_size15_13
set_option maxRecDepth 100000 in
set_option maxHeartbeats 4000000 in
theorem tX0_size {l : Launch} {D : va_G} {ca : Nat → ClassId} {xa ad : Nat → Nat} {A : Nat → Prop} {N : Nat} {x2 : Int32} {σ : zSt} {a : Int32} {τ : zSt} (h : fX0_size N x2 σ = some (a, τ)) : zCt l yX0_size cX0_size 3 (some .int) rmX0_size D ca xa A (zwC ad ca) [.ref (ad 33), .ref (ad 7), .int x2] σ (zI a) τ := by
  refine z_met (inj := zI) (lv := [(0, .ref (ad 33)), (1, .ref (ad 7)), (2, .int x2)]) (by decide) (Nat.le_of_ble_eq_true rfl) rfl ?_ h
  intro p e s m args below meth c hc hr
  unfold fX0_size
  refine z_aload_n hc dX0_size_0 1 rfl ?_
  refine z_iload_n hc dX0_size_1 2 rfl ?_
  refine z_runVNi (b0 := ad 7) (As := [.int x2]) (rest := []) hc dX0_size_2 (fun _ _ h => tX2_kindOf h) mpX2_kindOf miX2_kindOf kmX0_22 ⟨rfl, rfl, Nat.le_of_ble_eq_true rfl, Nat.le_of_ble_eq_true rfl⟩ ⟨Nat.le_refl _, Nat.le_refl _⟩ zcC_rc7 rfl (Nat.le_of_ble_eq_true rfl) (fun b1 σ2 => ?_)
  refine z_ite (fun h5 => ?_) (fun h5 => ?_)
  · refine z_swIn (tgt := 40) (off := 35) hc dX0_size_5 (by rw [h5]; decide) (by rw [h5]; decide) (by rw [h5]; decide) (by decide) ?_
    refine z_aload_n hc dX0_size_40 0 rfl ?_
    refine z_aload_n hc dX0_size_41 1 rfl ?_
    refine z_iload_n hc dX0_size_42 2 rfl ?_
    refine z_runVi (b0 := ad 33) (As := [.ref (ad 7), .int x2]) (rest := []) hc dX0_size_43 (fun _ _ h => tX0_size11 h) mpX0_size11 miX0_size11 kmX0_28 ⟨rfl, rfl, Nat.le_of_ble_eq_true rfl, Nat.le_of_ble_eq_true rfl⟩ ⟨Nat.le_refl _, Nat.le_refl _⟩ zcC_rc33 rfl (Nat.le_of_ble_eq_true rfl) (fun b3 σ4 => ?_)
    exact z_iret hc hr dX0_size_46
  refine z_ite (fun h8 => ?_) (fun h8 => ?_)
  · refine z_swIn (tgt := 47) (off := 42) hc dX0_size_5 (by rw [h8]; decide) (by rw [h8]; decide) (by rw [h8]; decide) (by decide) ?_
    refine z_aload_n hc dX0_size_47 0 rfl ?_
    refine z_aload_n hc dX0_size_48 1 rfl ?_
    refine z_iload_n hc dX0_size_49 2 rfl ?_
    refine z_runVi (b0 := ad 33) (As := [.ref (ad 7), .int x2]) (rest := []) hc dX0_size_50 (fun _ _ h => tX0_size12 h) mpX0_size12 miX0_size12 kmX0_32 ⟨rfl, rfl, Nat.le_of_ble_eq_true rfl, Nat.le_of_ble_eq_true rfl⟩ ⟨Nat.le_refl _, Nat.le_refl _⟩ zcC_rc33 rfl (Nat.le_of_ble_eq_true rfl) (fun b6 σ7 => ?_)
    exact z_iret hc hr dX0_size_53
  refine z_ite (fun h11 => ?_) (fun h11 => ?_)
  · refine z_swIn (tgt := 54) (off := 49) hc dX0_size_5 (by rw [h11]; decide) (by rw [h11]; decide) (by rw [h11]; decide) (by decide) ?_
    refine z_aload_n hc dX0_size_54 0 rfl ?_
    refine z_aload_n hc dX0_size_55 1 rfl ?_
    refine z_iload_n hc dX0_size_56 2 rfl ?_
    refine z_runVi (b0 := ad 33) (As := [.ref (ad 7), .int x2]) (rest := []) hc dX0_size_57 (fun _ _ h => tX0_size13 h) mpX0_size13 miX0_size13 kmX0_35 ⟨rfl, rfl, Nat.le_of_ble_eq_true rfl, Nat.le_of_ble_eq_true rfl⟩ ⟨Nat.le_refl _, Nat.le_refl _⟩ zcC_rc33 rfl (Nat.le_of_ble_eq_true rfl) (fun b9 σ10 => ?_)
    exact z_iret hc hr dX0_size_60
  refine z_ite (fun h14 => ?_) (fun h14 => ?_)
  · refine z_swIn (tgt := 61) (off := 56) hc dX0_size_5 (by rw [h14]; decide) (by rw [h14]; decide) (by rw [h14]; decide) (by decide) ?_
    refine z_aload_n hc dX0_size_61 0 rfl ?_
    refine z_aload_n hc dX0_size_62 1 rfl ?_
    refine z_iload_n hc dX0_size_63 2 rfl ?_
    refine z_runVi (b0 := ad 33) (As := [.ref (ad 7), .int x2]) (rest := []) hc dX0_size_64 (fun _ _ h => tX0_size14 h) mpX0_size14 miX0_size14 kmX0_38 ⟨rfl, rfl, Nat.le_of_ble_eq_true rfl, Nat.le_of_ble_eq_true rfl⟩ ⟨Nat.le_refl _, Nat.le_refl _⟩ zcC_rc33 rfl (Nat.le_of_ble_eq_true rfl) (fun b12 σ13 => ?_)
    exact z_iret hc hr dX0_size_67
  refine z_ite (fun h17 => ?_) (fun h17 => ?_)
  · refine z_swIn (tgt := 68) (off := 63) hc dX0_size_5 (by rw [h17]; decide) (by rw [h17]; decide) (by rw [h17]; decide) (by decide) ?_
    refine z_aload_n hc dX0_size_68 0 rfl ?_
    refine z_aload_n hc dX0_size_69 1 rfl ?_
    refine z_iload_n hc dX0_size_70 2 rfl ?_
    refine z_runVi (b0 := ad 33) (As := [.ref (ad 7), .int x2]) (rest := []) hc dX0_size_71 (fun _ _ h => tX0_size15 h) mpX0_size15 miX0_size15 kmX0_41 ⟨rfl, rfl, Nat.le_of_ble_eq_true rfl, Nat.le_of_ble_eq_true rfl⟩ ⟨Nat.le_refl _, Nat.le_refl _⟩ zcC_rc33 rfl (Nat.le_of_ble_eq_true rfl) (fun b15 σ16 => ?_)
    exact z_iret hc hr dX0_size_74
  refine z_swOut (tgt := 75) hc dX0_size_5 (zsw1_5 h5 h8 h11 h14 h17) (by decide) ?_
  refine z_aload_n hc dX0_size_75 0 rfl ?_
  refine z_aload_n hc dX0_size_76 1 rfl ?_
  refine z_iload_n hc dX0_size_77 2 rfl ?_
  refine z_runVi (b0 := ad 33) (As := [.ref (ad 7), .int x2]) (rest := []) hc dX0_size_78 (fun _ _ h => tX0_size10 h) mpX0_size10 miX0_size10 kmX0_44 ⟨rfl, rfl, Nat.le_of_ble_eq_true rfl, Nat.le_of_ble_eq_true rfl⟩ ⟨Nat.le_refl _, Nat.le_refl _⟩ zcC_rc33 rfl (Nat.le_of_ble_eq_true rfl) (fun b18 σ19 => ?_)
  exact z_iret hc hr dX0_size_81
set_option maxRecDepth 100000 in
set_option maxHeartbeats 4000000 in
theorem tX7_ask {l : Launch} {D : va_G} {ca : Nat → ClassId} {xa ad : Nat → Nat} {A : Nat → Prop} {N : Nat} {x1 : Int32} {x2 : Int32} {σ : zSt} {a : Int32} {τ : zSt} (h : fX7_ask N x1 x2 σ = some (a, τ)) : zCt l yX7_ask cX7_ask 3 (some .int) rmX7_ask D ca xa A (zwC ad ca) [.ref (ad 0), .int x1, .int x2] σ (zI a) τ := by
  refine z_met (inj := zI) (lv := [(0, .ref (ad 0)), (1, .int x1), (2, .int x2)]) (by decide) (Nat.le_of_ble_eq_true rfl) rfl ?_ h
  intro p e s m args below meth c hc hr
  unfold fX7_ask
  refine z_aload_n hc dX7_ask_0 0 rfl ?_
  refine gfX7_26 hc dX7_ask_1 ?_
  refine z_iload_n hc dX7_ask_4 1 rfl ?_
  refine z_runVNi (b0 := ad 7) (As := [.int x1]) (rest := []) hc dX7_ask_5 (fun _ _ h => tX2_hasNode h) mpX2_hasNode miX2_hasNode kmX7_125 ⟨rfl, rfl, Nat.le_of_ble_eq_true rfl, Nat.le_of_ble_eq_true rfl⟩ ⟨Nat.le_refl _, Nat.le_refl _⟩ zcC_rc7 rfl (Nat.le_of_ble_eq_true rfl) (fun b1 σ2 => ?_)
  refine z_if_eq (tgt := 20) hc dX7_ask_8 (by decide) ?_ ?_
  · refine z_ldc hc dX7_ask_20 kcX7_66 ?_
    exact z_iret hc hr dX7_ask_22
  · refine z_iload_n hc dX7_ask_11 2 rfl ?_
    refine z_iconst (v := (0 : Int32)) hc dX7_ask_12 (by decide) ?_
    refine z_iconst (v := (1 : Int32)) hc dX7_ask_13 (by decide) ?_
    refine z_runSi (As := [.int x2, .int (0 : Int32), .int (1 : Int32)]) (rest := []) hc dX7_ask_14 (fun _ _ h => tX7_isWithin h) mpX7_isWithin miX7_isWithin kmX7_62 ⟨rfl, rfl, Nat.le_of_ble_eq_true rfl, Nat.le_of_ble_eq_true rfl⟩ ⟨Nat.le_refl _, Nat.le_refl _⟩ rfl (Nat.le_of_ble_eq_true rfl) (fun b3 σ4 => ?_)
    refine z_if_ne (tgt := 23) hc dX7_ask_17 (by decide) ?_ ?_
    · refine z_ldc hc dX7_ask_20 kcX7_66 ?_
      exact z_iret hc hr dX7_ask_22
    · refine z_aload_n hc dX7_ask_23 0 rfl ?_
      refine gfX7_47 hc dX7_ask_24 ?_
      refine z_aload_n hc dX7_ask_27 0 rfl ?_
      refine gfX7_26 hc dX7_ask_28 ?_
      refine z_runVNi (b0 := ad 7) (As := []) (rest := [.ref (ad 33)]) hc dX7_ask_31 (fun _ _ h => tX2_shownNow h) mpX2_shownNow miX2_shownNow kmX7_148 ⟨rfl, rfl, Nat.le_of_ble_eq_true rfl, Nat.le_of_ble_eq_true rfl⟩ ⟨Nat.le_refl _, Nat.le_refl _⟩ zcC_rc7 rfl (Nat.le_of_ble_eq_true rfl) (fun b5 σ6 => ?_)
      refine z_runVNv (b0 := ad 33) (As := [.int b5]) (rest := []) hc dX7_ask_34 (fun _ _ h => tX0_start h) mpX0_start miX0_start kmX7_278 ⟨rfl, rfl, Nat.le_of_ble_eq_true rfl, Nat.le_of_ble_eq_true rfl⟩ ⟨Nat.le_refl _, Nat.le_refl _⟩ zcC_rc33 rfl (Nat.le_of_ble_eq_true rfl) (fun b7 σ8 => ?_)
      refine z_iload_n hc dX7_ask_37 2 rfl ?_
      refine z_if_ne (tgt := 56) hc dX7_ask_38 (by decide) ?_ ?_
      · refine z_aload_n hc dX7_ask_41 0 rfl ?_
        refine gfX7_47 hc dX7_ask_42 ?_
        refine z_aload_n hc dX7_ask_45 0 rfl ?_
        refine gfX7_26 hc dX7_ask_46 ?_
        refine z_iload_n hc dX7_ask_49 1 rfl ?_
        refine z_runVNi (b0 := ad 33) (As := [.ref (ad 7), .int x1]) (rest := []) hc dX7_ask_50 (fun _ _ h => tX0_size h) mpX0_size miX0_size kmX7_282 ⟨rfl, rfl, Nat.le_of_ble_eq_true rfl, Nat.le_of_ble_eq_true rfl⟩ ⟨Nat.le_refl _, Nat.le_refl _⟩ zcC_rc33 rfl (Nat.le_of_ble_eq_true rfl) (fun b9 σ10 => ?_)
        refine z_goto (tgt := 68) hc dX7_ask_53 (by decide) ?_
        exact z_iret hc hr dX7_ask_68
      · refine z_aload_n hc dX7_ask_56 0 rfl ?_
        refine gfX7_47 hc dX7_ask_57 ?_
        refine z_aload_n hc dX7_ask_60 0 rfl ?_
        refine gfX7_26 hc dX7_ask_61 ?_
        refine z_iload_n hc dX7_ask_64 1 rfl ?_
        refine z_runVNi (b0 := ad 33) (As := [.ref (ad 7), .int x1]) (rest := []) hc dX7_ask_65 (fun _ _ h => tX0_mark h) mpX0_mark miX0_mark kmX7_285 ⟨rfl, rfl, Nat.le_of_ble_eq_true rfl, Nat.le_of_ble_eq_true rfl⟩ ⟨Nat.le_refl _, Nat.le_refl _⟩ zcC_rc33 rfl (Nat.le_of_ble_eq_true rfl) (fun b11 σ12 => ?_)
        exact z_iret hc hr dX7_ask_68
set_option maxRecDepth 100000 in
set_option maxHeartbeats 4000000 in
theorem tX8_began {l : Launch} {D : va_G} {ca : Nat → ClassId} {xa ad : Nat → Nat} {A : Nat → Prop} {N : Nat} {x1 : Int32} {σ : zSt} {a : Unit} {τ : zSt} (h : fX8_began N x1 σ = some (a, τ)) : zCt l yX8_began cX8_began 2 none rmX8_began D ca xa A (zwM ad ca) [.ref (ad 0), .int x1] σ (zV a) τ := by
  refine z_met (inj := zV) (lv := [(0, .ref (ad 0)), (1, .int x1)]) (by decide) (Nat.le_of_ble_eq_true rfl) rfl ?_ h
  intro p e s m args below meth c hc hr
  unfold fX8_began
  refine z_aload_n hc dX8_began_0 0 rfl ?_
  refine gfX8_336 hc dX8_began_1 ?_
  refine z_bipush (v := (16 : Int32)) hc dX8_began_4 (by decide) ?_
  refine z_icmp_ge (tgt := 29) hc dX8_began_6 (by decide) ?_ ?_
  · exact z_vret hc hr dX8_began_29
  · refine z_aload_n hc dX8_began_9 0 rfl ?_
    refine gfX8_75 hc dX8_began_10 ?_
    refine z_aload_n hc dX8_began_13 0 rfl ?_
    refine gfX8_336 hc dX8_began_14 ?_
    refine z_iload_n hc dX8_began_17 1 rfl ?_
    refine z_iastore hc 22 (by decide) (fun _ _ => rfl) dX8_began_18 (fun σ1 => ?_)
    refine z_aload_n hc dX8_began_19 0 rfl ?_
    refine z_dup hc dX8_began_20 rfl ?_
    refine gfX8_336 hc dX8_began_21 ?_
    refine z_iconst (v := (1 : Int32)) hc dX8_began_24 (by decide) ?_
    refine z_iadd hc dX8_began_25 ?_
    refine pfX8_336 hc dX8_began_26 (fun σ2 => ?_)
    exact z_vret hc hr dX8_began_29
set_option maxRecDepth 100000 in
set_option maxHeartbeats 4000000 in
theorem tX8_markOf_29 {p : Program} {l : Launch} {e : Env} {s : State} {m : MethodId} {args : Array Value} {below : List Frame} {meth : Method} {c : Code} {D : va_G} {ca : Nat → ClassId} {xa ad : Nat → Nat} {A : Nat → Prop} (hc : zCx p s m args meth c cX8_markOf 3 RX8 D ca xa A (zwM ad ca)) (hr : meth.sig.returnType = (some .int)) (N : Nat)   (x1 : Int32) (x2 : Int32) (σ : zSt) : zGO p l e rmX8_markOf s m args below meth c 0 0 (zwM ad ca) D A 3 (zQ below D A (zwM ad ca) args s zI) (fX8_markOf_29 N x1 x2 σ) σ 29 [(0, .ref (ad 0)), (1, .int x1), (2, .int x2)] [] := by
  unfold fX8_markOf_29
  refine z_aload_n hc dX8_markOf_29 0 rfl ?_
  refine z_bipush (v := (20 : Int32)) hc dX8_markOf_30 (by decide) ?_
  refine z_runVv (b0 := ad 0) (As := [.int (20 : Int32)]) (rest := []) hc dX8_markOf_32 (fun _ _ h => tX8_began h) mpX8_began miX8_began kmX8_339 ⟨rfl, rfl, Nat.le_of_ble_eq_true rfl, Nat.le_of_ble_eq_true rfl⟩ ⟨Nat.le_refl _, Nat.le_refl _⟩ zcM_rc0 rfl (Nat.le_of_ble_eq_true rfl) (fun b1 σ2 => ?_)
  refine z_iload_n hc dX8_markOf_35 1 rfl ?_
  refine z_iload_n hc dX8_markOf_36 2 rfl ?_
  refine z_iconst (v := (5 : Int32)) hc dX8_markOf_37 (by decide) ?_
  refine z_icmp_ne (tgt := 48) hc dX8_markOf_38 (by decide) ?_ ?_
  · refine z_aload_n hc dX8_markOf_41 0 rfl ?_
    refine gfX8_207 hc dX8_markOf_42 ?_
    refine z_goto (tgt := 74) hc dX8_markOf_45 (by decide) ?_
    refine z_iadd hc dX8_markOf_74 ?_
    exact z_iret hc hr dX8_markOf_75
  · refine z_iload_n hc dX8_markOf_48 2 rfl ?_
    refine z_iconst (v := (3 : Int32)) hc dX8_markOf_49 (by decide) ?_
    refine z_runSi (As := [.int x2, .int (3 : Int32)]) (rest := [.int x1]) hc dX8_markOf_50 (fun _ _ h => tX8_isOf h) mpX8_isOf miX8_isOf kmX8_333 ⟨rfl, rfl, Nat.le_of_ble_eq_true rfl, Nat.le_of_ble_eq_true rfl⟩ ⟨Nat.le_refl _, Nat.le_refl _⟩ rfl (Nat.le_of_ble_eq_true rfl) (fun b3 σ4 => ?_)
    refine z_if_eq (tgt := 73) hc dX8_markOf_53 (by decide) ?_ ?_
    · refine z_iconst (v := (0 : Int32)) hc dX8_markOf_73 (by decide) ?_
      refine z_iadd hc dX8_markOf_74 ?_
      exact z_iret hc hr dX8_markOf_75
    · refine z_aload_n hc dX8_markOf_56 0 rfl ?_
      refine z_runVi (b0 := ad 0) (As := []) (rest := [.int x1]) hc dX8_markOf_57 (fun _ _ h => tX8_shownNow h) mpX8_shownNow miX8_shownNow kmX8_232 ⟨rfl, rfl, Nat.le_of_ble_eq_true rfl, Nat.le_of_ble_eq_true rfl⟩ ⟨Nat.le_refl _, Nat.le_refl _⟩ zcM_rc0 rfl (Nat.le_of_ble_eq_true rfl) (fun b5 σ6 => ?_)
      refine z_iload_n hc dX8_markOf_60 1 rfl ?_
      refine z_ishr hc dX8_markOf_61 ?_
      refine z_iconst (v := (1 : Int32)) hc dX8_markOf_62 (by decide) ?_
      refine z_iand hc dX8_markOf_63 ?_
      refine z_iconst (v := (1 : Int32)) hc dX8_markOf_64 (by decide) ?_
      refine z_icmp_ne (tgt := 73) hc dX8_markOf_65 (by decide) ?_ ?_
      · refine z_bipush (v := (100 : Int32)) hc dX8_markOf_68 (by decide) ?_
        refine z_goto (tgt := 74) hc dX8_markOf_70 (by decide) ?_
        refine z_iadd hc dX8_markOf_74 ?_
        exact z_iret hc hr dX8_markOf_75
      · refine z_iconst (v := (0 : Int32)) hc dX8_markOf_73 (by decide) ?_
        refine z_iadd hc dX8_markOf_74 ?_
        exact z_iret hc hr dX8_markOf_75
set_option maxRecDepth 100000 in
set_option maxHeartbeats 4000000 in
theorem tX8_markOf_26 {p : Program} {l : Launch} {e : Env} {s : State} {m : MethodId} {args : Array Value} {below : List Frame} {meth : Method} {c : Code} {D : va_G} {ca : Nat → ClassId} {xa ad : Nat → Nat} {A : Nat → Prop} (hc : zCx p s m args meth c cX8_markOf 3 RX8 D ca xa A (zwM ad ca)) (hr : meth.sig.returnType = (some .int)) (N : Nat)   (x1 : Int32) (x2 : Int32) (s0 : Int32) (σ : zSt) : zGO p l e rmX8_markOf s m args below meth c 0 0 (zwM ad ca) D A 3 (zQ below D A (zwM ad ca) args s zI) (fX8_markOf_26 N x1 x2 s0 σ) σ 26 [(0, .ref (ad 0)), (1, .int x1), (2, .int x2)] [.int s0, .ref (ad 0)] := by
  unfold fX8_markOf_26
  refine z_runVv (b0 := ad 0) (As := [.int s0]) (rest := []) hc dX8_markOf_26 (fun _ _ h => tX8_began h) mpX8_began miX8_began kmX8_339 ⟨rfl, rfl, Nat.le_of_ble_eq_true rfl, Nat.le_of_ble_eq_true rfl⟩ ⟨Nat.le_refl _, Nat.le_refl _⟩ zcM_rc0 rfl (Nat.le_of_ble_eq_true rfl) (fun b1 σ2 => ?_)
  exact tX8_markOf_29 hc hr N _ _ _
set_option maxRecDepth 100000 in
set_option maxHeartbeats 4000000 in
theorem tX8_markOf_13 {p : Program} {l : Launch} {e : Env} {s : State} {m : MethodId} {args : Array Value} {below : List Frame} {meth : Method} {c : Code} {D : va_G} {ca : Nat → ClassId} {xa ad : Nat → Nat} {A : Nat → Prop} (hc : zCx p s m args meth c cX8_markOf 3 RX8 D ca xa A (zwM ad ca)) (hr : meth.sig.returnType = (some .int)) (N : Nat)   (x1 : Int32) (x2 : Int32) (σ : zSt) : zGO p l e rmX8_markOf s m args below meth c 0 0 (zwM ad ca) D A 3 (zQ below D A (zwM ad ca) args s zI) (fX8_markOf_13 N x1 x2 σ) σ 13 [(0, .ref (ad 0)), (1, .int x1), (2, .int x2)] [] := by
  unfold fX8_markOf_13
  refine z_aload_n hc dX8_markOf_13 0 rfl ?_
  refine z_iload_n hc dX8_markOf_14 2 rfl ?_
  refine z_iconst (v := (5 : Int32)) hc dX8_markOf_15 (by decide) ?_
  refine z_icmp_ne (tgt := 24) hc dX8_markOf_16 (by decide) ?_ ?_
  · refine z_bipush (v := (22 : Int32)) hc dX8_markOf_19 (by decide) ?_
    refine z_goto (tgt := 26) hc dX8_markOf_21 (by decide) ?_
    exact tX8_markOf_26 hc hr N _ _ _ _
  · refine z_bipush (v := (21 : Int32)) hc dX8_markOf_24 (by decide) ?_
    exact tX8_markOf_26 hc hr N _ _ _ _
set_option maxRecDepth 100000 in
set_option maxHeartbeats 4000000 in
theorem tX8_markOf {l : Launch} {D : va_G} {ca : Nat → ClassId} {xa ad : Nat → Nat} {A : Nat → Prop} {N : Nat} {x1 : Int32} {x2 : Int32} {σ : zSt} {a : Int32} {τ : zSt} (h : fX8_markOf N x1 x2 σ = some (a, τ)) : zCt l yX8_markOf cX8_markOf 3 (some .int) rmX8_markOf D ca xa A (zwM ad ca) [.ref (ad 0), .int x1, .int x2] σ (zI a) τ := by
  refine z_met (inj := zI) (lv := [(0, .ref (ad 0)), (1, .int x1), (2, .int x2)]) (by decide) (Nat.le_of_ble_eq_true rfl) rfl ?_ h
  intro p e s m args below meth c hc hr
  unfold fX8_markOf
  refine z_iload_n hc dX8_markOf_0 2 rfl ?_
  refine z_iconst (v := (5 : Int32)) hc dX8_markOf_1 (by decide) ?_
  refine z_icmp_eq (tgt := 13) hc dX8_markOf_2 (by decide) ?_ ?_
  · exact tX8_markOf_13 hc hr N _ _ _
  · refine z_iload_n hc dX8_markOf_5 2 rfl ?_
    refine z_iconst (v := (3 : Int32)) hc dX8_markOf_6 (by decide) ?_
    refine z_runSi (As := [.int x2, .int (3 : Int32)]) (rest := []) hc dX8_markOf_7 (fun _ _ h => tX8_isOf h) mpX8_isOf miX8_isOf kmX8_333 ⟨rfl, rfl, Nat.le_of_ble_eq_true rfl, Nat.le_of_ble_eq_true rfl⟩ ⟨Nat.le_refl _, Nat.le_refl _⟩ rfl (Nat.le_of_ble_eq_true rfl) (fun b1 σ2 => ?_)
    refine z_if_eq (tgt := 29) hc dX8_markOf_10 (by decide) ?_ ?_
    · exact tX8_markOf_29 hc hr N _ _ _
    · exact tX8_markOf_13 hc hr N _ _ _
set_option maxRecDepth 100000 in
set_option maxHeartbeats 4000000 in
theorem tX8_heldBy_28 {p : Program} {l : Launch} {e : Env} {s : State} {m : MethodId} {args : Array Value} {below : List Frame} {meth : Method} {c : Code} {D : va_G} {ca : Nat → ClassId} {xa ad : Nat → Nat} {A : Nat → Prop} (hc : zCx p s m args meth c cX8_heldBy 4 RX8 D ca xa A (zwM ad ca)) (hr : meth.sig.returnType = (some .int)) (N : Nat) (k4 : Int32 → Int32 → Int32 → zSt → Option (Int32 × zSt)) (hk4 : ∀ (x1 : Int32) (x2 : Int32) (x3 : Int32) (σ : zSt), zGO p l e rmX8_heldBy s m args below meth c 0 0 (zwM ad ca) D A 4 (zQ below D A (zwM ad ca) args s zI) (k4 x1 x2 x3 σ) σ 4 [(0, .ref (ad 0)), (1, .int x1), (2, .int x2), (3, .int x3)] []) (x1 : Int32) (x3 : Int32) (s0 : Int32) (s1 : Int32) (σ : zSt) : zGO p l e rmX8_heldBy s m args below meth c 0 0 (zwM ad ca) D A 4 (zQ below D A (zwM ad ca) args s zI) (fX8_heldBy_28 N k4 x1 x3 s0 s1 σ) σ 28 [(0, .ref (ad 0)), (1, .int x1), (3, .int x3)] [.int s0, .int s1] := by
  unfold fX8_heldBy_28
  refine z_iadd hc dX8_heldBy_28 ?_
  refine z_nm (fun v1 => ?_)
  refine z_istore_n (lv' := [(2, .int v1), (0, .ref (ad 0)), (1, .int x1), (3, .int x3)]) hc dX8_heldBy_29 rfl (by decide) rfl ?_
  refine z_iinc (v := (x3 + (1 : Int32))) (lv' := [(3, .int (x3 + (1 : Int32))), (2, .int v1), (0, .ref (ad 0)), (1, .int x1)]) hc dX8_heldBy_30 3 rfl rfl (by decide) rfl ?_
  refine z_goto (tgt := 4) hc dX8_heldBy_33 (by decide) ?_
  refine z_sub [2, 3, 1, 0] rfl ?_
  exact hk4 _ _ _ _
set_option maxRecDepth 100000 in
set_option maxHeartbeats 4000000 in
theorem tX8_heldBy_4 {p : Program} {l : Launch} {e : Env} {s : State} {m : MethodId} {args : Array Value} {below : List Frame} {meth : Method} {c : Code} {D : va_G} {ca : Nat → ClassId} {xa ad : Nat → Nat} {A : Nat → Prop} (hc : zCx p s m args meth c cX8_heldBy 4 RX8 D ca xa A (zwM ad ca)) (hr : meth.sig.returnType = (some .int)) (N : Nat)   : ∀ (n : Nat) (x1 : Int32) (x2 : Int32) (x3 : Int32) (σ : zSt), zGO p l e rmX8_heldBy s m args below meth c 0 0 (zwM ad ca) D A 4 (zQ below D A (zwM ad ca) args s zI) (fX8_heldBy_4 N n x1 x2 x3 σ) σ 4 [(0, .ref (ad 0)), (1, .int x1), (2, .int x2), (3, .int x3)] [] := by
  intro n
  induction n with
  | zero =>
    intro x1 x2 x3 σ
    exact z_none
  | succ n ih =>
    intro x1 x2 x3 σ
    unfold fX8_heldBy_4
    refine z_iload_n hc dX8_heldBy_4 3 rfl ?_
    refine z_aload_n hc dX8_heldBy_5 0 rfl ?_
    refine gfX8_188 hc dX8_heldBy_6 ?_
    refine z_icmp_ge (tgt := 36) hc dX8_heldBy_9 (by decide) ?_ ?_
    · refine z_iload_n hc dX8_heldBy_36 2 rfl ?_
      exact z_iret hc hr dX8_heldBy_37
    · refine z_iload_n hc dX8_heldBy_12 2 rfl ?_
      refine z_aload_n hc dX8_heldBy_13 0 rfl ?_
      refine gfX8_38 hc dX8_heldBy_14 ?_
      refine z_iload_n hc dX8_heldBy_17 3 rfl ?_
      refine z_iaload hc 10 (by decide) rfl dX8_heldBy_18 (fun v1 => ?_)
      refine z_iload_n hc dX8_heldBy_19 1 rfl ?_
      refine z_icmp_ne (tgt := 27) hc dX8_heldBy_20 (by decide) ?_ ?_
      · refine z_iconst (v := (1 : Int32)) hc dX8_heldBy_23 (by decide) ?_
        refine z_goto (tgt := 28) hc dX8_heldBy_24 (by decide) ?_
        refine z_sub [0, 1, 3] rfl ?_
        exact tX8_heldBy_28 hc hr N _ (ih) _ _ _ _ _
      · refine z_iconst (v := (0 : Int32)) hc dX8_heldBy_27 (by decide) ?_
        refine z_sub [0, 1, 3] rfl ?_
        exact tX8_heldBy_28 hc hr N _ (ih) _ _ _ _ _
set_option maxRecDepth 100000 in
set_option maxHeartbeats 4000000 in
theorem tX8_heldBy {l : Launch} {D : va_G} {ca : Nat → ClassId} {xa ad : Nat → Nat} {A : Nat → Prop} {N : Nat} {x1 : Int32} {σ : zSt} {a : Int32} {τ : zSt} (h : fX8_heldBy N x1 σ = some (a, τ)) : zCt l yX8_heldBy cX8_heldBy 4 (some .int) rmX8_heldBy D ca xa A (zwM ad ca) [.ref (ad 0), .int x1] σ (zI a) τ := by
  refine z_met (inj := zI) (lv := [(0, .ref (ad 0)), (1, .int x1)]) (by decide) (Nat.le_of_ble_eq_true rfl) rfl ?_ h
  intro p e s m args below meth c hc hr
  unfold fX8_heldBy
  refine z_iconst (v := (0 : Int32)) hc dX8_heldBy_0 (by decide) ?_
  refine z_istore_n (lv' := [(2, .int (0 : Int32)), (0, .ref (ad 0)), (1, .int x1)]) hc dX8_heldBy_1 rfl (by decide) rfl ?_
  refine z_iconst (v := (0 : Int32)) hc dX8_heldBy_2 (by decide) ?_
  refine z_istore_n (lv' := [(3, .int (0 : Int32)), (2, .int (0 : Int32)), (0, .ref (ad 0)), (1, .int x1)]) hc dX8_heldBy_3 rfl (by decide) rfl ?_
  refine z_sub [2, 3, 1, 0] rfl ?_
  exact tX8_heldBy_4 hc hr N N _ _ _ _
set_option maxRecDepth 100000 in
set_option maxHeartbeats 4000000 in
theorem tX8_sizeOf_94 {p : Program} {l : Launch} {e : Env} {s : State} {m : MethodId} {args : Array Value} {below : List Frame} {meth : Method} {c : Code} {D : va_G} {ca : Nat → ClassId} {xa ad : Nat → Nat} {A : Nat → Prop} (hc : zCx p s m args meth c cX8_sizeOf 4 RX8 D ca xa A (zwM ad ca)) (hr : meth.sig.returnType = (some .int)) (N : Nat)   (x1 : Int32) (x2 : Int32) (s0 : Int32) (s1 : Int32) (σ : zSt) : zGO p l e rmX8_sizeOf s m args below meth c 0 0 (zwM ad ca) D A 4 (zQ below D A (zwM ad ca) args s zI) (fX8_sizeOf_94 N x1 x2 s0 s1 σ) σ 94 [(0, .ref (ad 0)), (1, .int x1), (2, .int x2)] [.int s0, .int s1] := by
  unfold fX8_sizeOf_94
  refine z_iadd hc dX8_sizeOf_94 ?_
  refine z_nm (fun v1 => ?_)
  refine z_istore_n (lv' := [(3, .int v1), (0, .ref (ad 0)), (1, .int x1), (2, .int x2)]) hc dX8_sizeOf_95 rfl (by decide) rfl ?_
  refine z_iload_n hc dX8_sizeOf_96 3 rfl ?_
  refine z_iconst (v := (2 : Int32)) hc dX8_sizeOf_97 (by decide) ?_
  refine z_icmp_ne (tgt := 107) hc dX8_sizeOf_98 (by decide) ?_ ?_
  · refine z_iconst (v := (2 : Int32)) hc dX8_sizeOf_101 (by decide) ?_
    refine z_iload_n hc dX8_sizeOf_102 0 rfl ?_
    refine z_imul hc dX8_sizeOf_103 ?_
    refine z_goto (tgt := 133) hc dX8_sizeOf_104 (by decide) ?_
    exact z_iret hc hr dX8_sizeOf_133
  · refine z_iload_n hc dX8_sizeOf_107 3 rfl ?_
    refine z_iconst (v := (5 : Int32)) hc dX8_sizeOf_108 (by decide) ?_
    refine z_icmp_ne (tgt := 117) hc dX8_sizeOf_109 (by decide) ?_ ?_
    · refine z_iload_n hc dX8_sizeOf_112 0 rfl ?_
      refine z_ineg hc dX8_sizeOf_113 ?_
      refine z_goto (tgt := 133) hc dX8_sizeOf_114 (by decide) ?_
      exact z_iret hc hr dX8_sizeOf_133
    · refine z_iload_n hc dX8_sizeOf_117 3 rfl ?_
      refine z_iconst (v := (4 : Int32)) hc dX8_sizeOf_118 (by decide) ?_
      refine z_icmp_ne (tgt := 132) hc dX8_sizeOf_119 (by decide) ?_ ?_
      · refine z_iload_n hc dX8_sizeOf_122 0 rfl ?_
        refine z_aload_n hc dX8_sizeOf_123 1 rfl ?_
        refine z_iload_n hc dX8_sizeOf_124 2 rfl ?_
        refine z_runVi (b0 := ad 0) (As := [.int x1]) (rest := [.int v1]) hc dX8_sizeOf_125 (fun _ _ h => tX8_heldBy h) mpX8_heldBy miX8_heldBy kmX8_345 ⟨rfl, rfl, Nat.le_of_ble_eq_true rfl, Nat.le_of_ble_eq_true rfl⟩ ⟨Nat.le_refl _, Nat.le_refl _⟩ zcM_rc0 rfl (Nat.le_of_ble_eq_true rfl) (fun b2 σ3 => ?_)
        refine z_iadd hc dX8_sizeOf_128 ?_
        refine z_goto (tgt := 133) hc dX8_sizeOf_129 (by decide) ?_
        exact z_iret hc hr dX8_sizeOf_133
      · refine z_iload_n hc dX8_sizeOf_132 0 rfl ?_
        exact z_iret hc hr dX8_sizeOf_133
set_option maxRecDepth 100000 in
set_option maxHeartbeats 4000000 in
theorem tX8_sizeOf_57 {p : Program} {l : Launch} {e : Env} {s : State} {m : MethodId} {args : Array Value} {below : List Frame} {meth : Method} {c : Code} {D : va_G} {ca : Nat → ClassId} {xa ad : Nat → Nat} {A : Nat → Prop} (hc : zCx p s m args meth c cX8_sizeOf 4 RX8 D ca xa A (zwM ad ca)) (hr : meth.sig.returnType = (some .int)) (N : Nat)   (x1 : Int32) (x2 : Int32) (s0 : Int32) (σ : zSt) : zGO p l e rmX8_sizeOf s m args below meth c 0 0 (zwM ad ca) D A 4 (zQ below D A (zwM ad ca) args s zI) (fX8_sizeOf_57 N x1 x2 s0 σ) σ 57 [(0, .ref (ad 0)), (1, .int x1), (2, .int x2)] [.int s0, .ref (ad 0)] := by
  unfold fX8_sizeOf_57
  refine z_runVv (b0 := ad 0) (As := [.int s0]) (rest := []) hc dX8_sizeOf_57 (fun _ _ h => tX8_began h) mpX8_began miX8_began kmX8_339 ⟨rfl, rfl, Nat.le_of_ble_eq_true rfl, Nat.le_of_ble_eq_true rfl⟩ ⟨Nat.le_refl _, Nat.le_refl _⟩ zcM_rc0 rfl (Nat.le_of_ble_eq_true rfl) (fun b1 σ2 => ?_)
  refine z_aload_n hc dX8_sizeOf_60 0 rfl ?_
  refine z_bipush (v := (10 : Int32)) hc dX8_sizeOf_61 (by decide) ?_
  refine z_runVv (b0 := ad 0) (As := [.int (10 : Int32)]) (rest := []) hc dX8_sizeOf_63 (fun _ _ h => tX8_began h) mpX8_began miX8_began kmX8_339 ⟨rfl, rfl, Nat.le_of_ble_eq_true rfl, Nat.le_of_ble_eq_true rfl⟩ ⟨Nat.le_refl _, Nat.le_refl _⟩ zcM_rc0 rfl (Nat.le_of_ble_eq_true rfl) (fun b3 σ4 => ?_)
  refine z_aload_n hc dX8_sizeOf_66 0 rfl ?_
  refine z_iload_n hc dX8_sizeOf_67 1 rfl ?_
  refine z_runVi (b0 := ad 0) (As := [.int x1]) (rest := []) hc dX8_sizeOf_68 (fun _ _ h => tX8_partsIn h) mpX8_partsIn miX8_partsIn kmX8_327 ⟨rfl, rfl, Nat.le_of_ble_eq_true rfl, Nat.le_of_ble_eq_true rfl⟩ ⟨Nat.le_refl _, Nat.le_refl _⟩ zcM_rc0 rfl (Nat.le_of_ble_eq_true rfl) (fun b5 σ6 => ?_)
  refine z_iload_n hc dX8_sizeOf_71 2 rfl ?_
  refine z_iconst (v := (1 : Int32)) hc dX8_sizeOf_72 (by decide) ?_
  refine z_runSi (As := [.int x2, .int (1 : Int32)]) (rest := [.int b5]) hc dX8_sizeOf_73 (fun _ _ h => tX8_isOf h) mpX8_isOf miX8_isOf kmX8_333 ⟨rfl, rfl, Nat.le_of_ble_eq_true rfl, Nat.le_of_ble_eq_true rfl⟩ ⟨Nat.le_refl _, Nat.le_refl _⟩ rfl (Nat.le_of_ble_eq_true rfl) (fun b7 σ8 => ?_)
  refine z_if_eq (tgt := 88) hc dX8_sizeOf_76 (by decide) ?_ ?_
  · refine z_aload_n hc dX8_sizeOf_88 0 rfl ?_
    refine z_iload_n hc dX8_sizeOf_89 1 rfl ?_
    refine z_iload_n hc dX8_sizeOf_90 2 rfl ?_
    refine z_runVi (b0 := ad 0) (As := [.int x1, .int x2]) (rest := [.int b5]) hc dX8_sizeOf_91 (fun _ _ h => tX8_markOf h) mpX8_markOf miX8_markOf kmX8_342 ⟨rfl, rfl, Nat.le_of_ble_eq_true rfl, Nat.le_of_ble_eq_true rfl⟩ ⟨Nat.le_refl _, Nat.le_refl _⟩ zcM_rc0 rfl (Nat.le_of_ble_eq_true rfl) (fun b9 σ10 => ?_)
    exact tX8_sizeOf_94 hc hr N _ _ _ _ _
  · refine z_aload_n hc dX8_sizeOf_79 0 rfl ?_
    refine gfX8_22 hc dX8_sizeOf_80 ?_
    refine z_iload_n hc dX8_sizeOf_83 1 rfl ?_
    refine z_iaload hc 5 (by decide) rfl dX8_sizeOf_84 (fun v11 => ?_)
    refine z_goto (tgt := 94) hc dX8_sizeOf_85 (by decide) ?_
    exact tX8_sizeOf_94 hc hr N _ _ _ _ _
set_option maxRecDepth 100000 in
set_option maxHeartbeats 4000000 in
theorem tX8_sizeOf_41 {p : Program} {l : Launch} {e : Env} {s : State} {m : MethodId} {args : Array Value} {below : List Frame} {meth : Method} {c : Code} {D : va_G} {ca : Nat → ClassId} {xa ad : Nat → Nat} {A : Nat → Prop} (hc : zCx p s m args meth c cX8_sizeOf 4 RX8 D ca xa A (zwM ad ca)) (hr : meth.sig.returnType = (some .int)) (N : Nat)   (x1 : Int32) (x2 : Int32) (σ : zSt) : zGO p l e rmX8_sizeOf s m args below meth c 0 0 (zwM ad ca) D A 4 (zQ below D A (zwM ad ca) args s zI) (fX8_sizeOf_41 N x1 x2 σ) σ 41 [(0, .ref (ad 0)), (1, .int x1), (2, .int x2)] [] := by
  unfold fX8_sizeOf_41
  refine z_aload_n hc dX8_sizeOf_41 0 rfl ?_
  refine z_iload_n hc dX8_sizeOf_42 2 rfl ?_
  refine z_iconst (v := (1 : Int32)) hc dX8_sizeOf_43 (by decide) ?_
  refine z_runSi (As := [.int x2, .int (1 : Int32)]) (rest := [.ref (ad 0)]) hc dX8_sizeOf_44 (fun _ _ h => tX8_isOf h) mpX8_isOf miX8_isOf kmX8_333 ⟨rfl, rfl, Nat.le_of_ble_eq_true rfl, Nat.le_of_ble_eq_true rfl⟩ ⟨Nat.le_refl _, Nat.le_refl _⟩ rfl (Nat.le_of_ble_eq_true rfl) (fun b1 σ2 => ?_)
  refine z_if_eq (tgt := 55) hc dX8_sizeOf_47 (by decide) ?_ ?_
  · refine z_bipush (v := (13 : Int32)) hc dX8_sizeOf_55 (by decide) ?_
    exact tX8_sizeOf_57 hc hr N _ _ _ _
  · refine z_bipush (v := (11 : Int32)) hc dX8_sizeOf_50 (by decide) ?_
    refine z_goto (tgt := 57) hc dX8_sizeOf_52 (by decide) ?_
    exact tX8_sizeOf_57 hc hr N _ _ _ _
set_option maxRecDepth 100000 in
set_option maxHeartbeats 4000000 in
theorem tX8_sizeOf_38 {p : Program} {l : Launch} {e : Env} {s : State} {m : MethodId} {args : Array Value} {below : List Frame} {meth : Method} {c : Code} {D : va_G} {ca : Nat → ClassId} {xa ad : Nat → Nat} {A : Nat → Prop} (hc : zCx p s m args meth c cX8_sizeOf 4 RX8 D ca xa A (zwM ad ca)) (hr : meth.sig.returnType = (some .int)) (N : Nat)   (x1 : Int32) (x2 : Int32) (s0 : Int32) (σ : zSt) : zGO p l e rmX8_sizeOf s m args below meth c 0 0 (zwM ad ca) D A 4 (zQ below D A (zwM ad ca) args s zI) (fX8_sizeOf_38 N x1 x2 s0 σ) σ 38 [(0, .ref (ad 0)), (1, .int x1), (2, .int x2)] [.int s0, .ref (ad 0)] := by
  unfold fX8_sizeOf_38
  refine z_runVv (b0 := ad 0) (As := [.int s0]) (rest := []) hc dX8_sizeOf_38 (fun _ _ h => tX8_began h) mpX8_began miX8_began kmX8_339 ⟨rfl, rfl, Nat.le_of_ble_eq_true rfl, Nat.le_of_ble_eq_true rfl⟩ ⟨Nat.le_refl _, Nat.le_refl _⟩ zcM_rc0 rfl (Nat.le_of_ble_eq_true rfl) (fun b1 σ2 => ?_)
  exact tX8_sizeOf_41 hc hr N _ _ _
set_option maxRecDepth 100000 in
set_option maxHeartbeats 4000000 in
theorem tX8_sizeOf_15 {p : Program} {l : Launch} {e : Env} {s : State} {m : MethodId} {args : Array Value} {below : List Frame} {meth : Method} {c : Code} {D : va_G} {ca : Nat → ClassId} {xa ad : Nat → Nat} {A : Nat → Prop} (hc : zCx p s m args meth c cX8_sizeOf 4 RX8 D ca xa A (zwM ad ca)) (hr : meth.sig.returnType = (some .int)) (N : Nat)   (x1 : Int32) (x2 : Int32) (σ : zSt) : zGO p l e rmX8_sizeOf s m args below meth c 0 0 (zwM ad ca) D A 4 (zQ below D A (zwM ad ca) args s zI) (fX8_sizeOf_15 N x1 x2 σ) σ 15 [(0, .ref (ad 0)), (1, .int x1), (2, .int x2)] [] := by
  unfold fX8_sizeOf_15
  refine z_aload_n hc dX8_sizeOf_15 0 rfl ?_
  refine z_iload_n hc dX8_sizeOf_16 2 rfl ?_
  refine z_iconst (v := (2 : Int32)) hc dX8_sizeOf_17 (by decide) ?_
  refine z_icmp_ne (tgt := 26) hc dX8_sizeOf_18 (by decide) ?_ ?_
  · refine z_bipush (v := (12 : Int32)) hc dX8_sizeOf_21 (by decide) ?_
    refine z_goto (tgt := 38) hc dX8_sizeOf_23 (by decide) ?_
    exact tX8_sizeOf_38 hc hr N _ _ _ _
  · refine z_iload_n hc dX8_sizeOf_26 2 rfl ?_
    refine z_iconst (v := (5 : Int32)) hc dX8_sizeOf_27 (by decide) ?_
    refine z_icmp_ne (tgt := 36) hc dX8_sizeOf_28 (by decide) ?_ ?_
    · refine z_bipush (v := (15 : Int32)) hc dX8_sizeOf_31 (by decide) ?_
      refine z_goto (tgt := 38) hc dX8_sizeOf_33 (by decide) ?_
      exact tX8_sizeOf_38 hc hr N _ _ _ _
    · refine z_bipush (v := (14 : Int32)) hc dX8_sizeOf_36 (by decide) ?_
      exact tX8_sizeOf_38 hc hr N _ _ _ _
set_option maxRecDepth 100000 in
set_option maxHeartbeats 4000000 in
theorem tX8_sizeOf {l : Launch} {D : va_G} {ca : Nat → ClassId} {xa ad : Nat → Nat} {A : Nat → Prop} {N : Nat} {x1 : Int32} {x2 : Int32} {σ : zSt} {a : Int32} {τ : zSt} (h : fX8_sizeOf N x1 x2 σ = some (a, τ)) : zCt l yX8_sizeOf cX8_sizeOf 4 (some .int) rmX8_sizeOf D ca xa A (zwM ad ca) [.ref (ad 0), .int x1, .int x2] σ (zI a) τ := by
  refine z_met (inj := zI) (lv := [(0, .ref (ad 0)), (1, .int x1), (2, .int x2)]) (by decide) (Nat.le_of_ble_eq_true rfl) rfl ?_ h
  intro p e s m args below meth c hc hr
  unfold fX8_sizeOf
  refine z_iload_n hc dX8_sizeOf_0 2 rfl ?_
  refine z_iconst (v := (2 : Int32)) hc dX8_sizeOf_1 (by decide) ?_
  refine z_icmp_eq (tgt := 15) hc dX8_sizeOf_2 (by decide) ?_ ?_
  · exact tX8_sizeOf_15 hc hr N _ _ _
  · refine z_iload_n hc dX8_sizeOf_5 2 rfl ?_
    refine z_iconst (v := (5 : Int32)) hc dX8_sizeOf_6 (by decide) ?_
    refine z_icmp_eq (tgt := 15) hc dX8_sizeOf_7 (by decide) ?_ ?_
    · exact tX8_sizeOf_15 hc hr N _ _ _
    · refine z_iload_n hc dX8_sizeOf_10 2 rfl ?_
      refine z_iconst (v := (4 : Int32)) hc dX8_sizeOf_11 (by decide) ?_
      refine z_icmp_ne (tgt := 41) hc dX8_sizeOf_12 (by decide) ?_ ?_
      · exact tX8_sizeOf_15 hc hr N _ _ _
      · exact tX8_sizeOf_41 hc hr N _ _ _
set_option maxRecDepth 100000 in
set_option maxHeartbeats 4000000 in
theorem tX8_ask {l : Launch} {D : va_G} {ca : Nat → ClassId} {xa ad : Nat → Nat} {A : Nat → Prop} {N : Nat} {x1 : Int32} {x2 : Int32} {σ : zSt} {a : Int32} {τ : zSt} (h : fX8_ask N x1 x2 σ = some (a, τ)) : zCt l yX8_ask cX8_ask 3 (some .int) rmX8_ask D ca xa A (zwM ad ca) [.ref (ad 0), .int x1, .int x2] σ (zI a) τ := by
  refine z_met (inj := zI) (lv := [(0, .ref (ad 0)), (1, .int x1), (2, .int x2)]) (by decide) (Nat.le_of_ble_eq_true rfl) rfl ?_ h
  intro p e s m args below meth c hc hr
  unfold fX8_ask
  refine z_aload_n hc dX8_ask_0 0 rfl ?_
  refine z_iconst (v := (0 : Int32)) hc dX8_ask_1 (by decide) ?_
  refine pfX8_78 hc dX8_ask_2 (fun σ1 => ?_)
  refine z_aload_n hc dX8_ask_5 0 rfl ?_
  refine z_iload_n hc dX8_ask_6 1 rfl ?_
  refine z_runVi (b0 := ad 0) (As := [.int x1]) (rest := []) hc dX8_ask_7 (fun _ _ h => tX8_isNode h) mpX8_isNode miX8_isNode kmX8_204 ⟨rfl, rfl, Nat.le_of_ble_eq_true rfl, Nat.le_of_ble_eq_true rfl⟩ ⟨Nat.le_refl _, Nat.le_refl _⟩ zcM_rc0 rfl (Nat.le_of_ble_eq_true rfl) (fun b2 σ3 => ?_)
  refine z_if_eq (tgt := 23) hc dX8_ask_10 (by decide) ?_ ?_
  · refine z_ldc hc dX8_ask_23 kcX8_98 ?_
    exact z_iret hc hr dX8_ask_25
  · refine z_iload_n hc dX8_ask_13 2 rfl ?_
    refine z_i2l hc dX8_ask_14 ?_
    refine z_lconst (v := (0 : Int64)) hc dX8_ask_15 (by decide) ?_
    refine z_lconst (v := (1 : Int64)) hc dX8_ask_16 (by decide) ?_
    refine z_runSi (As := [.long x2.toInt64, .long (0 : Int64), .long (1 : Int64)]) (rest := []) hc dX8_ask_17 (fun _ _ h => tX8_in h) mpX8_in miX8_in kmX8_88 ⟨rfl, rfl, Nat.le_of_ble_eq_true rfl, Nat.le_of_ble_eq_true rfl⟩ ⟨Nat.le_refl _, Nat.le_refl _⟩ rfl (Nat.le_of_ble_eq_true rfl) (fun b4 σ5 => ?_)
    refine z_if_ne (tgt := 26) hc dX8_ask_20 (by decide) ?_ ?_
    · refine z_ldc hc dX8_ask_23 kcX8_98 ?_
      exact z_iret hc hr dX8_ask_25
    · refine z_aload_n hc dX8_ask_26 0 rfl ?_
      refine z_iconst (v := (0 : Int32)) hc dX8_ask_27 (by decide) ?_
      refine pfX8_336 hc dX8_ask_28 (fun σ6 => ?_)
      refine z_iload_n hc dX8_ask_31 2 rfl ?_
      refine z_if_ne (tgt := 48) hc dX8_ask_32 (by decide) ?_ ?_
      · refine z_aload_n hc dX8_ask_35 0 rfl ?_
        refine z_iload_n hc dX8_ask_36 1 rfl ?_
        refine z_aload_n hc dX8_ask_37 0 rfl ?_
        refine z_iload_n hc dX8_ask_38 1 rfl ?_
        refine z_runVi (b0 := ad 0) (As := [.int x1]) (rest := [.int x1, .ref (ad 0)]) hc dX8_ask_39 (fun _ _ h => tX8_kindOf h) mpX8_kindOf miX8_kindOf kmX8_330 ⟨rfl, rfl, Nat.le_of_ble_eq_true rfl, Nat.le_of_ble_eq_true rfl⟩ ⟨Nat.le_refl _, Nat.le_refl _⟩ zcM_rc0 rfl (Nat.le_of_ble_eq_true rfl) (fun b7 σ8 => ?_)
        refine z_runVi (b0 := ad 0) (As := [.int x1, .int b7]) (rest := []) hc dX8_ask_42 (fun _ _ h => tX8_sizeOf h) mpX8_sizeOf miX8_sizeOf kmX8_348 ⟨rfl, rfl, Nat.le_of_ble_eq_true rfl, Nat.le_of_ble_eq_true rfl⟩ ⟨Nat.le_refl _, Nat.le_refl _⟩ zcM_rc0 rfl (Nat.le_of_ble_eq_true rfl) (fun b9 σ10 => ?_)
        refine z_goto (tgt := 58) hc dX8_ask_45 (by decide) ?_
        exact z_iret hc hr dX8_ask_58
      · refine z_aload_n hc dX8_ask_48 0 rfl ?_
        refine z_iload_n hc dX8_ask_49 1 rfl ?_
        refine z_aload_n hc dX8_ask_50 0 rfl ?_
        refine z_iload_n hc dX8_ask_51 1 rfl ?_
        refine z_runVi (b0 := ad 0) (As := [.int x1]) (rest := [.int x1, .ref (ad 0)]) hc dX8_ask_52 (fun _ _ h => tX8_kindOf h) mpX8_kindOf miX8_kindOf kmX8_330 ⟨rfl, rfl, Nat.le_of_ble_eq_true rfl, Nat.le_of_ble_eq_true rfl⟩ ⟨Nat.le_refl _, Nat.le_refl _⟩ zcM_rc0 rfl (Nat.le_of_ble_eq_true rfl) (fun b11 σ12 => ?_)
        refine z_runVi (b0 := ad 0) (As := [.int x1, .int b11]) (rest := []) hc dX8_ask_55 (fun _ _ h => tX8_markOf h) mpX8_markOf miX8_markOf kmX8_342 ⟨rfl, rfl, Nat.le_of_ble_eq_true rfl, Nat.le_of_ble_eq_true rfl⟩ ⟨Nat.le_refl _, Nat.le_refl _⟩ zcM_rc0 rfl (Nat.le_of_ble_eq_true rfl) (fun b13 σ14 => ?_)
        exact z_iret hc hr dX8_ask_58
set_option maxRecDepth 100000 in
set_option maxHeartbeats 4000000 in
theorem tX7_trace {l : Launch} {D : va_G} {ca : Nat → ClassId} {xa ad : Nat → Nat} {A : Nat → Prop} {N : Nat} {x1 : Int32} {σ : zSt} {a : Int32} {τ : zSt} (h : fX7_trace N x1 σ = some (a, τ)) : zCt l yX7_trace cX7_trace 2 (some .int) rmX7_trace D ca xa A (zwC ad ca) [.ref (ad 0), .int x1] σ (zI a) τ := by
  refine z_met (inj := zI) (lv := [(0, .ref (ad 0)), (1, .int x1)]) (by decide) (Nat.le_of_ble_eq_true rfl) rfl ?_ h
  intro p e s m args below meth c hc hr
  unfold fX7_trace
  refine z_iload_n hc dX7_trace_0 1 rfl ?_
  refine z_iconst (v := (0 : Int32)) hc dX7_trace_1 (by decide) ?_
  refine z_aload_n hc dX7_trace_2 0 rfl ?_
  refine gfX7_47 hc dX7_trace_3 ?_
  refine gfX7_288 hc dX7_trace_6 ?_
  refine z_iconst (v := (1 : Int32)) hc dX7_trace_9 (by decide) ?_
  refine z_isub hc dX7_trace_10 ?_
  refine z_runSi (As := [.int x1, .int (0 : Int32), .int ((σ.1 33 1) - (1 : Int32))]) (rest := []) hc dX7_trace_11 (fun _ _ h => tX7_isWithin h) mpX7_isWithin miX7_isWithin kmX7_62 ⟨rfl, rfl, Nat.le_of_ble_eq_true rfl, Nat.le_of_ble_eq_true rfl⟩ ⟨Nat.le_refl _, Nat.le_refl _⟩ rfl (Nat.le_of_ble_eq_true rfl) (fun b1 σ2 => ?_)
  refine z_if_eq (tgt := 29) hc dX7_trace_14 (by decide) ?_ ?_
  · refine z_ldc hc dX7_trace_29 kcX7_135 ?_
    exact z_iret hc hr dX7_trace_31
  · refine z_aload_n hc dX7_trace_17 0 rfl ?_
    refine gfX7_47 hc dX7_trace_18 ?_
    refine gfX7_291 hc dX7_trace_21 ?_
    refine z_iload_n hc dX7_trace_24 1 rfl ?_
    refine z_iaload hc 34 (by decide) rfl dX7_trace_25 (fun v3 => ?_)
    refine z_goto (tgt := 31) hc dX7_trace_26 (by decide) ?_
    exact z_iret hc hr dX7_trace_31
set_option maxRecDepth 100000 in
set_option maxHeartbeats 4000000 in
theorem tX8_trace {l : Launch} {D : va_G} {ca : Nat → ClassId} {xa ad : Nat → Nat} {A : Nat → Prop} {N : Nat} {x1 : Int32} {σ : zSt} {a : Int32} {τ : zSt} (h : fX8_trace N x1 σ = some (a, τ)) : zCt l yX8_trace cX8_trace 2 (some .int) rmX8_trace D ca xa A (zwM ad ca) [.ref (ad 0), .int x1] σ (zI a) τ := by
  refine z_met (inj := zI) (lv := [(0, .ref (ad 0)), (1, .int x1)]) (by decide) (Nat.le_of_ble_eq_true rfl) rfl ?_ h
  intro p e s m args below meth c hc hr
  unfold fX8_trace
  refine z_aload_n hc dX8_trace_0 0 rfl ?_
  refine z_iconst (v := (0 : Int32)) hc dX8_trace_1 (by decide) ?_
  refine pfX8_78 hc dX8_trace_2 (fun σ1 => ?_)
  refine z_iload_n hc dX8_trace_5 1 rfl ?_
  refine z_i2l hc dX8_trace_6 ?_
  refine z_lconst (v := (0 : Int64)) hc dX8_trace_7 (by decide) ?_
  refine z_aload_n hc dX8_trace_8 0 rfl ?_
  refine gfX8_336 hc dX8_trace_9 ?_
  refine z_iconst (v := (1 : Int32)) hc dX8_trace_12 (by decide) ?_
  refine z_isub hc dX8_trace_13 ?_
  refine z_i2l hc dX8_trace_14 ?_
  refine z_runSi (As := [.long x1.toInt64, .long (0 : Int64), .long ((σ1.1 0 45) - (1 : Int32)).toInt64]) (rest := []) hc dX8_trace_15 (fun _ _ h => tX8_in h) mpX8_in miX8_in kmX8_88 ⟨rfl, rfl, Nat.le_of_ble_eq_true rfl, Nat.le_of_ble_eq_true rfl⟩ ⟨Nat.le_refl _, Nat.le_refl _⟩ rfl (Nat.le_of_ble_eq_true rfl) (fun b2 σ3 => ?_)
  refine z_if_eq (tgt := 30) hc dX8_trace_18 (by decide) ?_ ?_
  · refine z_ldc hc dX8_trace_30 kcX8_114 ?_
    exact z_iret hc hr dX8_trace_32
  · refine z_aload_n hc dX8_trace_21 0 rfl ?_
    refine gfX8_75 hc dX8_trace_22 ?_
    refine z_iload_n hc dX8_trace_25 1 rfl ?_
    refine z_iaload hc 22 (by decide) rfl dX8_trace_26 (fun v4 => ?_)
    refine z_goto (tgt := 32) hc dX8_trace_27 (by decide) ?_
    exact z_iret hc hr dX8_trace_32
set_option maxRecDepth 100000 in
set_option maxHeartbeats 4000000 in
theorem tX3_laid_4 {p : Program} {l : Launch} {e : Env} {s : State} {m : MethodId} {args : Array Value} {below : List Frame} {meth : Method} {c : Code} {D : va_G} {ca : Nat → ClassId} {xa ad : Nat → Nat} {A : Nat → Prop} (hc : zCx p s m args meth c cX3_laid 3 RX3 D ca xa A (zwC ad ca)) (hr : meth.sig.returnType = (some .int)) (N : Nat)   : ∀ (n : Nat) (x1 : Int32) (x2 : Int32) (σ : zSt), zGO p l e rmX3_laid s m args below meth c 0 0 (zwC ad ca) D A 3 (zQ below D A (zwC ad ca) args s zI) (fX3_laid_4 N n x1 x2 σ) σ 4 [(0, .ref (ad 1)), (1, .int x1), (2, .int x2)] [] := by
  intro n
  induction n with
  | zero =>
    intro x1 x2 σ
    exact z_none
  | succ n ih =>
    intro x1 x2 σ
    unfold fX3_laid_4
    refine z_iload_n hc dX3_laid_4 2 rfl ?_
    refine z_bipush (v := (8 : Int32)) hc dX3_laid_5 (by decide) ?_
    refine z_icmp_ge (tgt := 29) hc dX3_laid_7 (by decide) ?_ ?_
    · refine z_iload_n hc dX3_laid_29 1 rfl ?_
      exact z_iret hc hr dX3_laid_30
    · refine z_aload_n hc dX3_laid_10 0 rfl ?_
      refine gfX3_16 hc dX3_laid_11 ?_
      refine z_iload_n hc dX3_laid_14 2 rfl ?_
      refine z_iaload hc 4 (by decide) rfl dX3_laid_15 (fun v1 => ?_)
      refine z_iconst (v := (-1 : Int32)) hc dX3_laid_16 (by decide) ?_
      refine z_icmp_eq (tgt := 23) hc dX3_laid_17 (by decide) ?_ ?_
      · refine z_iinc (v := (x2 + (1 : Int32))) (lv' := [(2, .int (x2 + (1 : Int32))), (0, .ref (ad 1)), (1, .int x1)]) hc dX3_laid_23 2 rfl rfl (by decide) rfl ?_
        refine z_goto (tgt := 4) hc dX3_laid_26 (by decide) ?_
        refine z_sub [1, 2, 0] rfl ?_
        exact ih _ _ _
      · refine z_iinc (v := (x1 + (1 : Int32))) (lv' := [(1, .int (x1 + (1 : Int32))), (0, .ref (ad 1)), (2, .int x2)]) hc dX3_laid_20 1 rfl rfl (by decide) rfl ?_
        refine z_iinc (v := (x2 + (1 : Int32))) (lv' := [(2, .int (x2 + (1 : Int32))), (1, .int (x1 + (1 : Int32))), (0, .ref (ad 1))]) hc dX3_laid_23 2 rfl rfl (by decide) rfl ?_
        refine z_goto (tgt := 4) hc dX3_laid_26 (by decide) ?_
        refine z_sub [2, 1, 0] rfl ?_
        exact ih _ _ _
set_option maxRecDepth 100000 in
set_option maxHeartbeats 4000000 in
theorem tX3_laid {l : Launch} {D : va_G} {ca : Nat → ClassId} {xa ad : Nat → Nat} {A : Nat → Prop} {N : Nat}  {σ : zSt} {a : Int32} {τ : zSt} (h : fX3_laid N σ = some (a, τ)) : zCt l yX3_laid cX3_laid 3 (some .int) rmX3_laid D ca xa A (zwC ad ca) [.ref (ad 1)] σ (zI a) τ := by
  refine z_met (inj := zI) (lv := [(0, .ref (ad 1))]) (by decide) (Nat.le_of_ble_eq_true rfl) rfl ?_ h
  intro p e s m args below meth c hc hr
  unfold fX3_laid
  refine z_iconst (v := (0 : Int32)) hc dX3_laid_0 (by decide) ?_
  refine z_istore_n (lv' := [(1, .int (0 : Int32)), (0, .ref (ad 1))]) hc dX3_laid_1 rfl (by decide) rfl ?_
  refine z_iconst (v := (0 : Int32)) hc dX3_laid_2 (by decide) ?_
  refine z_istore_n (lv' := [(2, .int (0 : Int32)), (1, .int (0 : Int32)), (0, .ref (ad 1))]) hc dX3_laid_3 rfl (by decide) rfl ?_
  refine z_sub [2, 1, 0] rfl ?_
  exact tX3_laid_4 hc hr N N _ _ _
set_option maxRecDepth 100000 in
set_option maxHeartbeats 4000000 in
theorem tX2_grounds {l : Launch} {D : va_G} {ca : Nat → ClassId} {xa ad : Nat → Nat} {A : Nat → Prop} {N : Nat}  {σ : zSt} {a : Int32} {τ : zSt} (h : fX2_grounds N σ = some (a, τ)) : zCt l yX2_grounds cX2_grounds 1 (some .int) rmX2_grounds D ca xa A (zwC ad ca) [.ref (ad 7)] σ (zI a) τ := by
  refine z_met (inj := zI) (lv := [(0, .ref (ad 7))]) (by decide) (Nat.le_of_ble_eq_true rfl) rfl ?_ h
  intro p e s m args below meth c hc hr
  unfold fX2_grounds
  refine z_iconst (v := (1 : Int32)) hc dX2_grounds_0 (by decide) ?_
  refine z_aload_n hc dX2_grounds_1 0 rfl ?_
  refine gfX2_51 hc dX2_grounds_2 ?_
  refine z_ishl hc dX2_grounds_5 ?_
  refine z_iconst (v := (1 : Int32)) hc dX2_grounds_6 (by decide) ?_
  refine z_isub hc dX2_grounds_7 ?_
  refine z_aload_n hc dX2_grounds_8 0 rfl ?_
  refine z_runVi (b0 := ad 7) (As := []) (rest := [.int (((1 : Int32) <<< ((σ.1 7 0) &&& 31)) - (1 : Int32))]) hc dX2_grounds_9 (fun _ _ h => tX2_claims h) mpX2_claims miX2_claims kmX2_81 ⟨rfl, rfl, Nat.le_of_ble_eq_true rfl, Nat.le_of_ble_eq_true rfl⟩ ⟨Nat.le_refl _, Nat.le_refl _⟩ zcC_rc7 rfl (Nat.le_of_ble_eq_true rfl) (fun b1 σ2 => ?_)
  refine z_iconst (v := (-1 : Int32)) hc dX2_grounds_12 (by decide) ?_
  refine z_ixor hc dX2_grounds_13 ?_
  refine z_iand hc dX2_grounds_14 ?_
  exact z_iret hc hr dX2_grounds_15
set_option maxRecDepth 100000 in
set_option maxHeartbeats 4000000 in
theorem tX7_count {l : Launch} {D : va_G} {ca : Nat → ClassId} {xa ad : Nat → Nat} {A : Nat → Prop} {N : Nat} {x1 : Int32} {σ : zSt} {a : Int32} {τ : zSt} (h : fX7_count N x1 σ = some (a, τ)) : zCt l yX7_count cX7_count 2 (some .int) rmX7_count D ca xa A (zwC ad ca) [.ref (ad 0), .int x1] σ (zI a) τ := by
  refine z_met (inj := zI) (lv := [(0, .ref (ad 0)), (1, .int x1)]) (by decide) (Nat.le_of_ble_eq_true rfl) rfl ?_ h
  intro p e s m args below meth c hc hr
  unfold fX7_count
  refine z_iload_n hc dX7_count_0 1 rfl ?_
  refine z_ite (fun h3 => ?_) (fun h3 => ?_)
  · refine z_swIn (tgt := 48) (off := 47) hc dX7_count_1 (by rw [h3]; decide) (by rw [h3]; decide) (by rw [h3]; decide) (by decide) ?_
    refine z_aload_n hc dX7_count_48 0 rfl ?_
    refine gfX7_10 hc dX7_count_49 ?_
    refine z_runVNi (b0 := ad 1) (As := []) (rest := []) hc dX7_count_52 (fun _ _ h => tX3_laid h) mpX3_laid miX3_laid kmX7_294 ⟨rfl, rfl, Nat.le_of_ble_eq_true rfl, Nat.le_of_ble_eq_true rfl⟩ ⟨Nat.le_refl _, Nat.le_refl _⟩ zcC_rc1 rfl (Nat.le_of_ble_eq_true rfl) (fun b1 σ2 => ?_)
    exact z_iret hc hr dX7_count_55
  refine z_ite (fun h4 => ?_) (fun h4 => ?_)
  · refine z_swIn (tgt := 56) (off := 55) hc dX7_count_1 (by rw [h4]; decide) (by rw [h4]; decide) (by rw [h4]; decide) (by decide) ?_
    refine z_aload_n hc dX7_count_56 0 rfl ?_
    refine gfX7_26 hc dX7_count_57 ?_
    refine gfX7_107 hc dX7_count_60 ?_
    exact z_iret hc hr dX7_count_63
  refine z_ite (fun h9 => ?_) (fun h9 => ?_)
  · refine z_swIn (tgt := 64) (off := 63) hc dX7_count_1 (by rw [h9]; decide) (by rw [h9]; decide) (by rw [h9]; decide) (by decide) ?_
    refine z_aload_n hc dX7_count_64 0 rfl ?_
    refine gfX7_26 hc dX7_count_65 ?_
    refine z_runVNi (b0 := ad 7) (As := []) (rest := []) hc dX7_count_68 (fun _ _ h => tX2_claims h) mpX2_claims miX2_claims kmX7_198 ⟨rfl, rfl, Nat.le_of_ble_eq_true rfl, Nat.le_of_ble_eq_true rfl⟩ ⟨Nat.le_refl _, Nat.le_refl _⟩ zcC_rc7 rfl (Nat.le_of_ble_eq_true rfl) (fun b5 σ6 => ?_)
    refine z_runSi (As := [.int b5]) (rest := []) hc dX7_count_71 (fun _ _ h => tJ6_bitCount_0f7a4 h) mpJ6_bitCount_0f7a4 miJ6_bitCount_0f7a4 kmX7_221 ⟨rfl, rfl, Nat.le_of_ble_eq_true rfl, Nat.le_of_ble_eq_true rfl⟩ ⟨Nat.le_refl _, Nat.le_refl _⟩ rfl (Nat.le_of_ble_eq_true rfl) (fun b7 σ8 => ?_)
    exact z_iret hc hr dX7_count_74
  refine z_ite (fun h10 => ?_) (fun h10 => ?_)
  · refine z_swIn (tgt := 75) (off := 74) hc dX7_count_1 (by rw [h10]; decide) (by rw [h10]; decide) (by rw [h10]; decide) (by decide) ?_
    refine z_aload_n hc dX7_count_75 0 rfl ?_
    refine gfX7_26 hc dX7_count_76 ?_
    refine gfX7_110 hc dX7_count_79 ?_
    exact z_iret hc hr dX7_count_82
  refine z_ite (fun h13 => ?_) (fun h13 => ?_)
  · refine z_swIn (tgt := 83) (off := 82) hc dX7_count_1 (by rw [h13]; decide) (by rw [h13]; decide) (by rw [h13]; decide) (by decide) ?_
    refine z_aload_n hc dX7_count_83 0 rfl ?_
    refine gfX7_26 hc dX7_count_84 ?_
    refine z_iconst (v := (0 : Int32)) hc dX7_count_87 (by decide) ?_
    refine z_runVNi (b0 := ad 7) (As := [.int (0 : Int32)]) (rest := []) hc dX7_count_88 (fun _ _ h => tX2_doubtsToldAs h) mpX2_doubtsToldAs miX2_doubtsToldAs kmX7_183 ⟨rfl, rfl, Nat.le_of_ble_eq_true rfl, Nat.le_of_ble_eq_true rfl⟩ ⟨Nat.le_refl _, Nat.le_refl _⟩ zcC_rc7 rfl (Nat.le_of_ble_eq_true rfl) (fun b11 σ12 => ?_)
    exact z_iret hc hr dX7_count_91
  refine z_ite (fun h20 => ?_) (fun h20 => ?_)
  · refine z_swIn (tgt := 92) (off := 91) hc dX7_count_1 (by rw [h20]; decide) (by rw [h20]; decide) (by rw [h20]; decide) (by decide) ?_
    refine z_aload_n hc dX7_count_92 0 rfl ?_
    refine gfX7_26 hc dX7_count_93 ?_
    refine z_runVNi (b0 := ad 7) (As := []) (rest := []) hc dX7_count_96 (fun _ _ h => tX2_grounds h) mpX2_grounds miX2_grounds kmX7_297 ⟨rfl, rfl, Nat.le_of_ble_eq_true rfl, Nat.le_of_ble_eq_true rfl⟩ ⟨Nat.le_refl _, Nat.le_refl _⟩ zcC_rc7 rfl (Nat.le_of_ble_eq_true rfl) (fun b14 σ15 => ?_)
    refine z_aload_n hc dX7_count_99 0 rfl ?_
    refine gfX7_26 hc dX7_count_100 ?_
    refine z_runVNi (b0 := ad 7) (As := []) (rest := [.int b14]) hc dX7_count_103 (fun _ _ h => tX2_standing h) mpX2_standing miX2_standing kmX7_207 ⟨rfl, rfl, Nat.le_of_ble_eq_true rfl, Nat.le_of_ble_eq_true rfl⟩ ⟨Nat.le_refl _, Nat.le_refl _⟩ zcC_rc7 rfl (Nat.le_of_ble_eq_true rfl) (fun b16 σ17 => ?_)
    refine z_iconst (v := (-1 : Int32)) hc dX7_count_106 (by decide) ?_
    refine z_ixor hc dX7_count_107 ?_
    refine z_iand hc dX7_count_108 ?_
    refine z_runSi (As := [.int (b14 &&& (b16 ^^^ (-1 : Int32)))]) (rest := []) hc dX7_count_109 (fun _ _ h => tJ6_bitCount_0f7a4 h) mpJ6_bitCount_0f7a4 miJ6_bitCount_0f7a4 kmX7_221 ⟨rfl, rfl, Nat.le_of_ble_eq_true rfl, Nat.le_of_ble_eq_true rfl⟩ ⟨Nat.le_refl _, Nat.le_refl _⟩ rfl (Nat.le_of_ble_eq_true rfl) (fun b18 σ19 => ?_)
    exact z_iret hc hr dX7_count_112
  refine z_ite (fun h21 => ?_) (fun h21 => ?_)
  · refine z_swIn (tgt := 113) (off := 112) hc dX7_count_1 (by rw [h21]; decide) (by rw [h21]; decide) (by rw [h21]; decide) (by decide) ?_
    refine z_aload_n hc dX7_count_113 0 rfl ?_
    refine gfX7_40 hc dX7_count_114 ?_
    refine gfX7_300 hc dX7_count_117 ?_
    exact z_iret hc hr dX7_count_120
  refine z_ite (fun h22 => ?_) (fun h22 => ?_)
  · refine z_swIn (tgt := 121) (off := 120) hc dX7_count_1 (by rw [h22]; decide) (by rw [h22]; decide) (by rw [h22]; decide) (by decide) ?_
    refine z_aload_n hc dX7_count_121 0 rfl ?_
    refine gfX7_19 hc dX7_count_122 ?_
    refine gfX7_303 hc dX7_count_125 ?_
    exact z_iret hc hr dX7_count_128
  refine z_swOut (tgt := 129) hc dX7_count_1 (zsw0_7 h3 h4 h9 h10 h13 h20 h21 h22) (by decide) ?_
  refine z_ldc hc dX7_count_129 kcX7_66 ?_
  exact z_iret hc hr dX7_count_131
set_option maxRecDepth 100000 in
set_option maxHeartbeats 4000000 in
theorem tX8_count_79 {p : Program} {l : Launch} {e : Env} {s : State} {m : MethodId} {args : Array Value} {below : List Frame} {meth : Method} {c : Code} {D : va_G} {ca : Nat → ClassId} {xa ad : Nat → Nat} {A : Nat → Prop} (hc : zCx p s m args meth c cX8_count 4 RX8 D ca xa A (zwM ad ca)) (hr : meth.sig.returnType = (some .int)) (N : Nat) (k58 : Int32 → Int32 → zSt → Option (Int32 × zSt)) (hk58 : ∀ (x2 : Int32) (x3 : Int32) (σ : zSt), zGO p l e rmX8_count s m args below meth c 0 0 (zwM ad ca) D A 4 (zQ below D A (zwM ad ca) args s zI) (k58 x2 x3 σ) σ 58 [(0, .ref (ad 0)), (2, .int x2), (3, .int x3)] []) (x3 : Int32) (s0 : Int32) (s1 : Int32) (σ : zSt) : zGO p l e rmX8_count s m args below meth c 0 0 (zwM ad ca) D A 4 (zQ below D A (zwM ad ca) args s zI) (fX8_count_79 N k58 x3 s0 s1 σ) σ 79 [(0, .ref (ad 0)), (3, .int x3)] [.int s0, .int s1] := by
  unfold fX8_count_79
  refine z_iadd hc dX8_count_79 ?_
  refine z_nm (fun v1 => ?_)
  refine z_istore_n (lv' := [(2, .int v1), (0, .ref (ad 0)), (3, .int x3)]) hc dX8_count_80 rfl (by decide) rfl ?_
  refine z_iinc (v := (x3 + (1 : Int32))) (lv' := [(3, .int (x3 + (1 : Int32))), (2, .int v1), (0, .ref (ad 0))]) hc dX8_count_81 2 rfl rfl (by decide) rfl ?_
  refine z_goto (tgt := 58) hc dX8_count_84 (by decide) ?_
  refine z_sub [2, 1, 0] rfl ?_
  exact hk58 _ _ _
set_option maxRecDepth 100000 in
set_option maxHeartbeats 4000000 in
theorem tX8_count_58 {p : Program} {l : Launch} {e : Env} {s : State} {m : MethodId} {args : Array Value} {below : List Frame} {meth : Method} {c : Code} {D : va_G} {ca : Nat → ClassId} {xa ad : Nat → Nat} {A : Nat → Prop} (hc : zCx p s m args meth c cX8_count 4 RX8 D ca xa A (zwM ad ca)) (hr : meth.sig.returnType = (some .int)) (N : Nat)   : ∀ (n : Nat) (x2 : Int32) (x3 : Int32) (σ : zSt), zGO p l e rmX8_count s m args below meth c 0 0 (zwM ad ca) D A 4 (zQ below D A (zwM ad ca) args s zI) (fX8_count_58 N n x2 x3 σ) σ 58 [(0, .ref (ad 0)), (2, .int x2), (3, .int x3)] [] := by
  intro n
  induction n with
  | zero =>
    intro x2 x3 σ
    exact z_none
  | succ n ih =>
    intro x2 x3 σ
    unfold fX8_count_58
    refine z_iload_n hc dX8_count_58 2 rfl ?_
    refine z_bipush (v := (8 : Int32)) hc dX8_count_59 (by decide) ?_
    refine z_icmp_ge (tgt := 87) hc dX8_count_61 (by decide) ?_ ?_
    · refine z_iload_n hc dX8_count_87 1 rfl ?_
      exact z_iret hc hr dX8_count_88
    · refine z_iload_n hc dX8_count_64 1 rfl ?_
      refine z_aload_n hc dX8_count_65 0 rfl ?_
      refine gfX8_7 hc dX8_count_66 ?_
      refine z_iload_n hc dX8_count_69 2 rfl ?_
      refine z_iaload hc 1 (by decide) rfl dX8_count_70 (fun v1 => ?_)
      refine z_if_lt (tgt := 78) hc dX8_count_71 (by decide) ?_ ?_
      · refine z_iconst (v := (0 : Int32)) hc dX8_count_78 (by decide) ?_
        refine z_sub [0, 2] rfl ?_
        exact tX8_count_79 hc hr N _ (ih) _ _ _ _
      · refine z_iconst (v := (1 : Int32)) hc dX8_count_74 (by decide) ?_
        refine z_goto (tgt := 79) hc dX8_count_75 (by decide) ?_
        refine z_sub [0, 2] rfl ?_
        exact tX8_count_79 hc hr N _ (ih) _ _ _ _
set_option maxRecDepth 100000 in
set_option maxHeartbeats 4000000 in
theorem tX8_count_109 {p : Program} {l : Launch} {e : Env} {s : State} {m : MethodId} {args : Array Value} {below : List Frame} {meth : Method} {c : Code} {D : va_G} {ca : Nat → ClassId} {xa ad : Nat → Nat} {A : Nat → Prop} (hc : zCx p s m args meth c cX8_count 4 RX8 D ca xa A (zwM ad ca)) (hr : meth.sig.returnType = (some .int)) (N : Nat)   : ∀ (n : Nat) (x2 : Int32) (x3 : Int32) (σ : zSt), zGO p l e rmX8_count s m args below meth c 0 0 (zwM ad ca) D A 4 (zQ below D A (zwM ad ca) args s zI) (fX8_count_109 N n x2 x3 σ) σ 109 [(0, .ref (ad 0)), (2, .int x2), (3, .int x3)] [] := by
  intro n
  induction n with
  | zero =>
    intro x2 x3 σ
    exact z_none
  | succ n ih =>
    intro x2 x3 σ
    unfold fX8_count_109
    refine z_iload_n hc dX8_count_109 2 rfl ?_
    refine z_aload_n hc dX8_count_110 0 rfl ?_
    refine gfX8_188 hc dX8_count_111 ?_
    refine z_icmp_ge (tgt := 131) hc dX8_count_114 (by decide) ?_ ?_
    · refine z_iload_n hc dX8_count_131 1 rfl ?_
      exact z_iret hc hr dX8_count_132
    · refine z_iload_n hc dX8_count_117 1 rfl ?_
      refine z_aload_n hc dX8_count_118 0 rfl ?_
      refine z_iload_n hc dX8_count_119 2 rfl ?_
      refine z_runVi (b0 := ad 0) (As := [.int x3]) (rest := [.int x2]) hc dX8_count_120 (fun _ _ h => tX8_openOf h) mpX8_openOf miX8_openOf kmX8_219 ⟨rfl, rfl, Nat.le_of_ble_eq_true rfl, Nat.le_of_ble_eq_true rfl⟩ ⟨Nat.le_refl _, Nat.le_refl _⟩ zcM_rc0 rfl (Nat.le_of_ble_eq_true rfl) (fun b1 σ2 => ?_)
      refine z_iadd hc dX8_count_123 ?_
      refine z_nm (fun v3 => ?_)
      refine z_istore_n (lv' := [(2, .int v3), (0, .ref (ad 0)), (3, .int x3)]) hc dX8_count_124 rfl (by decide) rfl ?_
      refine z_iinc (v := (x3 + (1 : Int32))) (lv' := [(3, .int (x3 + (1 : Int32))), (2, .int v3), (0, .ref (ad 0))]) hc dX8_count_125 2 rfl rfl (by decide) rfl ?_
      refine z_goto (tgt := 109) hc dX8_count_128 (by decide) ?_
      refine z_sub [2, 1, 0] rfl ?_
      exact ih _ _ _
set_option maxRecDepth 100000 in
set_option maxHeartbeats 4000000 in
theorem tX8_count_158 {p : Program} {l : Launch} {e : Env} {s : State} {m : MethodId} {args : Array Value} {below : List Frame} {meth : Method} {c : Code} {D : va_G} {ca : Nat → ClassId} {xa ad : Nat → Nat} {A : Nat → Prop} (hc : zCx p s m args meth c cX8_count 4 RX8 D ca xa A (zwM ad ca)) (hr : meth.sig.returnType = (some .int)) (N : Nat) (k135 : Int32 → Int32 → zSt → Option (Int32 × zSt)) (hk135 : ∀ (x2 : Int32) (x3 : Int32) (σ : zSt), zGO p l e rmX8_count s m args below meth c 0 0 (zwM ad ca) D A 4 (zQ below D A (zwM ad ca) args s zI) (k135 x2 x3 σ) σ 135 [(0, .ref (ad 0)), (2, .int x2), (3, .int x3)] []) (x3 : Int32) (s0 : Int32) (s1 : Int32) (σ : zSt) : zGO p l e rmX8_count s m args below meth c 0 0 (zwM ad ca) D A 4 (zQ below D A (zwM ad ca) args s zI) (fX8_count_158 N k135 x3 s0 s1 σ) σ 158 [(0, .ref (ad 0)), (3, .int x3)] [.int s0, .int s1] := by
  unfold fX8_count_158
  refine z_iadd hc dX8_count_158 ?_
  refine z_nm (fun v1 => ?_)
  refine z_istore_n (lv' := [(2, .int v1), (0, .ref (ad 0)), (3, .int x3)]) hc dX8_count_159 rfl (by decide) rfl ?_
  refine z_iinc (v := (x3 + (1 : Int32))) (lv' := [(3, .int (x3 + (1 : Int32))), (2, .int v1), (0, .ref (ad 0))]) hc dX8_count_160 2 rfl rfl (by decide) rfl ?_
  refine z_goto (tgt := 135) hc dX8_count_163 (by decide) ?_
  refine z_sub [2, 1, 0] rfl ?_
  exact hk135 _ _ _
set_option maxRecDepth 100000 in
set_option maxHeartbeats 4000000 in
theorem tX8_count_135 {p : Program} {l : Launch} {e : Env} {s : State} {m : MethodId} {args : Array Value} {below : List Frame} {meth : Method} {c : Code} {D : va_G} {ca : Nat → ClassId} {xa ad : Nat → Nat} {A : Nat → Prop} (hc : zCx p s m args meth c cX8_count 4 RX8 D ca xa A (zwM ad ca)) (hr : meth.sig.returnType = (some .int)) (N : Nat)   : ∀ (n : Nat) (x2 : Int32) (x3 : Int32) (σ : zSt), zGO p l e rmX8_count s m args below meth c 0 0 (zwM ad ca) D A 4 (zQ below D A (zwM ad ca) args s zI) (fX8_count_135 N n x2 x3 σ) σ 135 [(0, .ref (ad 0)), (2, .int x2), (3, .int x3)] [] := by
  intro n
  induction n with
  | zero =>
    intro x2 x3 σ
    exact z_none
  | succ n ih =>
    intro x2 x3 σ
    unfold fX8_count_135
    refine z_iload_n hc dX8_count_135 2 rfl ?_
    refine z_aload_n hc dX8_count_136 0 rfl ?_
    refine gfX8_185 hc dX8_count_137 ?_
    refine z_icmp_ge (tgt := 166) hc dX8_count_140 (by decide) ?_ ?_
    · refine z_iload_n hc dX8_count_166 1 rfl ?_
      exact z_iret hc hr dX8_count_167
    · refine z_iload_n hc dX8_count_143 1 rfl ?_
      refine z_aload_n hc dX8_count_144 0 rfl ?_
      refine z_iload_n hc dX8_count_145 2 rfl ?_
      refine z_runVi (b0 := ad 0) (As := [.int x3]) (rest := [.int x2]) hc dX8_count_146 (fun _ _ h => tX8_kindOf h) mpX8_kindOf miX8_kindOf kmX8_330 ⟨rfl, rfl, Nat.le_of_ble_eq_true rfl, Nat.le_of_ble_eq_true rfl⟩ ⟨Nat.le_refl _, Nat.le_refl _⟩ zcM_rc0 rfl (Nat.le_of_ble_eq_true rfl) (fun b1 σ2 => ?_)
      refine z_iconst (v := (5 : Int32)) hc dX8_count_149 (by decide) ?_
      refine z_icmp_ne (tgt := 157) hc dX8_count_150 (by decide) ?_ ?_
      · refine z_iconst (v := (1 : Int32)) hc dX8_count_153 (by decide) ?_
        refine z_goto (tgt := 158) hc dX8_count_154 (by decide) ?_
        refine z_sub [0, 2] rfl ?_
        exact tX8_count_158 hc hr N _ (ih) _ _ _ _
      · refine z_iconst (v := (0 : Int32)) hc dX8_count_157 (by decide) ?_
        refine z_sub [0, 2] rfl ?_
        exact tX8_count_158 hc hr N _ (ih) _ _ _ _
set_option maxRecDepth 100000 in
set_option maxHeartbeats 4000000 in
theorem tX8_count {l : Launch} {D : va_G} {ca : Nat → ClassId} {xa ad : Nat → Nat} {A : Nat → Prop} {N : Nat} {x1 : Int32} {σ : zSt} {a : Int32} {τ : zSt} (h : fX8_count N x1 σ = some (a, τ)) : zCt l yX8_count cX8_count 4 (some .int) rmX8_count D ca xa A (zwM ad ca) [.ref (ad 0), .int x1] σ (zI a) τ := by
  refine z_met (inj := zI) (lv := [(0, .ref (ad 0)), (1, .int x1)]) (by decide) (Nat.le_of_ble_eq_true rfl) rfl ?_ h
  intro p e s m args below meth c hc hr
  unfold fX8_count
  refine z_aload_n hc dX8_count_0 0 rfl ?_
  refine z_iconst (v := (0 : Int32)) hc dX8_count_1 (by decide) ?_
  refine pfX8_78 hc dX8_count_2 (fun σ1 => ?_)
  refine z_iconst (v := (0 : Int32)) hc dX8_count_5 (by decide) ?_
  refine z_istore_n (lv' := [(2, .int (0 : Int32)), (0, .ref (ad 0)), (1, .int x1)]) hc dX8_count_6 rfl (by decide) rfl ?_
  refine z_iload_n hc dX8_count_7 2 rfl ?_
  refine z_ite (fun h2 => ?_) (fun h2 => ?_)
  · refine z_swIn (tgt := 56) (off := 48) hc dX8_count_8 (by rw [h2]; decide) (by rw [h2]; decide) (by rw [h2]; decide) (by decide) ?_
    refine z_iconst (v := (0 : Int32)) hc dX8_count_56 (by decide) ?_
    refine z_istore_n (lv' := [(3, .int (0 : Int32)), (2, .int (0 : Int32)), (0, .ref (ad 0)), (1, .int x1)]) hc dX8_count_57 rfl (by decide) rfl ?_
    refine z_sub [2, 1, 0] rfl ?_
    exact tX8_count_58 hc hr N N _ _ _
  refine z_ite (fun h3 => ?_) (fun h3 => ?_)
  · refine z_swIn (tgt := 89) (off := 81) hc dX8_count_8 (by rw [h3]; decide) (by rw [h3]; decide) (by rw [h3]; decide) (by decide) ?_
    refine z_aload_n hc dX8_count_89 1 rfl ?_
    refine gfX8_185 hc dX8_count_90 ?_
    exact z_iret hc hr dX8_count_93
  refine z_ite (fun h8 => ?_) (fun h8 => ?_)
  · refine z_swIn (tgt := 94) (off := 86) hc dX8_count_8 (by rw [h8]; decide) (by rw [h8]; decide) (by rw [h8]; decide) (by decide) ?_
    refine z_aload_n hc dX8_count_94 1 rfl ?_
    refine z_runVi (b0 := ad 0) (As := []) (rest := []) hc dX8_count_95 (fun _ _ h => tX8_claims h) mpX8_claims miX8_claims kmX8_235 ⟨rfl, rfl, Nat.le_of_ble_eq_true rfl, Nat.le_of_ble_eq_true rfl⟩ ⟨Nat.le_refl _, Nat.le_refl _⟩ zcM_rc0 rfl (Nat.le_of_ble_eq_true rfl) (fun b4 σ5 => ?_)
    refine z_runSi (As := [.int b4]) (rest := []) hc dX8_count_98 (fun _ _ h => tX8_bits h) mpX8_bits miX8_bits kmX8_251 ⟨rfl, rfl, Nat.le_of_ble_eq_true rfl, Nat.le_of_ble_eq_true rfl⟩ ⟨Nat.le_refl _, Nat.le_refl _⟩ rfl (Nat.le_of_ble_eq_true rfl) (fun b6 σ7 => ?_)
    exact z_iret hc hr dX8_count_101
  refine z_ite (fun h9 => ?_) (fun h9 => ?_)
  · refine z_swIn (tgt := 102) (off := 94) hc dX8_count_8 (by rw [h9]; decide) (by rw [h9]; decide) (by rw [h9]; decide) (by decide) ?_
    refine z_aload_n hc dX8_count_102 1 rfl ?_
    refine gfX8_188 hc dX8_count_103 ?_
    exact z_iret hc hr dX8_count_106
  refine z_ite (fun h10 => ?_) (fun h10 => ?_)
  · refine z_swIn (tgt := 107) (off := 99) hc dX8_count_8 (by rw [h10]; decide) (by rw [h10]; decide) (by rw [h10]; decide) (by decide) ?_
    refine z_iconst (v := (0 : Int32)) hc dX8_count_107 (by decide) ?_
    refine z_istore_n (lv' := [(3, .int (0 : Int32)), (2, .int (0 : Int32)), (0, .ref (ad 0)), (1, .int x1)]) hc dX8_count_108 rfl (by decide) rfl ?_
    refine z_sub [2, 1, 0] rfl ?_
    exact tX8_count_109 hc hr N N _ _ _
  refine z_ite (fun h11 => ?_) (fun h11 => ?_)
  · refine z_swIn (tgt := 133) (off := 125) hc dX8_count_8 (by rw [h11]; decide) (by rw [h11]; decide) (by rw [h11]; decide) (by decide) ?_
    refine z_iconst (v := (0 : Int32)) hc dX8_count_133 (by decide) ?_
    refine z_istore_n (lv' := [(3, .int (0 : Int32)), (2, .int (0 : Int32)), (0, .ref (ad 0)), (1, .int x1)]) hc dX8_count_134 rfl (by decide) rfl ?_
    refine z_sub [2, 1, 0] rfl ?_
    exact tX8_count_135 hc hr N N _ _ _
  refine z_ite (fun h12 => ?_) (fun h12 => ?_)
  · refine z_swIn (tgt := 168) (off := 160) hc dX8_count_8 (by rw [h12]; decide) (by rw [h12]; decide) (by rw [h12]; decide) (by decide) ?_
    refine z_aload_n hc dX8_count_168 1 rfl ?_
    refine gfX8_270 hc dX8_count_169 ?_
    exact z_iret hc hr dX8_count_172
  refine z_ite (fun h13 => ?_) (fun h13 => ?_)
  · refine z_swIn (tgt := 173) (off := 165) hc dX8_count_8 (by rw [h13]; decide) (by rw [h13]; decide) (by rw [h13]; decide) (by decide) ?_
    refine z_aload_n hc dX8_count_173 1 rfl ?_
    refine gfX8_105 hc dX8_count_174 ?_
    exact z_iret hc hr dX8_count_177
  refine z_swOut (tgt := 178) hc dX8_count_8 (zsw0_7 h2 h3 h8 h9 h10 h11 h12 h13) (by decide) ?_
  refine z_ldc hc dX8_count_178 kcX8_98 ?_
  exact z_iret hc hr dX8_count_180
set_option maxRecDepth 100000 in
set_option maxHeartbeats 4000000 in
theorem tX7_status {l : Launch} {D : va_G} {ca : Nat → ClassId} {xa ad : Nat → Nat} {A : Nat → Prop} {N : Nat}  {σ : zSt} {a : Int32} {τ : zSt} (h : fX7_status N σ = some (a, τ)) : zCt l yX7_status cX7_status 1 (some .int) rmX7_status D ca xa A (zwC ad ca) [.ref (ad 0)] σ (zI a) τ := by
  refine z_met (inj := zI) (lv := [(0, .ref (ad 0))]) (by decide) (Nat.le_of_ble_eq_true rfl) rfl ?_ h
  intro p e s m args below meth c hc hr
  unfold fX7_status
  refine z_aload_n hc dX7_status_0 0 rfl ?_
  refine gfX7_55 hc dX7_status_1 ?_
  exact z_iret hc hr dX7_status_4
set_option maxRecDepth 100000 in
set_option maxHeartbeats 4000000 in
theorem tX8_status {l : Launch} {D : va_G} {ca : Nat → ClassId} {xa ad : Nat → Nat} {A : Nat → Prop} {N : Nat}  {σ : zSt} {a : Int32} {τ : zSt} (h : fX8_status N σ = some (a, τ)) : zCt l yX8_status cX8_status 1 (some .int) rmX8_status D ca xa A (zwM ad ca) [.ref (ad 0)] σ (zI a) τ := by
  refine z_met (inj := zI) (lv := [(0, .ref (ad 0))]) (by decide) (Nat.le_of_ble_eq_true rfl) rfl ?_ h
  intro p e s m args below meth c hc hr
  unfold fX8_status
  refine z_aload_n hc dX8_status_0 0 rfl ?_
  refine z_iconst (v := (0 : Int32)) hc dX8_status_1 (by decide) ?_
  refine pfX8_78 hc dX8_status_2 (fun σ1 => ?_)
  refine z_aload_n hc dX8_status_5 0 rfl ?_
  refine gfX8_82 hc dX8_status_6 ?_
  exact z_iret hc hr dX8_status_9
