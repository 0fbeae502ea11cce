set_option maxRecDepth 100000 in
set_option maxHeartbeats 4000000 in
theorem tX7_fall {l : Launch} {D : va_G} {ca : Nat → ClassId} {xa ad : Nat → Nat} {A : Nat → Prop} {N : Nat} {x1 : Int32} {x2 : Int32} {σ : zSt} {a : Int32} {τ : zSt} (h : fX7_fall N x1 x2 σ = some (a, τ)) : zCt l yX7_fall cX7_fall 4 (some .int) rmX7_fall D ca xa A (zwC ad ca) [.ref (ad 0), .int x1, .int x2] σ (zI a) τ := by
  refine z_met (inj := zI) (lv := [(0, .ref (ad 0)), (1, .int x1), (2, .int x2)]) (by decide) (Nat.le_of_ble_eq_true rfl) rfl ?_ h
  intro p e s m args below meth c hc hr
  unfold fX7_fall
  refine z_aload_n hc dX7_fall_0 0 rfl ?_
  refine gfX7_26 hc dX7_fall_1 ?_
  refine z_iload_n hc dX7_fall_4 1 rfl ?_
  refine z_runVNi (b0 := ad 7) (As := [.int x1]) (rest := []) hc dX7_fall_5 (fun _ _ h => tX2_isGround h) mpX2_isGround miX2_isGround kmX7_192 ⟨rfl, rfl, Nat.le_of_ble_eq_true rfl, Nat.le_of_ble_eq_true rfl⟩ ⟨Nat.le_refl _, Nat.le_refl _⟩ zcC_rc7 rfl (Nat.le_of_ble_eq_true rfl) (fun b1 σ2 => ?_)
  refine z_if_eq (tgt := 20) hc dX7_fall_8 (by decide) ?_ ?_
  · refine z_ldc hc dX7_fall_20 kcX7_66 ?_
    exact z_iret hc hr dX7_fall_22
  · refine z_iload_n hc dX7_fall_11 2 rfl ?_
    refine z_iconst (v := (0 : Int32)) hc dX7_fall_12 (by decide) ?_
    refine z_iconst (v := (1 : Int32)) hc dX7_fall_13 (by decide) ?_
    refine z_runSi (As := [.int x2, .int (0 : Int32), .int (1 : Int32)]) (rest := []) hc dX7_fall_14 (fun _ _ h => tX7_isWithin h) mpX7_isWithin miX7_isWithin kmX7_62 ⟨rfl, rfl, Nat.le_of_ble_eq_true rfl, Nat.le_of_ble_eq_true rfl⟩ ⟨Nat.le_refl _, Nat.le_refl _⟩ rfl (Nat.le_of_ble_eq_true rfl) (fun b3 σ4 => ?_)
    refine z_if_ne (tgt := 23) hc dX7_fall_17 (by decide) ?_ ?_
    · refine z_ldc hc dX7_fall_20 kcX7_66 ?_
      exact z_iret hc hr dX7_fall_22
    · refine z_aload_n hc dX7_fall_23 0 rfl ?_
      refine gfX7_26 hc dX7_fall_24 ?_
      refine gfX7_145 hc dX7_fall_27 ?_
      refine z_iload_n hc dX7_fall_30 1 rfl ?_
      refine z_iaload hc 12 (by decide) rfl dX7_fall_31 (fun v5 => ?_)
      refine z_istore_n (lv' := [(3, .int v5), (0, .ref (ad 0)), (1, .int x1), (2, .int x2)]) hc dX7_fall_32 rfl (by decide) rfl ?_
      refine z_aload_n hc dX7_fall_33 1 rfl ?_
      refine gfX7_26 hc dX7_fall_34 ?_
      refine gfX7_145 hc dX7_fall_37 ?_
      refine z_iload_n hc dX7_fall_40 2 rfl ?_
      refine z_iload_n hc dX7_fall_41 3 rfl ?_
      refine z_iastore hc 12 (by decide) (fun _ _ => rfl) dX7_fall_42 (fun σ6 => ?_)
      refine z_iload_n hc dX7_fall_43 0 rfl ?_
      exact z_iret hc hr dX7_fall_44
set_option maxRecDepth 100000 in
set_option maxHeartbeats 4000000 in
theorem tX8_fall_56 {p : Program} {l : Launch} {e : Env} {s : State} {m : MethodId} {args : Array Value} {below : List Frame} {meth : Method} {c : Code} {D : va_G} {ca : Nat → ClassId} {xa ad : Nat → Nat} {A : Nat → Prop} (hc : zCx p s m args meth c cX8_fall 4 RX8 D ca xa A (zwM ad ca)) (hr : meth.sig.returnType = (some .int)) (N : Nat)   (x3 : Int32) (s0 : Int32) (s1 : Int32) (σ : zSt) : zGO p l e rmX8_fall s m args below meth c 0 0 (zwM ad ca) D A 4 (zQ below D A (zwM ad ca) args s zI) (fX8_fall_56 N x3 s0 s1 σ) σ 56 [(3, .int x3)] [.int s0, .int s1, .ref (ad 8)] := by
  unfold fX8_fall_56
  refine z_zastore hc 8 (by decide) (fun _ _ => rfl) dX8_fall_56 (fun σ1 => ?_)
  refine z_iload_n hc dX8_fall_57 0 rfl ?_
  exact z_iret hc hr dX8_fall_58
set_option maxRecDepth 100000 in
set_option maxHeartbeats 4000000 in
theorem tX8_fall_40 {p : Program} {l : Launch} {e : Env} {s : State} {m : MethodId} {args : Array Value} {below : List Frame} {meth : Method} {c : Code} {D : va_G} {ca : Nat → ClassId} {xa ad : Nat → Nat} {A : Nat → Prop} (hc : zCx p s m args meth c cX8_fall 4 RX8 D ca xa A (zwM ad ca)) (hr : meth.sig.returnType = (some .int)) (N : Nat)   (x1 : Int32) (x2 : Int32) (s0 : Int32) (σ : zSt) : zGO p l e rmX8_fall s m args below meth c 0 0 (zwM ad ca) D A 4 (zQ below D A (zwM ad ca) args s zI) (fX8_fall_40 N x1 x2 s0 σ) σ 40 [(0, .ref (ad 0)), (1, .int x1), (2, .int x2)] [.int s0] := by
  unfold fX8_fall_40
  refine z_istore_n (lv' := [(3, .int s0), (0, .ref (ad 0)), (1, .int x1), (2, .int x2)]) hc dX8_fall_40 rfl (by decide) rfl ?_
  refine z_aload_n hc dX8_fall_41 1 rfl ?_
  refine gfX8_31 hc dX8_fall_42 ?_
  refine z_iload_n hc dX8_fall_45 2 rfl ?_
  refine z_iload_n hc dX8_fall_46 3 rfl ?_
  refine z_iconst (v := (1 : Int32)) hc dX8_fall_47 (by decide) ?_
  refine z_icmp_ne (tgt := 55) hc dX8_fall_48 (by decide) ?_ ?_
  · refine z_iconst (v := (1 : Int32)) hc dX8_fall_51 (by decide) ?_
    refine z_goto (tgt := 56) hc dX8_fall_52 (by decide) ?_
    refine z_sub [0] rfl ?_
    exact tX8_fall_56 hc hr N _ _ _ _
  · refine z_iconst (v := (0 : Int32)) hc dX8_fall_55 (by decide) ?_
    refine z_sub [0] rfl ?_
    exact tX8_fall_56 hc hr N _ _ _ _
set_option maxRecDepth 100000 in
set_option maxHeartbeats 4000000 in
theorem tX8_fall {l : Launch} {D : va_G} {ca : Nat → ClassId} {xa ad : Nat → Nat} {A : Nat → Prop} {N : Nat} {x1 : Int32} {x2 : Int32} {σ : zSt} {a : Int32} {τ : zSt} (h : fX8_fall N x1 x2 σ = some (a, τ)) : zCt l yX8_fall cX8_fall 4 (some .int) rmX8_fall D ca xa A (zwM ad ca) [.ref (ad 0), .int x1, .int x2] σ (zI a) τ := by
  refine z_met (inj := zI) (lv := [(0, .ref (ad 0)), (1, .int x1), (2, .int x2)]) (by decide) (Nat.le_of_ble_eq_true rfl) rfl ?_ h
  intro p e s m args below meth c hc hr
  unfold fX8_fall
  refine z_aload_n hc dX8_fall_0 0 rfl ?_
  refine z_iconst (v := (0 : Int32)) hc dX8_fall_1 (by decide) ?_
  refine pfX8_78 hc dX8_fall_2 (fun σ1 => ?_)
  refine z_aload_n hc dX8_fall_5 0 rfl ?_
  refine z_iload_n hc dX8_fall_6 1 rfl ?_
  refine z_runVi (b0 := ad 0) (As := [.int x1]) (rest := []) hc dX8_fall_7 (fun _ _ h => tX8_isLeaf h) mpX8_isLeaf miX8_isLeaf kmX8_263 ⟨rfl, rfl, Nat.le_of_ble_eq_true rfl, Nat.le_of_ble_eq_true rfl⟩ ⟨Nat.le_refl _, Nat.le_refl _⟩ zcM_rc0 rfl (Nat.le_of_ble_eq_true rfl) (fun b2 σ3 => ?_)
  refine z_if_eq (tgt := 23) hc dX8_fall_10 (by decide) ?_ ?_
  · refine z_ldc hc dX8_fall_23 kcX8_98 ?_
    exact z_iret hc hr dX8_fall_25
  · refine z_iload_n hc dX8_fall_13 2 rfl ?_
    refine z_i2l hc dX8_fall_14 ?_
    refine z_lconst (v := (0 : Int64)) hc dX8_fall_15 (by decide) ?_
    refine z_lconst (v := (1 : Int64)) hc dX8_fall_16 (by decide) ?_
    refine z_runSi (As := [.long x2.toInt64, .long (0 : Int64), .long (1 : Int64)]) (rest := []) hc dX8_fall_17 (fun _ _ h => tX8_in h) mpX8_in miX8_in kmX8_88 ⟨rfl, rfl, Nat.le_of_ble_eq_true rfl, Nat.le_of_ble_eq_true rfl⟩ ⟨Nat.le_refl _, Nat.le_refl _⟩ rfl (Nat.le_of_ble_eq_true rfl) (fun b4 σ5 => ?_)
    refine z_if_ne (tgt := 26) hc dX8_fall_20 (by decide) ?_ ?_
    · refine z_ldc hc dX8_fall_23 kcX8_98 ?_
      exact z_iret hc hr dX8_fall_25
    · refine z_aload_n hc dX8_fall_26 0 rfl ?_
      refine gfX8_31 hc dX8_fall_27 ?_
      refine z_iload_n hc dX8_fall_30 1 rfl ?_
      refine z_zaload hc 8 (by decide) rfl dX8_fall_31 (fun v6 => ?_)
      refine z_if_eq (tgt := 39) hc dX8_fall_32 (by decide) ?_ ?_
      · refine z_iconst (v := (0 : Int32)) hc dX8_fall_39 (by decide) ?_
        exact tX8_fall_40 hc hr N _ _ _ _
      · refine z_iconst (v := (1 : Int32)) hc dX8_fall_35 (by decide) ?_
        refine z_goto (tgt := 40) hc dX8_fall_36 (by decide) ?_
        exact tX8_fall_40 hc hr N _ _ _ _
set_option maxRecDepth 100000 in
set_option maxHeartbeats 4000000 in
theorem tX7_day {l : Launch} {D : va_G} {ca : Nat → ClassId} {xa ad : Nat → Nat} {A : Nat → Prop} {N : Nat} {x1 : Int32} {σ : zSt} {a : Int32} {τ : zSt} (h : fX7_day N x1 σ = some (a, τ)) : zCt l yX7_day cX7_day 3 (some .int) rmX7_day D ca xa A (zwC ad ca) [.ref (ad 0), .int x1] σ (zI a) τ := by
  refine z_met (inj := zI) (lv := [(0, .ref (ad 0)), (1, .int x1)]) (by decide) (Nat.le_of_ble_eq_true rfl) rfl ?_ h
  intro p e s m args below meth c hc hr
  unfold fX7_day
  refine z_iload_n hc dX7_day_0 1 rfl ?_
  refine z_iconst (v := (0 : Int32)) hc dX7_day_1 (by decide) ?_
  refine z_sipush (v := (9999 : Int32)) hc dX7_day_2 (by decide) ?_
  refine z_runSi (As := [.int x1, .int (0 : Int32), .int (9999 : Int32)]) (rest := []) hc dX7_day_5 (fun _ _ h => tX7_isWithin h) mpX7_isWithin miX7_isWithin kmX7_62 ⟨rfl, rfl, Nat.le_of_ble_eq_true rfl, Nat.le_of_ble_eq_true rfl⟩ ⟨Nat.le_refl _, Nat.le_refl _⟩ rfl (Nat.le_of_ble_eq_true rfl) (fun b1 σ2 => ?_)
  refine z_if_ne (tgt := 14) hc dX7_day_8 (by decide) ?_ ?_
  · refine z_ldc hc dX7_day_11 kcX7_66 ?_
    exact z_iret hc hr dX7_day_13
  · refine z_aload_n hc dX7_day_14 0 rfl ?_
    refine gfX7_26 hc dX7_day_15 ?_
    refine gfX7_195 hc dX7_day_18 ?_
    refine z_nm (fun v3 => ?_)
    refine z_istore_n (lv' := [(2, .int v3), (0, .ref (ad 0)), (1, .int x1)]) hc dX7_day_21 rfl (by decide) rfl ?_
    refine z_aload_n hc dX7_day_22 1 rfl ?_
    refine gfX7_26 hc dX7_day_23 ?_
    refine z_iload_n hc dX7_day_26 2 rfl ?_
    refine pfX7_195 hc dX7_day_27 (fun σ4 => ?_)
    refine z_iload_n hc dX7_day_30 0 rfl ?_
    exact z_iret hc hr dX7_day_31
set_option maxRecDepth 100000 in
set_option maxHeartbeats 4000000 in
theorem tX8_day {l : Launch} {D : va_G} {ca : Nat → ClassId} {xa ad : Nat → Nat} {A : Nat → Prop} {N : Nat} {x1 : Int32} {σ : zSt} {a : Int32} {τ : zSt} (h : fX8_day N x1 σ = some (a, τ)) : zCt l yX8_day cX8_day 3 (some .int) rmX8_day D ca xa A (zwM ad ca) [.ref (ad 0), .int x1] σ (zI a) τ := by
  refine z_met (inj := zI) (lv := [(0, .ref (ad 0)), (1, .int x1)]) (by decide) (Nat.le_of_ble_eq_true rfl) rfl ?_ h
  intro p e s m args below meth c hc hr
  unfold fX8_day
  refine z_aload_n hc dX8_day_0 0 rfl ?_
  refine z_iconst (v := (0 : Int32)) hc dX8_day_1 (by decide) ?_
  refine pfX8_78 hc dX8_day_2 (fun σ1 => ?_)
  refine z_iload_n hc dX8_day_5 1 rfl ?_
  refine z_i2l hc dX8_day_6 ?_
  refine z_lconst (v := (0 : Int64)) hc dX8_day_7 (by decide) ?_
  refine z_ldc2 hc dX8_day_8 kcX8_266 ?_
  refine z_runSi (As := [.long x1.toInt64, .long (0 : Int64), .long (9999 : Int64)]) (rest := []) hc dX8_day_11 (fun _ _ h => tX8_in h) mpX8_in miX8_in kmX8_88 ⟨rfl, rfl, Nat.le_of_ble_eq_true rfl, Nat.le_of_ble_eq_true rfl⟩ ⟨Nat.le_refl _, Nat.le_refl _⟩ rfl (Nat.le_of_ble_eq_true rfl) (fun b2 σ3 => ?_)
  refine z_if_ne (tgt := 20) hc dX8_day_14 (by decide) ?_ ?_
  · refine z_ldc hc dX8_day_17 kcX8_98 ?_
    exact z_iret hc hr dX8_day_19
  · refine z_aload_n hc dX8_day_20 0 rfl ?_
    refine gfX8_207 hc dX8_day_21 ?_
    refine z_nm (fun v4 => ?_)
    refine z_istore_n (lv' := [(2, .int v4), (0, .ref (ad 0)), (1, .int x1)]) hc dX8_day_24 rfl (by decide) rfl ?_
    refine z_aload_n hc dX8_day_25 1 rfl ?_
    refine z_iload_n hc dX8_day_26 2 rfl ?_
    refine pfX8_207 hc dX8_day_27 (fun σ5 => ?_)
    refine z_iload_n hc dX8_day_30 0 rfl ?_
    exact z_iret hc hr dX8_day_31
set_option maxRecDepth 100000 in
set_option maxHeartbeats 4000000 in
theorem tX2_claims_4 {p : Program} {l : Launch} {e : Env} {s : State} {m : MethodId} {args : Array Value} {below : List Frame} {meth : Method} {c : Code} {D : va_G} {ca : Nat → ClassId} {xa ad : Nat → Nat} {A : Nat → Prop} (hc : zCx p s m args meth c cX2_claims 3 RX2 D ca xa A (zwC ad ca)) (hr : meth.sig.returnType = (some .int)) (N : Nat)   : ∀ (n : Nat) (x1 : Int32) (x2 : Int32) (σ : zSt), zGO p l e rmX2_claims s m args below meth c 0 0 (zwC ad ca) D A 3 (zQ below D A (zwC ad ca) args s zI) (fX2_claims_4 N n x1 x2 σ) σ 4 [(0, .ref (ad 7)), (1, .int x1), (2, .int x2)] [] := by
  intro n
  induction n with
  | zero =>
    intro x1 x2 σ
    exact z_none
  | succ n ih =>
    intro x1 x2 σ
    unfold fX2_claims_4
    refine z_iload_n hc dX2_claims_4 2 rfl ?_
    refine z_aload_n hc dX2_claims_5 0 rfl ?_
    refine gfX2_51 hc dX2_claims_6 ?_
    refine z_icmp_ge (tgt := 34) hc dX2_claims_9 (by decide) ?_ ?_
    · refine z_iload_n hc dX2_claims_34 1 rfl ?_
      exact z_iret hc hr dX2_claims_35
    · refine z_aload_n hc dX2_claims_12 0 rfl ?_
      refine gfX2_9 hc dX2_claims_13 ?_
      refine z_iload_n hc dX2_claims_16 2 rfl ?_
      refine z_iaload hc 8 (by decide) rfl dX2_claims_17 (fun v1 => ?_)
      refine z_iconst (v := (2 : Int32)) hc dX2_claims_18 (by decide) ?_
      refine z_icmp_ne (tgt := 28) hc dX2_claims_19 (by decide) ?_ ?_
      · refine z_iload_n hc dX2_claims_22 1 rfl ?_
        refine z_iconst (v := (1 : Int32)) hc dX2_claims_23 (by decide) ?_
        refine z_iload_n hc dX2_claims_24 2 rfl ?_
        refine z_ishl hc dX2_claims_25 ?_
        refine z_ior hc dX2_claims_26 ?_
        refine z_nm (fun v2 => ?_)
        refine z_istore_n (lv' := [(1, .int v2), (0, .ref (ad 7)), (2, .int x2)]) hc dX2_claims_27 rfl (by decide) rfl ?_
        refine z_iinc (v := (x2 + (1 : Int32))) (lv' := [(2, .int (x2 + (1 : Int32))), (1, .int v2), (0, .ref (ad 7))]) hc dX2_claims_28 2 rfl rfl (by decide) rfl ?_
        refine z_goto (tgt := 4) hc dX2_claims_31 (by decide) ?_
        refine z_sub [2, 1, 0] rfl ?_
        exact ih _ _ _
      · refine z_iinc (v := (x2 + (1 : Int32))) (lv' := [(2, .int (x2 + (1 : Int32))), (0, .ref (ad 7)), (1, .int x1)]) hc dX2_claims_28 2 rfl rfl (by decide) rfl ?_
        refine z_goto (tgt := 4) hc dX2_claims_31 (by decide) ?_
        refine z_sub [1, 2, 0] rfl ?_
        exact ih _ _ _
set_option maxRecDepth 100000 in
set_option maxHeartbeats 4000000 in
theorem tX2_claims {l : Launch} {D : va_G} {ca : Nat → ClassId} {xa ad : Nat → Nat} {A : Nat → Prop} {N : Nat}  {σ : zSt} {a : Int32} {τ : zSt} (h : fX2_claims N σ = some (a, τ)) : zCt l yX2_claims cX2_claims 3 (some .int) rmX2_claims D ca xa A (zwC ad ca) [.ref (ad 7)] σ (zI a) τ := by
  refine z_met (inj := zI) (lv := [(0, .ref (ad 7))]) (by decide) (Nat.le_of_ble_eq_true rfl) rfl ?_ h
  intro p e s m args below meth c hc hr
  unfold fX2_claims
  refine z_iconst (v := (0 : Int32)) hc dX2_claims_0 (by decide) ?_
  refine z_istore_n (lv' := [(1, .int (0 : Int32)), (0, .ref (ad 7))]) hc dX2_claims_1 rfl (by decide) rfl ?_
  refine z_iconst (v := (0 : Int32)) hc dX2_claims_2 (by decide) ?_
  refine z_istore_n (lv' := [(2, .int (0 : Int32)), (1, .int (0 : Int32)), (0, .ref (ad 7))]) hc dX2_claims_3 rfl (by decide) rfl ?_
  refine z_sub [2, 1, 0] rfl ?_
  exact tX2_claims_4 hc hr N N _ _ _
set_option maxRecDepth 100000 in
set_option maxHeartbeats 4000000 in
theorem tX2_roundsNow_9 {p : Program} {l : Launch} {e : Env} {s : State} {m : MethodId} {args : Array Value} {below : List Frame} {meth : Method} {c : Code} {D : va_G} {ca : Nat → ClassId} {xa ad : Nat → Nat} {A : Nat → Prop} (hc : zCx p s m args meth c cX2_roundsNow 5 RX2 D ca xa A (zwC ad ca)) (hr : meth.sig.returnType = (some .int)) (N : Nat)   : ∀ (n : Nat) (x1 : Int32) (x2 : Int32) (x3 : Int32) (σ : zSt), zGO p l e rmX2_roundsNow s m args below meth c 0 0 (zwC ad ca) D A 5 (zQ below D A (zwC ad ca) args s zI) (fX2_roundsNow_9 N n x1 x2 x3 σ) σ 9 [(0, .ref (ad 7)), (1, .int x1), (2, .int x2), (3, .int x3)] [] := by
  intro n
  induction n with
  | zero =>
    intro x1 x2 x3 σ
    exact z_none
  | succ n ih =>
    intro x1 x2 x3 σ
    unfold fX2_roundsNow_9
    refine z_iload_n hc dX2_roundsNow_9 3 rfl ?_
    refine z_bipush (v := (20 : Int32)) hc dX2_roundsNow_10 (by decide) ?_
    refine z_icmp_ge (tgt := 44) hc dX2_roundsNow_12 (by decide) ?_ ?_
    · refine z_iload_n hc dX2_roundsNow_44 1 rfl ?_
      exact z_iret hc hr dX2_roundsNow_45
    · refine z_aload_n hc dX2_roundsNow_15 0 rfl ?_
      refine z_iload_n hc dX2_roundsNow_16 2 rfl ?_
      refine z_iconst (v := (0 : Int32)) hc dX2_roundsNow_17 (by decide) ?_
      refine z_runVi (b0 := ad 7) (As := [.int x2, .int (0 : Int32)]) (rest := []) hc dX2_roundsNow_18 (fun _ _ h => tX2_nextRound h) mpX2_nextRound miX2_nextRound kmX2_97 ⟨rfl, rfl, Nat.le_of_ble_eq_true rfl, Nat.le_of_ble_eq_true rfl⟩ ⟨Nat.le_refl _, Nat.le_refl _⟩ zcC_rc7 rfl (Nat.le_of_ble_eq_true rfl) (fun b1 σ2 => ?_)
      refine z_istore (lv' := [(4, .int b1), (0, .ref (ad 7)), (1, .int x1), (2, .int x2), (3, .int x3)]) hc dX2_roundsNow_21 (by decide) rfl ?_
      refine z_iload hc dX2_roundsNow_23 0 rfl ?_
      refine z_iload_n hc dX2_roundsNow_25 3 rfl ?_
      refine z_icmp_ne (tgt := 32) hc dX2_roundsNow_26 (by decide) ?_ ?_
      · refine z_goto (tgt := 44) hc dX2_roundsNow_29 (by decide) ?_
        refine z_iload_n hc dX2_roundsNow_44 2 rfl ?_
        exact z_iret hc hr dX2_roundsNow_45
      · refine z_iload hc dX2_roundsNow_32 0 rfl ?_
        refine z_istore_n (lv' := [(2, .int b1), (4, .int b1), (0, .ref (ad 7)), (1, .int x1), (3, .int x3)]) hc dX2_roundsNow_34 rfl (by decide) rfl ?_
        refine z_iinc (v := (x1 + (1 : Int32))) (lv' := [(1, .int (x1 + (1 : Int32))), (2, .int b1), (4, .int b1), (0, .ref (ad 7)), (3, .int x3)]) hc dX2_roundsNow_35 3 rfl rfl (by decide) rfl ?_
        refine z_iinc (v := (x3 + (1 : Int32))) (lv' := [(3, .int (x3 + (1 : Int32))), (1, .int (x1 + (1 : Int32))), (2, .int b1), (4, .int b1), (0, .ref (ad 7))]) hc dX2_roundsNow_38 4 rfl rfl (by decide) rfl ?_
        refine z_goto (tgt := 9) hc dX2_roundsNow_41 (by decide) ?_
        refine z_sub [4, 1, 2, 0] rfl ?_
        exact ih _ _ _ _
set_option maxRecDepth 100000 in
set_option maxHeartbeats 4000000 in
theorem tX2_roundsNow {l : Launch} {D : va_G} {ca : Nat → ClassId} {xa ad : Nat → Nat} {A : Nat → Prop} {N : Nat}  {σ : zSt} {a : Int32} {τ : zSt} (h : fX2_roundsNow N σ = some (a, τ)) : zCt l yX2_roundsNow cX2_roundsNow 5 (some .int) rmX2_roundsNow D ca xa A (zwC ad ca) [.ref (ad 7)] σ (zI a) τ := by
  refine z_met (inj := zI) (lv := [(0, .ref (ad 7))]) (by decide) (Nat.le_of_ble_eq_true rfl) rfl ?_ h
  intro p e s m args below meth c hc hr
  unfold fX2_roundsNow
  refine z_iconst (v := (0 : Int32)) hc dX2_roundsNow_0 (by decide) ?_
  refine z_istore_n (lv' := [(1, .int (0 : Int32)), (0, .ref (ad 7))]) hc dX2_roundsNow_1 rfl (by decide) rfl ?_
  refine z_aload_n hc dX2_roundsNow_2 1 rfl ?_
  refine z_runVi (b0 := ad 7) (As := []) (rest := []) hc dX2_roundsNow_3 (fun _ _ h => tX2_standing h) mpX2_standing miX2_standing kmX2_100 ⟨rfl, rfl, Nat.le_of_ble_eq_true rfl, Nat.le_of_ble_eq_true rfl⟩ ⟨Nat.le_refl _, Nat.le_refl _⟩ zcC_rc7 rfl (Nat.le_of_ble_eq_true rfl) (fun b1 σ2 => ?_)
  refine z_istore_n (lv' := [(2, .int b1), (1, .int (0 : Int32)), (0, .ref (ad 7))]) hc dX2_roundsNow_6 rfl (by decide) rfl ?_
  refine z_iconst (v := (0 : Int32)) hc dX2_roundsNow_7 (by decide) ?_
  refine z_istore_n (lv' := [(3, .int (0 : Int32)), (2, .int b1), (1, .int (0 : Int32)), (0, .ref (ad 7))]) hc dX2_roundsNow_8 rfl (by decide) rfl ?_
  refine z_sub [3, 2, 1, 0] rfl ?_
  exact tX2_roundsNow_9 hc hr N N _ _ _ _
set_option maxRecDepth 100000 in
set_option maxHeartbeats 4000000 in
theorem tX2_circles_71 {p : Program} {l : Launch} {e : Env} {s : State} {m : MethodId} {args : Array Value} {below : List Frame} {meth : Method} {c : Code} {D : va_G} {ca : Nat → ClassId} {xa ad : Nat → Nat} {A : Nat → Prop} (hc : zCx p s m args meth c cX2_circles 3 RX2 D ca xa A (zwC ad ca)) (hr : meth.sig.returnType = (some .int)) (N : Nat) (k61 : Int32 → zSt → Option (Int32 × zSt)) (hk61 : ∀ (x1 : Int32) (σ : zSt), zGO p l e rmX2_circles s m args below meth c 0 0 (zwC ad ca) D A 3 (zQ below D A (zwC ad ca) args s zI) (k61 x1 σ) σ 61 [(0, .ref (ad 7)), (1, .int x1)] []) : ∀ (n : Nat) (x1 : Int32) (x2 : Int32) (σ : zSt), zGO p l e rmX2_circles s m args below meth c 0 0 (zwC ad ca) D A 3 (zQ below D A (zwC ad ca) args s zI) (fX2_circles_71 N k61 n x1 x2 σ) σ 71 [(0, .ref (ad 7)), (1, .int x1), (2, .int x2)] [] := by
  intro n
  induction n with
  | zero =>
    intro x1 x2 σ
    exact z_none
  | succ n ih =>
    intro x1 x2 σ
    unfold fX2_circles_71
    refine z_iload_n hc dX2_circles_71 2 rfl ?_
    refine z_aload_n hc dX2_circles_72 0 rfl ?_
    refine gfX2_51 hc dX2_circles_73 ?_
    refine z_icmp_ge (tgt := 114) hc dX2_circles_76 (by decide) ?_ ?_
    · refine z_iinc (v := (x1 + (1 : Int32))) (lv' := [(1, .int (x1 + (1 : Int32))), (0, .ref (ad 7)), (2, .int x2)]) hc dX2_circles_114 1 rfl rfl (by decide) rfl ?_
      refine z_goto (tgt := 61) hc dX2_circles_117 (by decide) ?_
      refine z_sub [1, 0] rfl ?_
      exact hk61 _ _
    · refine z_aload_n hc dX2_circles_79 0 rfl ?_
      refine gfX2_48 hc dX2_circles_80 ?_
      refine z_iload_n hc dX2_circles_83 2 rfl ?_
      refine z_iaload hc 20 (by decide) rfl dX2_circles_84 (fun v1 => ?_)
      refine z_iload_n hc dX2_circles_85 1 rfl ?_
      refine z_runSNi (As := [.int v1, .int x1]) (rest := []) hc dX2_circles_86 (fun _ _ h => tX7_bitAt h) mpX7_bitAt miX7_bitAt kmX2_62 ⟨rfl, rfl, Nat.le_of_ble_eq_true rfl, Nat.le_of_ble_eq_true rfl⟩ ⟨Nat.le_refl _, Nat.le_refl _⟩ rfl (Nat.le_of_ble_eq_true rfl) (fun b2 σ3 => ?_)
      refine z_iconst (v := (1 : Int32)) hc dX2_circles_89 (by decide) ?_
      refine z_icmp_ne (tgt := 108) hc dX2_circles_90 (by decide) ?_ ?_
      · refine z_aload_n hc dX2_circles_93 0 rfl ?_
        refine gfX2_48 hc dX2_circles_94 ?_
        refine z_iload_n hc dX2_circles_97 2 rfl ?_
        refine z_dup2_11 hc dX2_circles_98 rfl rfl ?_
        refine z_iaload hc 20 (by decide) rfl dX2_circles_99 (fun v4 => ?_)
        refine z_aload_n hc dX2_circles_100 0 rfl ?_
        refine gfX2_48 hc dX2_circles_101 ?_
        refine z_iload_n hc dX2_circles_104 1 rfl ?_
        refine z_iaload hc 20 (by decide) rfl dX2_circles_105 (fun v5 => ?_)
        refine z_ior hc dX2_circles_106 ?_
        refine z_iastore hc 20 (by decide) (fun _ _ => rfl) dX2_circles_107 (fun σ6 => ?_)
        refine z_iinc (v := (x2 + (1 : Int32))) (lv' := [(2, .int (x2 + (1 : Int32))), (0, .ref (ad 7)), (1, .int x1)]) hc dX2_circles_108 2 rfl rfl (by decide) rfl ?_
        refine z_goto (tgt := 71) hc dX2_circles_111 (by decide) ?_
        refine z_sub [1, 2, 0] rfl ?_
        exact ih _ _ _
      · refine z_iinc (v := (x2 + (1 : Int32))) (lv' := [(2, .int (x2 + (1 : Int32))), (0, .ref (ad 7)), (1, .int x1)]) hc dX2_circles_108 2 rfl rfl (by decide) rfl ?_
        refine z_goto (tgt := 71) hc dX2_circles_111 (by decide) ?_
        refine z_sub [1, 2, 0] rfl ?_
        exact ih _ _ _
set_option maxRecDepth 100000 in
set_option maxHeartbeats 4000000 in
theorem tX2_circles_124 {p : Program} {l : Launch} {e : Env} {s : State} {m : MethodId} {args : Array Value} {below : List Frame} {meth : Method} {c : Code} {D : va_G} {ca : Nat → ClassId} {xa ad : Nat → Nat} {A : Nat → Prop} (hc : zCx p s m args meth c cX2_circles 3 RX2 D ca xa A (zwC ad ca)) (hr : meth.sig.returnType = (some .int)) (N : Nat)   : ∀ (n : Nat) (x1 : Int32) (x2 : Int32) (σ : zSt), zGO p l e rmX2_circles s m args below meth c 0 0 (zwC ad ca) D A 3 (zQ below D A (zwC ad ca) args s zI) (fX2_circles_124 N n x1 x2 σ) σ 124 [(0, .ref (ad 7)), (1, .int x1), (2, .int x2)] [] := by
  intro n
  induction n with
  | zero =>
    intro x1 x2 σ
    exact z_none
  | succ n ih =>
    intro x1 x2 σ
    unfold fX2_circles_124
    refine z_iload_n hc dX2_circles_124 2 rfl ?_
    refine z_aload_n hc dX2_circles_125 0 rfl ?_
    refine gfX2_51 hc dX2_circles_126 ?_
    refine z_icmp_ge (tgt := 151) hc dX2_circles_129 (by decide) ?_ ?_
    · refine z_iload_n hc dX2_circles_151 1 rfl ?_
      exact z_iret hc hr dX2_circles_152
    · refine z_iload_n hc dX2_circles_132 1 rfl ?_
      refine z_aload_n hc dX2_circles_133 0 rfl ?_
      refine gfX2_48 hc dX2_circles_134 ?_
      refine z_iload_n hc dX2_circles_137 2 rfl ?_
      refine z_iaload hc 20 (by decide) rfl dX2_circles_138 (fun v1 => ?_)
      refine z_iconst (v := (1 : Int32)) hc dX2_circles_139 (by decide) ?_
      refine z_iload_n hc dX2_circles_140 2 rfl ?_
      refine z_ishl hc dX2_circles_141 ?_
      refine z_iand hc dX2_circles_142 ?_
      refine z_ior hc dX2_circles_143 ?_
      refine z_nm (fun v2 => ?_)
      refine z_istore_n (lv' := [(1, .int v2), (0, .ref (ad 7)), (2, .int x2)]) hc dX2_circles_144 rfl (by decide) rfl ?_
      refine z_iinc (v := (x2 + (1 : Int32))) (lv' := [(2, .int (x2 + (1 : Int32))), (1, .int v2), (0, .ref (ad 7))]) hc dX2_circles_145 2 rfl rfl (by decide) rfl ?_
      refine z_goto (tgt := 124) hc dX2_circles_148 (by decide) ?_
      refine z_sub [2, 1, 0] rfl ?_
      exact ih _ _ _
set_option maxRecDepth 100000 in
set_option maxHeartbeats 4000000 in
theorem tX2_circles_61 {p : Program} {l : Launch} {e : Env} {s : State} {m : MethodId} {args : Array Value} {below : List Frame} {meth : Method} {c : Code} {D : va_G} {ca : Nat → ClassId} {xa ad : Nat → Nat} {A : Nat → Prop} (hc : zCx p s m args meth c cX2_circles 3 RX2 D ca xa A (zwC ad ca)) (hr : meth.sig.returnType = (some .int)) (N : Nat)   : ∀ (n : Nat) (x1 : Int32) (σ : zSt), zGO p l e rmX2_circles s m args below meth c 0 0 (zwC ad ca) D A 3 (zQ below D A (zwC ad ca) args s zI) (fX2_circles_61 N n x1 σ) σ 61 [(0, .ref (ad 7)), (1, .int x1)] [] := by
  intro n
  induction n with
  | zero =>
    intro x1 σ
    exact z_none
  | succ n ih =>
    intro x1 σ
    unfold fX2_circles_61
    refine z_iload_n hc dX2_circles_61 1 rfl ?_
    refine z_aload_n hc dX2_circles_62 0 rfl ?_
    refine gfX2_51 hc dX2_circles_63 ?_
    refine z_icmp_ge (tgt := 120) hc dX2_circles_66 (by decide) ?_ ?_
    · refine z_iconst (v := (0 : Int32)) hc dX2_circles_120 (by decide) ?_
      refine z_istore_n (lv' := [(1, .int (0 : Int32)), (0, .ref (ad 7))]) hc dX2_circles_121 rfl (by decide) rfl ?_
      refine z_iconst (v := (0 : Int32)) hc dX2_circles_122 (by decide) ?_
      refine z_istore_n (lv' := [(2, .int (0 : Int32)), (1, .int (0 : Int32)), (0, .ref (ad 7))]) hc dX2_circles_123 rfl (by decide) rfl ?_
      refine z_sub [2, 1, 0] rfl ?_
      exact tX2_circles_124 hc hr N N _ _ _
    · refine z_iconst (v := (0 : Int32)) hc dX2_circles_69 (by decide) ?_
      refine z_istore_n (lv' := [(2, .int (0 : Int32)), (0, .ref (ad 7)), (1, .int x1)]) hc dX2_circles_70 rfl (by decide) rfl ?_
      refine z_sub [1, 2, 0] rfl ?_
      exact tX2_circles_71 hc hr N _ (ih) N _ _ _
set_option maxRecDepth 100000 in
set_option maxHeartbeats 4000000 in
theorem tX2_circles_25 {p : Program} {l : Launch} {e : Env} {s : State} {m : MethodId} {args : Array Value} {below : List Frame} {meth : Method} {c : Code} {D : va_G} {ca : Nat → ClassId} {xa ad : Nat → Nat} {A : Nat → Prop} (hc : zCx p s m args meth c cX2_circles 3 RX2 D ca xa A (zwC ad ca)) (hr : meth.sig.returnType = (some .int)) (N : Nat)   : ∀ (n : Nat) (x1 : Int32) (σ : zSt), zGO p l e rmX2_circles s m args below meth c 0 0 (zwC ad ca) D A 3 (zQ below D A (zwC ad ca) args s zI) (fX2_circles_25 N n x1 σ) σ 25 [(0, .ref (ad 7)), (1, .int x1)] [] := by
  intro n
  induction n with
  | zero =>
    intro x1 σ
    exact z_none
  | succ n ih =>
    intro x1 σ
    unfold fX2_circles_25
    refine z_iload_n hc dX2_circles_25 1 rfl ?_
    refine z_aload_n hc dX2_circles_26 0 rfl ?_
    refine gfX2_59 hc dX2_circles_27 ?_
    refine z_icmp_ge (tgt := 59) hc dX2_circles_30 (by decide) ?_ ?_
    · refine z_iconst (v := (0 : Int32)) hc dX2_circles_59 (by decide) ?_
      refine z_istore_n (lv' := [(1, .int (0 : Int32)), (0, .ref (ad 7))]) hc dX2_circles_60 rfl (by decide) rfl ?_
      refine z_sub [1, 0] rfl ?_
      exact tX2_circles_61 hc hr N N _ _
    · refine z_aload_n hc dX2_circles_33 0 rfl ?_
      refine gfX2_48 hc dX2_circles_34 ?_
      refine z_aload_n hc dX2_circles_37 0 rfl ?_
      refine gfX2_30 hc dX2_circles_38 ?_
      refine z_iload_n hc dX2_circles_41 1 rfl ?_
      refine z_iaload hc 14 (by decide) rfl dX2_circles_42 (fun v1 => ?_)
      refine z_dup2_11 hc dX2_circles_43 rfl rfl ?_
      refine z_iaload hc 20 (by decide) rfl dX2_circles_44 (fun v2 => ?_)
      refine z_aload_n hc dX2_circles_45 0 rfl ?_
      refine gfX2_36 hc dX2_circles_46 ?_
      refine z_iload_n hc dX2_circles_49 1 rfl ?_
      refine z_iaload hc 16 (by decide) rfl dX2_circles_50 (fun v3 => ?_)
      refine z_ior hc dX2_circles_51 ?_
      refine z_iastore hc 20 (by decide) (fun _ _ => rfl) dX2_circles_52 (fun σ4 => ?_)
      refine z_iinc (v := (x1 + (1 : Int32))) (lv' := [(1, .int (x1 + (1 : Int32))), (0, .ref (ad 7))]) hc dX2_circles_53 1 rfl rfl (by decide) rfl ?_
      refine z_goto (tgt := 25) hc dX2_circles_56 (by decide) ?_
      refine z_sub [1, 0] rfl ?_
      exact ih _ _
set_option maxRecDepth 100000 in
set_option maxHeartbeats 4000000 in
theorem tX2_circles_2 {p : Program} {l : Launch} {e : Env} {s : State} {m : MethodId} {args : Array Value} {below : List Frame} {meth : Method} {c : Code} {D : va_G} {ca : Nat → ClassId} {xa ad : Nat → Nat} {A : Nat → Prop} (hc : zCx p s m args meth c cX2_circles 3 RX2 D ca xa A (zwC ad ca)) (hr : meth.sig.returnType = (some .int)) (N : Nat)   : ∀ (n : Nat) (x1 : Int32) (σ : zSt), zGO p l e rmX2_circles s m args below meth c 0 0 (zwC ad ca) D A 3 (zQ below D A (zwC ad ca) args s zI) (fX2_circles_2 N n x1 σ) σ 2 [(0, .ref (ad 7)), (1, .int x1)] [] := by
  intro n
  induction n with
  | zero =>
    intro x1 σ
    exact z_none
  | succ n ih =>
    intro x1 σ
    unfold fX2_circles_2
    refine z_iload_n hc dX2_circles_2 1 rfl ?_
    refine z_aload_n hc dX2_circles_3 0 rfl ?_
    refine gfX2_51 hc dX2_circles_4 ?_
    refine z_icmp_ge (tgt := 23) hc dX2_circles_7 (by decide) ?_ ?_
    · refine z_iconst (v := (0 : Int32)) hc dX2_circles_23 (by decide) ?_
      refine z_istore_n (lv' := [(1, .int (0 : Int32)), (0, .ref (ad 7))]) hc dX2_circles_24 rfl (by decide) rfl ?_
      refine z_sub [1, 0] rfl ?_
      exact tX2_circles_25 hc hr N N _ _
    · refine z_aload_n hc dX2_circles_10 0 rfl ?_
      refine gfX2_48 hc dX2_circles_11 ?_
      refine z_iload_n hc dX2_circles_14 1 rfl ?_
      refine z_iconst (v := (0 : Int32)) hc dX2_circles_15 (by decide) ?_
      refine z_iastore hc 20 (by decide) (fun _ _ => rfl) dX2_circles_16 (fun σ1 => ?_)
      refine z_iinc (v := (x1 + (1 : Int32))) (lv' := [(1, .int (x1 + (1 : Int32))), (0, .ref (ad 7))]) hc dX2_circles_17 1 rfl rfl (by decide) rfl ?_
      refine z_goto (tgt := 2) hc dX2_circles_20 (by decide) ?_
      refine z_sub [1, 0] rfl ?_
      exact ih _ _
set_option maxRecDepth 100000 in
set_option maxHeartbeats 4000000 in
theorem tX2_circles {l : Launch} {D : va_G} {ca : Nat → ClassId} {xa ad : Nat → Nat} {A : Nat → Prop} {N : Nat}  {σ : zSt} {a : Int32} {τ : zSt} (h : fX2_circles N σ = some (a, τ)) : zCt l yX2_circles cX2_circles 3 (some .int) rmX2_circles D ca xa A (zwC ad ca) [.ref (ad 7)] σ (zI a) τ := by
  refine z_met (inj := zI) (lv := [(0, .ref (ad 7))]) (by decide) (Nat.le_of_ble_eq_true rfl) rfl ?_ h
  intro p e s m args below meth c hc hr
  unfold fX2_circles
  refine z_iconst (v := (0 : Int32)) hc dX2_circles_0 (by decide) ?_
  refine z_istore_n (lv' := [(1, .int (0 : Int32)), (0, .ref (ad 7))]) hc dX2_circles_1 rfl (by decide) rfl ?_
  refine z_sub [1, 0] rfl ?_
  exact tX2_circles_2 hc hr N N _ _
set_option maxRecDepth 100000 in
set_option maxHeartbeats 4000000 in
theorem tX7_shown {l : Launch} {D : va_G} {ca : Nat → ClassId} {xa ad : Nat → Nat} {A : Nat → Prop} {N : Nat} {x1 : Int32} {σ : zSt} {a : Int32} {τ : zSt} (h : fX7_shown N x1 σ = some (a, τ)) : zCt l yX7_shown cX7_shown 2 (some .int) rmX7_shown D ca xa A (zwC ad ca) [.ref (ad 0), .int x1] σ (zI a) τ := by
  refine z_met (inj := zI) (lv := [(0, .ref (ad 0)), (1, .int x1)]) (by decide) (Nat.le_of_ble_eq_true rfl) rfl ?_ h
  intro p e s m args below meth c hc hr
  unfold fX7_shown
  refine z_iload_n hc dX7_shown_0 1 rfl ?_
  refine z_ite (fun h5 => ?_) (fun h5 => ?_)
  · refine z_swIn (tgt := 28) (off := 27) hc dX7_shown_1 (by rw [h5]; decide) (by rw [h5]; decide) (by rw [h5]; decide) (by decide) ?_
    refine z_aload_n hc dX7_shown_28 0 rfl ?_
    refine gfX7_26 hc dX7_shown_29 ?_
    refine z_runVNi (b0 := ad 7) (As := []) (rest := []) hc dX7_shown_32 (fun _ _ h => tX2_shownNow h) mpX2_shownNow miX2_shownNow kmX7_148 ⟨rfl, rfl, Nat.le_of_ble_eq_true rfl, Nat.le_of_ble_eq_true rfl⟩ ⟨Nat.le_refl _, Nat.le_refl _⟩ zcC_rc7 rfl (Nat.le_of_ble_eq_true rfl) (fun b1 σ2 => ?_)
    refine z_aload_n hc dX7_shown_35 0 rfl ?_
    refine gfX7_26 hc dX7_shown_36 ?_
    refine z_runVNi (b0 := ad 7) (As := []) (rest := [.int b1]) hc dX7_shown_39 (fun _ _ h => tX2_claims h) mpX2_claims miX2_claims kmX7_198 ⟨rfl, rfl, Nat.le_of_ble_eq_true rfl, Nat.le_of_ble_eq_true rfl⟩ ⟨Nat.le_refl _, Nat.le_refl _⟩ zcC_rc7 rfl (Nat.le_of_ble_eq_true rfl) (fun b3 σ4 => ?_)
    refine z_iand hc dX7_shown_42 ?_
    exact z_iret hc hr dX7_shown_43
  refine z_ite (fun h8 => ?_) (fun h8 => ?_)
  · refine z_swIn (tgt := 44) (off := 43) hc dX7_shown_1 (by rw [h8]; decide) (by rw [h8]; decide) (by rw [h8]; decide) (by decide) ?_
    refine z_aload_n hc dX7_shown_44 0 rfl ?_
    refine gfX7_26 hc dX7_shown_45 ?_
    refine z_runVNi (b0 := ad 7) (As := []) (rest := []) hc dX7_shown_48 (fun _ _ h => tX2_roundsNow h) mpX2_roundsNow miX2_roundsNow kmX7_201 ⟨rfl, rfl, Nat.le_of_ble_eq_true rfl, Nat.le_of_ble_eq_true rfl⟩ ⟨Nat.le_refl _, Nat.le_refl _⟩ zcC_rc7 rfl (Nat.le_of_ble_eq_true rfl) (fun b6 σ7 => ?_)
    exact z_iret hc hr dX7_shown_51
  refine z_ite (fun h11 => ?_) (fun h11 => ?_)
  · refine z_swIn (tgt := 52) (off := 51) hc dX7_shown_1 (by rw [h11]; decide) (by rw [h11]; decide) (by rw [h11]; decide) (by decide) ?_
    refine z_aload_n hc dX7_shown_52 0 rfl ?_
    refine gfX7_26 hc dX7_shown_53 ?_
    refine z_runVNi (b0 := ad 7) (As := []) (rest := []) hc dX7_shown_56 (fun _ _ h => tX2_circles h) mpX2_circles miX2_circles kmX7_204 ⟨rfl, rfl, Nat.le_of_ble_eq_true rfl, Nat.le_of_ble_eq_true rfl⟩ ⟨Nat.le_refl _, Nat.le_refl _⟩ zcC_rc7 rfl (Nat.le_of_ble_eq_true rfl) (fun b9 σ10 => ?_)
    exact z_iret hc hr dX7_shown_59
  refine z_swOut (tgt := 60) hc dX7_shown_1 (zsw0_2 h5 h8 h11) (by decide) ?_
  refine z_ldc hc dX7_shown_60 kcX7_66 ?_
  exact z_iret hc hr dX7_shown_62
set_option maxRecDepth 100000 in
set_option maxHeartbeats 4000000 in
theorem tX8_claims_30 {p : Program} {l : Launch} {e : Env} {s : State} {m : MethodId} {args : Array Value} {below : List Frame} {meth : Method} {c : Code} {D : va_G} {ca : Nat → ClassId} {xa ad : Nat → Nat} {A : Nat → Prop} (hc : zCx p s m args meth c cX8_claims 3 RX8 D ca xa A (zwM ad ca)) (hr : meth.sig.returnType = (some .int)) (N : Nat) (k4 : Int32 → Int32 → zSt → Option (Int32 × zSt)) (hk4 : ∀ (x1 : Int32) (x2 : Int32) (σ : zSt), zGO p l e rmX8_claims s m args below meth c 0 0 (zwM ad ca) D A 3 (zQ below D A (zwM ad ca) args s zI) (k4 x1 x2 σ) σ 4 [(0, .ref (ad 0)), (1, .int x1), (2, .int x2)] []) (x2 : Int32) (s0 : Int32) (s1 : Int32) (σ : zSt) : zGO p l e rmX8_claims s m args below meth c 0 0 (zwM ad ca) D A 3 (zQ below D A (zwM ad ca) args s zI) (fX8_claims_30 N k4 x2 s0 s1 σ) σ 30 [(0, .ref (ad 0)), (2, .int x2)] [.int s0, .int s1] := by
  unfold fX8_claims_30
  refine z_ior hc dX8_claims_30 ?_
  refine z_nm (fun v1 => ?_)
  refine z_istore_n (lv' := [(1, .int v1), (0, .ref (ad 0)), (2, .int x2)]) hc dX8_claims_31 rfl (by decide) rfl ?_
  refine z_iinc (v := (x2 + (1 : Int32))) (lv' := [(2, .int (x2 + (1 : Int32))), (1, .int v1), (0, .ref (ad 0))]) hc dX8_claims_32 2 rfl rfl (by decide) rfl ?_
  refine z_goto (tgt := 4) hc dX8_claims_35 (by decide) ?_
  refine z_sub [2, 1, 0] rfl ?_
  exact hk4 _ _ _
set_option maxRecDepth 100000 in
set_option maxHeartbeats 4000000 in
theorem tX8_claims_4 {p : Program} {l : Launch} {e : Env} {s : State} {m : MethodId} {args : Array Value} {below : List Frame} {meth : Method} {c : Code} {D : va_G} {ca : Nat → ClassId} {xa ad : Nat → Nat} {A : Nat → Prop} (hc : zCx p s m args meth c cX8_claims 3 RX8 D ca xa A (zwM ad ca)) (hr : meth.sig.returnType = (some .int)) (N : Nat)   : ∀ (n : Nat) (x1 : Int32) (x2 : Int32) (σ : zSt), zGO p l e rmX8_claims s m args below meth c 0 0 (zwM ad ca) D A 3 (zQ below D A (zwM ad ca) args s zI) (fX8_claims_4 N n x1 x2 σ) σ 4 [(0, .ref (ad 0)), (1, .int x1), (2, .int x2)] [] := by
  intro n
  induction n with
  | zero =>
    intro x1 x2 σ
    exact z_none
  | succ n ih =>
    intro x1 x2 σ
    unfold fX8_claims_4
    refine z_iload_n hc dX8_claims_4 2 rfl ?_
    refine z_aload_n hc dX8_claims_5 0 rfl ?_
    refine gfX8_185 hc dX8_claims_6 ?_
    refine z_icmp_ge (tgt := 38) hc dX8_claims_9 (by decide) ?_ ?_
    · refine z_iload_n hc dX8_claims_38 1 rfl ?_
      exact z_iret hc hr dX8_claims_39
    · refine z_iload_n hc dX8_claims_12 1 rfl ?_
      refine z_aload_n hc dX8_claims_13 0 rfl ?_
      refine gfX8_19 hc dX8_claims_14 ?_
      refine z_iload_n hc dX8_claims_17 2 rfl ?_
      refine z_iaload hc 4 (by decide) rfl dX8_claims_18 (fun v1 => ?_)
      refine z_iconst (v := (2 : Int32)) hc dX8_claims_19 (by decide) ?_
      refine z_icmp_ne (tgt := 29) hc dX8_claims_20 (by decide) ?_ ?_
      · refine z_iconst (v := (1 : Int32)) hc dX8_claims_23 (by decide) ?_
        refine z_iload_n hc dX8_claims_24 2 rfl ?_
        refine z_ishl hc dX8_claims_25 ?_
        refine z_goto (tgt := 30) hc dX8_claims_26 (by decide) ?_
        refine z_sub [0, 2] rfl ?_
        exact tX8_claims_30 hc hr N _ (ih) _ _ _ _
      · refine z_iconst (v := (0 : Int32)) hc dX8_claims_29 (by decide) ?_
        refine z_sub [0, 2] rfl ?_
        exact tX8_claims_30 hc hr N _ (ih) _ _ _ _
set_option maxRecDepth 100000 in
set_option maxHeartbeats 4000000 in
theorem tX8_claims {l : Launch} {D : va_G} {ca : Nat → ClassId} {xa ad : Nat → Nat} {A : Nat → Prop} {N : Nat}  {σ : zSt} {a : Int32} {τ : zSt} (h : fX8_claims N σ = some (a, τ)) : zCt l yX8_claims cX8_claims 3 (some .int) rmX8_claims D ca xa A (zwM ad ca) [.ref (ad 0)] σ (zI a) τ := by
  refine z_met (inj := zI) (lv := [(0, .ref (ad 0))]) (by decide) (Nat.le_of_ble_eq_true rfl) rfl ?_ h
  intro p e s m args below meth c hc hr
  unfold fX8_claims
  refine z_iconst (v := (0 : Int32)) hc dX8_claims_0 (by decide) ?_
  refine z_istore_n (lv' := [(1, .int (0 : Int32)), (0, .ref (ad 0))]) hc dX8_claims_1 rfl (by decide) rfl ?_
  refine z_iconst (v := (0 : Int32)) hc dX8_claims_2 (by decide) ?_
  refine z_istore_n (lv' := [(2, .int (0 : Int32)), (1, .int (0 : Int32)), (0, .ref (ad 0))]) hc dX8_claims_3 rfl (by decide) rfl ?_
  refine z_sub [2, 1, 0] rfl ?_
  exact tX8_claims_4 hc hr N N _ _ _
set_option maxRecDepth 100000 in
set_option maxHeartbeats 4000000 in
theorem tX8_reachedFrom_85 {p : Program} {l : Launch} {e : Env} {s : State} {m : MethodId} {args : Array Value} {below : List Frame} {meth : Method} {c : Code} {D : va_G} {ca : Nat → ClassId} {xa ad : Nat → Nat} {A : Nat → Prop} (hc : zCx p s m args meth c cX8_reachedFrom 7 RX8 D ca xa A (zwM ad ca)) (hr : meth.sig.returnType = (some .int)) (N : Nat) (k4 : Int32 → Int32 → Int32 → zSt → Option (Int32 × zSt)) (k14 : Int32 → Int32 → Int32 → Int32 → zSt → Option (Int32 × zSt)) (k26 : Int32 → Int32 → Int32 → Int32 → Int32 → zSt → Option (Int32 × zSt)) (hk4 : ∀ (x1 : Int32) (x2 : Int32) (x3 : Int32) (σ : zSt), zGO p l e rmX8_reachedFrom s m args below meth c 0 0 (zwM ad ca) D A 7 (zQ below D A (zwM ad ca) args s zI) (k4 x1 x2 x3 σ) σ 4 [(0, .ref (ad 0)), (1, .int x1), (2, .int x2), (3, .int x3)] []) (hk14 : ∀ (x1 : Int32) (x2 : Int32) (x4 : Int32) (x5 : Int32) (σ : zSt), zGO p l e rmX8_reachedFrom s m args below meth c 0 0 (zwM ad ca) D A 7 (zQ below D A (zwM ad ca) args s zI) (k14 x1 x2 x4 x5 σ) σ 14 [(0, .ref (ad 0)), (1, .int x1), (2, .int x2), (4, .int x4), (5, .int x5)] []) (hk26 : ∀ (x1 : Int32) (x2 : Int32) (x4 : Int32) (x5 : Int32) (x6 : Int32) (σ : zSt), zGO p l e rmX8_reachedFrom s m args below meth c 0 0 (zwM ad ca) D A 7 (zQ below D A (zwM ad ca) args s zI) (k26 x1 x2 x4 x5 x6 σ) σ 26 [(0, .ref (ad 0)), (1, .int x1), (2, .int x2), (4, .int x4), (5, .int x5), (6, .int x6)] []) (x1 : Int32) (x2 : Int32) (x5 : Int32) (x6 : Int32) (s0 : Int32) (s1 : Int32) (σ : zSt) : zGO p l e rmX8_reachedFrom s m args below meth c 0 0 (zwM ad ca) D A 7 (zQ below D A (zwM ad ca) args s zI) (fX8_reachedFrom_85 N k4 k14 k26 x1 x2 x5 x6 s0 s1 σ) σ 85 [(0, .ref (ad 0)), (1, .int x1), (2, .int x2), (5, .int x5), (6, .int x6)] [.int s0, .int s1] := by
  unfold fX8_reachedFrom_85
  refine z_ior hc dX8_reachedFrom_85 ?_
  refine z_nm (fun v1 => ?_)
  refine z_istore (lv' := [(4, .int v1), (0, .ref (ad 0)), (1, .int x1), (2, .int x2), (5, .int x5), (6, .int x6)]) hc dX8_reachedFrom_86 (by decide) rfl ?_
  refine z_iinc (v := (x6 + (1 : Int32))) (lv' := [(6, .int (x6 + (1 : Int32))), (4, .int v1), (0, .ref (ad 0)), (1, .int x1), (2, .int x2), (5, .int x5)]) hc dX8_reachedFrom_88 5 rfl rfl (by decide) rfl ?_
  refine z_goto (tgt := 26) hc dX8_reachedFrom_91 (by decide) ?_
  refine z_sub [2, 3, 4, 1, 5, 0] rfl ?_
  exact hk26 _ _ _ _ _ _
set_option maxRecDepth 100000 in
set_option maxHeartbeats 4000000 in
theorem tX8_reachedFrom_66 {p : Program} {l : Launch} {e : Env} {s : State} {m : MethodId} {args : Array Value} {below : List Frame} {meth : Method} {c : Code} {D : va_G} {ca : Nat → ClassId} {xa ad : Nat → Nat} {A : Nat → Prop} (hc : zCx p s m args meth c cX8_reachedFrom 7 RX8 D ca xa A (zwM ad ca)) (hr : meth.sig.returnType = (some .int)) (N : Nat) (k4 : Int32 → Int32 → Int32 → zSt → Option (Int32 × zSt)) (k14 : Int32 → Int32 → Int32 → Int32 → zSt → Option (Int32 × zSt)) (k26 : Int32 → Int32 → Int32 → Int32 → Int32 → zSt → Option (Int32 × zSt)) (hk4 : ∀ (x1 : Int32) (x2 : Int32) (x3 : Int32) (σ : zSt), zGO p l e rmX8_reachedFrom s m args below meth c 0 0 (zwM ad ca) D A 7 (zQ below D A (zwM ad ca) args s zI) (k4 x1 x2 x3 σ) σ 4 [(0, .ref (ad 0)), (1, .int x1), (2, .int x2), (3, .int x3)] []) (hk14 : ∀ (x1 : Int32) (x2 : Int32) (x4 : Int32) (x5 : Int32) (σ : zSt), zGO p l e rmX8_reachedFrom s m args below meth c 0 0 (zwM ad ca) D A 7 (zQ below D A (zwM ad ca) args s zI) (k14 x1 x2 x4 x5 σ) σ 14 [(0, .ref (ad 0)), (1, .int x1), (2, .int x2), (4, .int x4), (5, .int x5)] []) (hk26 : ∀ (x1 : Int32) (x2 : Int32) (x4 : Int32) (x5 : Int32) (x6 : Int32) (σ : zSt), zGO p l e rmX8_reachedFrom s m args below meth c 0 0 (zwM ad ca) D A 7 (zQ below D A (zwM ad ca) args s zI) (k26 x1 x2 x4 x5 x6 σ) σ 26 [(0, .ref (ad 0)), (1, .int x1), (2, .int x2), (4, .int x4), (5, .int x5), (6, .int x6)] []) (x1 : Int32) (x2 : Int32) (x5 : Int32) (x6 : Int32) (s0 : Int32) (σ : zSt) : zGO p l e rmX8_reachedFrom s m args below meth c 0 0 (zwM ad ca) D A 7 (zQ below D A (zwM ad ca) args s zI) (fX8_reachedFrom_66 N k4 k14 k26 x1 x2 x5 x6 s0 σ) σ 66 [(0, .ref (ad 0)), (1, .int x1), (2, .int x2), (5, .int x5), (6, .int x6)] [.int s0] := by
  unfold fX8_reachedFrom_66
  refine z_iconst (v := (1 : Int32)) hc dX8_reachedFrom_66 (by decide) ?_
  refine z_aload_n hc dX8_reachedFrom_67 0 rfl ?_
  refine gfX8_44 hc dX8_reachedFrom_68 ?_
  refine z_bipush (v := (6 : Int32)) hc dX8_reachedFrom_71 (by decide) ?_
  refine z_iload hc dX8_reachedFrom_73 3 rfl ?_
  refine z_imul hc dX8_reachedFrom_75 ?_
  refine z_iload hc dX8_reachedFrom_76 4 rfl ?_
  refine z_iadd hc dX8_reachedFrom_78 ?_
  refine z_iaload hc 12 (by decide) rfl dX8_reachedFrom_79 (fun v1 => ?_)
  refine z_ishl hc dX8_reachedFrom_80 ?_
  refine z_goto (tgt := 85) hc dX8_reachedFrom_81 (by decide) ?_
  exact tX8_reachedFrom_85 hc hr N _ _ _ hk4 hk14 hk26 _ _ _ _ _ _ _
set_option maxRecDepth 100000 in
set_option maxHeartbeats 4000000 in
theorem tX8_reachedFrom_26 {p : Program} {l : Launch} {e : Env} {s : State} {m : MethodId} {args : Array Value} {below : List Frame} {meth : Method} {c : Code} {D : va_G} {ca : Nat → ClassId} {xa ad : Nat → Nat} {A : Nat → Prop} (hc : zCx p s m args meth c cX8_reachedFrom 7 RX8 D ca xa A (zwM ad ca)) (hr : meth.sig.returnType = (some .int)) (N : Nat) (k4 : Int32 → Int32 → Int32 → zSt → Option (Int32 × zSt)) (k14 : Int32 → Int32 → Int32 → Int32 → zSt → Option (Int32 × zSt)) (hk4 : ∀ (x1 : Int32) (x2 : Int32) (x3 : Int32) (σ : zSt), zGO p l e rmX8_reachedFrom s m args below meth c 0 0 (zwM ad ca) D A 7 (zQ below D A (zwM ad ca) args s zI) (k4 x1 x2 x3 σ) σ 4 [(0, .ref (ad 0)), (1, .int x1), (2, .int x2), (3, .int x3)] []) (hk14 : ∀ (x1 : Int32) (x2 : Int32) (x4 : Int32) (x5 : Int32) (σ : zSt), zGO p l e rmX8_reachedFrom s m args below meth c 0 0 (zwM ad ca) D A 7 (zQ below D A (zwM ad ca) args s zI) (k14 x1 x2 x4 x5 σ) σ 14 [(0, .ref (ad 0)), (1, .int x1), (2, .int x2), (4, .int x4), (5, .int x5)] []) : ∀ (n : Nat) (x1 : Int32) (x2 : Int32) (x4 : Int32) (x5 : Int32) (x6 : Int32) (σ : zSt), zGO p l e rmX8_reachedFrom s m args below meth c 0 0 (zwM ad ca) D A 7 (zQ below D A (zwM ad ca) args s zI) (fX8_reachedFrom_26 N k4 k14 n x1 x2 x4 x5 x6 σ) σ 26 [(0, .ref (ad 0)), (1, .int x1), (2, .int x2), (4, .int x4), (5, .int x5), (6, .int x6)] [] := by
  intro n
  induction n with
  | zero =>
    intro x1 x2 x4 x5 x6 σ
    exact z_none
  | succ n ih =>
    intro x1 x2 x4 x5 x6 σ
    unfold fX8_reachedFrom_26
    refine z_iload hc dX8_reachedFrom_26 5 rfl ?_
    refine z_aload_n hc dX8_reachedFrom_28 0 rfl ?_
    refine gfX8_41 hc dX8_reachedFrom_29 ?_
    refine z_iload hc dX8_reachedFrom_32 4 rfl ?_
    refine z_iaload hc 11 (by decide) rfl dX8_reachedFrom_34 (fun v1 => ?_)
    refine z_icmp_ge (tgt := 94) hc dX8_reachedFrom_35 (by decide) ?_ ?_
    · refine z_iinc (v := (x5 + (1 : Int32))) (lv' := [(5, .int (x5 + (1 : Int32))), (0, .ref (ad 0)), (1, .int x1), (2, .int x2), (4, .int x4), (6, .int x6)]) hc dX8_reachedFrom_94 4 rfl rfl (by decide) rfl ?_
      refine z_goto (tgt := 14) hc dX8_reachedFrom_97 (by decide) ?_
      refine z_sub [1, 2, 3, 4, 0] rfl ?_
      exact hk14 _ _ _ _ _
    · refine z_iload hc dX8_reachedFrom_38 3 rfl ?_
      refine z_aload_n hc dX8_reachedFrom_40 0 rfl ?_
      refine gfX8_38 hc dX8_reachedFrom_41 ?_
      refine z_iload hc dX8_reachedFrom_44 4 rfl ?_
      refine z_iaload hc 10 (by decide) rfl dX8_reachedFrom_46 (fun v2 => ?_)
      refine z_iload_n hc dX8_reachedFrom_47 1 rfl ?_
      refine z_icmp_eq (tgt := 66) hc dX8_reachedFrom_48 (by decide) ?_ ?_
      · refine z_sub [0, 1, 2, 4, 5] rfl ?_
        exact tX8_reachedFrom_66 hc hr N _ _ _ hk4 hk14 (ih) _ _ _ _ _ _
      · refine z_iload_n hc dX8_reachedFrom_51 2 rfl ?_
        refine z_aload_n hc dX8_reachedFrom_52 0 rfl ?_
        refine gfX8_38 hc dX8_reachedFrom_53 ?_
        refine z_iload hc dX8_reachedFrom_56 4 rfl ?_
        refine z_iaload hc 10 (by decide) rfl dX8_reachedFrom_58 (fun v3 => ?_)
        refine z_ishr hc dX8_reachedFrom_59 ?_
        refine z_iconst (v := (1 : Int32)) hc dX8_reachedFrom_60 (by decide) ?_
        refine z_iand hc dX8_reachedFrom_61 ?_
        refine z_iconst (v := (1 : Int32)) hc dX8_reachedFrom_62 (by decide) ?_
        refine z_icmp_ne (tgt := 84) hc dX8_reachedFrom_63 (by decide) ?_ ?_
        · refine z_sub [0, 1, 2, 4, 5] rfl ?_
          exact tX8_reachedFrom_66 hc hr N _ _ _ hk4 hk14 (ih) _ _ _ _ _ _
        · refine z_iconst (v := (0 : Int32)) hc dX8_reachedFrom_84 (by decide) ?_
          refine z_sub [0, 1, 2, 4, 5] rfl ?_
          exact tX8_reachedFrom_85 hc hr N _ _ _ hk4 hk14 (ih) _ _ _ _ _ _ _
set_option maxRecDepth 100000 in
set_option maxHeartbeats 4000000 in
theorem tX8_reachedFrom_111 {p : Program} {l : Launch} {e : Env} {s : State} {m : MethodId} {args : Array Value} {below : List Frame} {meth : Method} {c : Code} {D : va_G} {ca : Nat → ClassId} {xa ad : Nat → Nat} {A : Nat → Prop} (hc : zCx p s m args meth c cX8_reachedFrom 7 RX8 D ca xa A (zwM ad ca)) (hr : meth.sig.returnType = (some .int)) (N : Nat) (k4 : Int32 → Int32 → Int32 → zSt → Option (Int32 × zSt)) (hk4 : ∀ (x1 : Int32) (x2 : Int32) (x3 : Int32) (σ : zSt), zGO p l e rmX8_reachedFrom s m args below meth c 0 0 (zwM ad ca) D A 7 (zQ below D A (zwM ad ca) args s zI) (k4 x1 x2 x3 σ) σ 4 [(0, .ref (ad 0)), (1, .int x1), (2, .int x2), (3, .int x3)] []) (x1 : Int32) (x4 : Int32) (s0 : Int32) (σ : zSt) : zGO p l e rmX8_reachedFrom s m args below meth c 0 0 (zwM ad ca) D A 7 (zQ below D A (zwM ad ca) args s zI) (fX8_reachedFrom_111 N k4 x1 x4 s0 σ) σ 111 [(0, .ref (ad 0)), (1, .int x1), (4, .int x4)] [.int s0] := by
  unfold fX8_reachedFrom_111
  refine z_istore_n (lv' := [(3, .int s0), (0, .ref (ad 0)), (1, .int x1), (4, .int x4)]) hc dX8_reachedFrom_111 rfl (by decide) rfl ?_
  refine z_iload hc dX8_reachedFrom_112 3 rfl ?_
  refine z_istore_n (lv' := [(2, .int x4), (3, .int s0), (0, .ref (ad 0)), (1, .int x1), (4, .int x4)]) hc dX8_reachedFrom_114 rfl (by decide) rfl ?_
  refine z_goto (tgt := 4) hc dX8_reachedFrom_115 (by decide) ?_
  refine z_sub [2, 3, 0, 1] rfl ?_
  exact hk4 _ _ _ _
set_option maxRecDepth 100000 in
set_option maxHeartbeats 4000000 in
theorem tX8_reachedFrom_14 {p : Program} {l : Launch} {e : Env} {s : State} {m : MethodId} {args : Array Value} {below : List Frame} {meth : Method} {c : Code} {D : va_G} {ca : Nat → ClassId} {xa ad : Nat → Nat} {A : Nat → Prop} (hc : zCx p s m args meth c cX8_reachedFrom 7 RX8 D ca xa A (zwM ad ca)) (hr : meth.sig.returnType = (some .int)) (N : Nat) (k4 : Int32 → Int32 → Int32 → zSt → Option (Int32 × zSt)) (hk4 : ∀ (x1 : Int32) (x2 : Int32) (x3 : Int32) (σ : zSt), zGO p l e rmX8_reachedFrom s m args below meth c 0 0 (zwM ad ca) D A 7 (zQ below D A (zwM ad ca) args s zI) (k4 x1 x2 x3 σ) σ 4 [(0, .ref (ad 0)), (1, .int x1), (2, .int x2), (3, .int x3)] []) : ∀ (n : Nat) (x1 : Int32) (x2 : Int32) (x4 : Int32) (x5 : Int32) (σ : zSt), zGO p l e rmX8_reachedFrom s m args below meth c 0 0 (zwM ad ca) D A 7 (zQ below D A (zwM ad ca) args s zI) (fX8_reachedFrom_14 N k4 n x1 x2 x4 x5 σ) σ 14 [(0, .ref (ad 0)), (1, .int x1), (2, .int x2), (4, .int x4), (5, .int x5)] [] := by
  intro n
  induction n with
  | zero =>
    intro x1 x2 x4 x5 σ
    exact z_none
  | succ n ih =>
    intro x1 x2 x4 x5 σ
    unfold fX8_reachedFrom_14
    refine z_iload hc dX8_reachedFrom_14 4 rfl ?_
    refine z_aload_n hc dX8_reachedFrom_16 0 rfl ?_
    refine gfX8_188 hc dX8_reachedFrom_17 ?_
    refine z_icmp_ge (tgt := 100) hc dX8_reachedFrom_20 (by decide) ?_ ?_
    · refine z_iload hc dX8_reachedFrom_100 3 rfl ?_
      refine z_iload_n hc dX8_reachedFrom_102 2 rfl ?_
      refine z_icmp_eq (tgt := 110) hc dX8_reachedFrom_103 (by decide) ?_ ?_
      · refine z_iconst (v := (0 : Int32)) hc dX8_reachedFrom_110 (by decide) ?_
        refine z_sub [0, 1, 3] rfl ?_
        exact tX8_reachedFrom_111 hc hr N _ hk4 _ _ _ _
      · refine z_iconst (v := (1 : Int32)) hc dX8_reachedFrom_106 (by decide) ?_
        refine z_goto (tgt := 111) hc dX8_reachedFrom_107 (by decide) ?_
        refine z_sub [0, 1, 3] rfl ?_
        exact tX8_reachedFrom_111 hc hr N _ hk4 _ _ _ _
    · refine z_iconst (v := (0 : Int32)) hc dX8_reachedFrom_23 (by decide) ?_
      refine z_istore (lv' := [(6, .int (0 : Int32)), (0, .ref (ad 0)), (1, .int x1), (2, .int x2), (4, .int x4), (5, .int x5)]) hc dX8_reachedFrom_24 (by decide) rfl ?_
      refine z_sub [1, 2, 3, 4, 5, 0] rfl ?_
      exact tX8_reachedFrom_26 hc hr N _ _ hk4 (ih) N _ _ _ _ _ _
set_option maxRecDepth 100000 in
set_option maxHeartbeats 4000000 in
theorem tX8_reachedFrom_4 {p : Program} {l : Launch} {e : Env} {s : State} {m : MethodId} {args : Array Value} {below : List Frame} {meth : Method} {c : Code} {D : va_G} {ca : Nat → ClassId} {xa ad : Nat → Nat} {A : Nat → Prop} (hc : zCx p s m args meth c cX8_reachedFrom 7 RX8 D ca xa A (zwM ad ca)) (hr : meth.sig.returnType = (some .int)) (N : Nat)   : ∀ (n : Nat) (x1 : Int32) (x2 : Int32) (x3 : Int32) (σ : zSt), zGO p l e rmX8_reachedFrom s m args below meth c 0 0 (zwM ad ca) D A 7 (zQ below D A (zwM ad ca) args s zI) (fX8_reachedFrom_4 N n x1 x2 x3 σ) σ 4 [(0, .ref (ad 0)), (1, .int x1), (2, .int x2), (3, .int x3)] [] := by
  intro n
  induction n with
  | zero =>
    intro x1 x2 x3 σ
    exact z_none
  | succ n ih =>
    intro x1 x2 x3 σ
    unfold fX8_reachedFrom_4
    refine z_iload_n hc dX8_reachedFrom_4 3 rfl ?_
    refine z_if_eq (tgt := 118) hc dX8_reachedFrom_5 (by decide) ?_ ?_
    · refine z_iload_n hc dX8_reachedFrom_118 2 rfl ?_
      exact z_iret hc hr dX8_reachedFrom_119
    · refine z_iload_n hc dX8_reachedFrom_8 2 rfl ?_
      refine z_istore (lv' := [(4, .int x2), (0, .ref (ad 0)), (1, .int x1), (2, .int x2), (3, .int x3)]) hc dX8_reachedFrom_9 (by decide) rfl ?_
      refine z_iconst (v := (0 : Int32)) hc dX8_reachedFrom_11 (by decide) ?_
      refine z_istore (lv' := [(5, .int (0 : Int32)), (4, .int x2), (0, .ref (ad 0)), (1, .int x1), (2, .int x2), (3, .int x3)]) hc dX8_reachedFrom_12 (by decide) rfl ?_
      refine z_sub [2, 3, 4, 1, 0] rfl ?_
      exact tX8_reachedFrom_14 hc hr N _ (ih) N _ _ _ _ _
set_option maxRecDepth 100000 in
set_option maxHeartbeats 4000000 in
theorem tX8_reachedFrom {l : Launch} {D : va_G} {ca : Nat → ClassId} {xa ad : Nat → Nat} {A : Nat → Prop} {N : Nat} {x1 : Int32} {σ : zSt} {a : Int32} {τ : zSt} (h : fX8_reachedFrom N x1 σ = some (a, τ)) : zCt l yX8_reachedFrom cX8_reachedFrom 7 (some .int) rmX8_reachedFrom D ca xa A (zwM ad ca) [.ref (ad 0), .int x1] σ (zI a) τ := by
  refine z_met (inj := zI) (lv := [(0, .ref (ad 0)), (1, .int x1)]) (by decide) (Nat.le_of_ble_eq_true rfl) rfl ?_ h
  intro p e s m args below meth c hc hr
  unfold fX8_reachedFrom
  refine z_iconst (v := (0 : Int32)) hc dX8_reachedFrom_0 (by decide) ?_
  refine z_istore_n (lv' := [(2, .int (0 : Int32)), (0, .ref (ad 0)), (1, .int x1)]) hc dX8_reachedFrom_1 rfl (by decide) rfl ?_
  refine z_iconst (v := (1 : Int32)) hc dX8_reachedFrom_2 (by decide) ?_
  refine z_istore_n (lv' := [(3, .int (1 : Int32)), (2, .int (0 : Int32)), (0, .ref (ad 0)), (1, .int x1)]) hc dX8_reachedFrom_3 rfl (by decide) rfl ?_
  refine z_sub [2, 3, 1, 0] rfl ?_
  exact tX8_reachedFrom_4 hc hr N N _ _ _ _
set_option maxRecDepth 100000 in
set_option maxHeartbeats 4000000 in
theorem tX8_shown_97 {p : Program} {l : Launch} {e : Env} {s : State} {m : MethodId} {args : Array Value} {below : List Frame} {meth : Method} {c : Code} {D : va_G} {ca : Nat → ClassId} {xa ad : Nat → Nat} {A : Nat → Prop} (hc : zCx p s m args meth c cX8_shown 5 RX8 D ca xa A (zwM ad ca)) (hr : meth.sig.returnType = (some .int)) (N : Nat) (k53 : Int32 → Int32 → zSt → Option (Int32 × zSt)) (hk53 : ∀ (x3 : Int32) (x4 : Int32) (σ : zSt), zGO p l e rmX8_shown s m args below meth c 0 0 (zwM ad ca) D A 5 (zQ below D A (zwM ad ca) args s zI) (k53 x3 x4 σ) σ 53 [(0, .ref (ad 0)), (3, .int x3), (4, .int x4)] []) (x4 : Int32) (s0 : Int32) (s1 : Int32) (σ : zSt) : zGO p l e rmX8_shown s m args below meth c 0 0 (zwM ad ca) D A 5 (zQ below D A (zwM ad ca) args s zI) (fX8_shown_97 N k53 x4 s0 s1 σ) σ 97 [(0, .ref (ad 0)), (4, .int x4)] [.int s0, .int s1] := by
  unfold fX8_shown_97
  refine z_ior hc dX8_shown_97 ?_
  refine z_nm (fun v1 => ?_)
  refine z_istore_n (lv' := [(3, .int v1), (0, .ref (ad 0)), (4, .int x4)]) hc dX8_shown_98 rfl (by decide) rfl ?_
  refine z_iinc (v := (x4 + (1 : Int32))) (lv' := [(4, .int (x4 + (1 : Int32))), (3, .int v1), (0, .ref (ad 0))]) hc dX8_shown_99 2 rfl rfl (by decide) rfl ?_
  refine z_goto (tgt := 53) hc dX8_shown_102 (by decide) ?_
  refine z_sub [2, 1, 0] rfl ?_
  exact hk53 _ _ _
set_option maxRecDepth 100000 in
set_option maxHeartbeats 4000000 in
theorem tX8_shown_96 {p : Program} {l : Launch} {e : Env} {s : State} {m : MethodId} {args : Array Value} {below : List Frame} {meth : Method} {c : Code} {D : va_G} {ca : Nat → ClassId} {xa ad : Nat → Nat} {A : Nat → Prop} (hc : zCx p s m args meth c cX8_shown 5 RX8 D ca xa A (zwM ad ca)) (hr : meth.sig.returnType = (some .int)) (N : Nat) (k53 : Int32 → Int32 → zSt → Option (Int32 × zSt)) (hk53 : ∀ (x3 : Int32) (x4 : Int32) (σ : zSt), zGO p l e rmX8_shown s m args below meth c 0 0 (zwM ad ca) D A 5 (zQ below D A (zwM ad ca) args s zI) (k53 x3 x4 σ) σ 53 [(0, .ref (ad 0)), (3, .int x3), (4, .int x4)] []) (x4 : Int32) (s0 : Int32) (σ : zSt) : zGO p l e rmX8_shown s m args below meth c 0 0 (zwM ad ca) D A 5 (zQ below D A (zwM ad ca) args s zI) (fX8_shown_96 N k53 x4 s0 σ) σ 96 [(0, .ref (ad 0)), (4, .int x4)] [.int s0] := by
  unfold fX8_shown_96
  refine z_iconst (v := (0 : Int32)) hc dX8_shown_96 (by decide) ?_
  exact tX8_shown_97 hc hr N _ hk53 _ _ _ _
set_option maxRecDepth 100000 in
set_option maxHeartbeats 4000000 in
theorem tX8_shown_53 {p : Program} {l : Launch} {e : Env} {s : State} {m : MethodId} {args : Array Value} {below : List Frame} {meth : Method} {c : Code} {D : va_G} {ca : Nat → ClassId} {xa ad : Nat → Nat} {A : Nat → Prop} (hc : zCx p s m args meth c cX8_shown 5 RX8 D ca xa A (zwM ad ca)) (hr : meth.sig.returnType = (some .int)) (N : Nat)   : ∀ (n : Nat) (x3 : Int32) (x4 : Int32) (σ : zSt), zGO p l e rmX8_shown s m args below meth c 0 0 (zwM ad ca) D A 5 (zQ below D A (zwM ad ca) args s zI) (fX8_shown_53 N n x3 x4 σ) σ 53 [(0, .ref (ad 0)), (3, .int x3), (4, .int x4)] [] := by
  intro n
  induction n with
  | zero =>
    intro x3 x4 σ
    exact z_none
  | succ n ih =>
    intro x3 x4 σ
    unfold fX8_shown_53
    refine z_iload hc dX8_shown_53 2 rfl ?_
    refine z_aload_n hc dX8_shown_55 0 rfl ?_
    refine gfX8_185 hc dX8_shown_56 ?_
    refine z_icmp_ge (tgt := 105) hc dX8_shown_59 (by decide) ?_ ?_
    · refine z_iload_n hc dX8_shown_105 1 rfl ?_
      exact z_iret hc hr dX8_shown_106
    · refine z_iload_n hc dX8_shown_62 1 rfl ?_
      refine z_aload_n hc dX8_shown_63 0 rfl ?_
      refine gfX8_19 hc dX8_shown_64 ?_
      refine z_iload hc dX8_shown_67 2 rfl ?_
      refine z_iaload hc 4 (by decide) rfl dX8_shown_69 (fun v1 => ?_)
      refine z_iconst (v := (2 : Int32)) hc dX8_shown_70 (by decide) ?_
      refine z_icmp_ne (tgt := 96) hc dX8_shown_71 (by decide) ?_ ?_
      · refine z_aload_n hc dX8_shown_74 0 rfl ?_
        refine z_iload hc dX8_shown_75 2 rfl ?_
        refine z_runVi (b0 := ad 0) (As := [.int x4]) (rest := [.int x3]) hc dX8_shown_77 (fun _ _ h => tX8_reachedFrom h) mpX8_reachedFrom miX8_reachedFrom kmX8_238 ⟨rfl, rfl, Nat.le_of_ble_eq_true rfl, Nat.le_of_ble_eq_true rfl⟩ ⟨Nat.le_refl _, Nat.le_refl _⟩ zcM_rc0 rfl (Nat.le_of_ble_eq_true rfl) (fun b2 σ3 => ?_)
        refine z_iload hc dX8_shown_80 2 rfl ?_
        refine z_ishr hc dX8_shown_82 ?_
        refine z_iconst (v := (1 : Int32)) hc dX8_shown_83 (by decide) ?_
        refine z_iand hc dX8_shown_84 ?_
        refine z_iconst (v := (1 : Int32)) hc dX8_shown_85 (by decide) ?_
        refine z_icmp_ne (tgt := 96) hc dX8_shown_86 (by decide) ?_ ?_
        · refine z_iconst (v := (1 : Int32)) hc dX8_shown_89 (by decide) ?_
          refine z_iload hc dX8_shown_90 2 rfl ?_
          refine z_ishl hc dX8_shown_92 ?_
          refine z_goto (tgt := 97) hc dX8_shown_93 (by decide) ?_
          refine z_sub [0, 2] rfl ?_
          exact tX8_shown_97 hc hr N _ (ih) _ _ _ _
        · refine z_sub [0, 2] rfl ?_
          exact tX8_shown_96 hc hr N _ (ih) _ _ _
      · refine z_sub [0, 2] rfl ?_
        exact tX8_shown_96 hc hr N _ (ih) _ _ _
set_option maxRecDepth 100000 in
set_option maxHeartbeats 4000000 in
theorem tX8_shown {l : Launch} {D : va_G} {ca : Nat → ClassId} {xa ad : Nat → Nat} {A : Nat → Prop} {N : Nat} {x1 : Int32} {σ : zSt} {a : Int32} {τ : zSt} (h : fX8_shown N x1 σ = some (a, τ)) : zCt l yX8_shown cX8_shown 5 (some .int) rmX8_shown D ca xa A (zwM ad ca) [.ref (ad 0), .int x1] σ (zI a) τ := by
  refine z_met (inj := zI) (lv := [(0, .ref (ad 0)), (1, .int x1)]) (by decide) (Nat.le_of_ble_eq_true rfl) rfl ?_ h
  intro p e s m args below meth c hc hr
  unfold fX8_shown
  refine z_aload_n hc dX8_shown_0 0 rfl ?_
  refine z_iconst (v := (0 : Int32)) hc dX8_shown_1 (by decide) ?_
  refine pfX8_78 hc dX8_shown_2 (fun σ1 => ?_)
  refine z_iload_n hc dX8_shown_5 1 rfl ?_
  refine z_i2l hc dX8_shown_6 ?_
  refine z_lconst (v := (0 : Int64)) hc dX8_shown_7 (by decide) ?_
  refine z_ldc2 hc dX8_shown_8 kcX8_96 ?_
  refine z_runSi (As := [.long x1.toInt64, .long (0 : Int64), .long (2 : Int64)]) (rest := []) hc dX8_shown_11 (fun _ _ h => tX8_in h) mpX8_in miX8_in kmX8_88 ⟨rfl, rfl, Nat.le_of_ble_eq_true rfl, Nat.le_of_ble_eq_true rfl⟩ ⟨Nat.le_refl _, Nat.le_refl _⟩ rfl (Nat.le_of_ble_eq_true rfl) (fun b2 σ3 => ?_)
  refine z_if_ne (tgt := 20) hc dX8_shown_14 (by decide) ?_ ?_
  · refine z_ldc hc dX8_shown_17 kcX8_98 ?_
    exact z_iret hc hr dX8_shown_19
  · refine z_aload_n hc dX8_shown_20 0 rfl ?_
    refine z_runVi (b0 := ad 0) (As := []) (rest := []) hc dX8_shown_21 (fun _ _ h => tX8_shownNow h) mpX8_shownNow miX8_shownNow kmX8_232 ⟨rfl, rfl, Nat.le_of_ble_eq_true rfl, Nat.le_of_ble_eq_true rfl⟩ ⟨Nat.le_refl _, Nat.le_refl _⟩ zcM_rc0 rfl (Nat.le_of_ble_eq_true rfl) (fun b4 σ5 => ?_)
    refine z_aload_n hc dX8_shown_24 0 rfl ?_
    refine z_runVi (b0 := ad 0) (As := []) (rest := [.int b4]) hc dX8_shown_25 (fun _ _ h => tX8_claims h) mpX8_claims miX8_claims kmX8_235 ⟨rfl, rfl, Nat.le_of_ble_eq_true rfl, Nat.le_of_ble_eq_true rfl⟩ ⟨Nat.le_refl _, Nat.le_refl _⟩ zcM_rc0 rfl (Nat.le_of_ble_eq_true rfl) (fun b6 σ7 => ?_)
    refine z_iand hc dX8_shown_28 ?_
    refine z_nm (fun v8 => ?_)
    refine z_istore_n (lv' := [(2, .int v8), (0, .ref (ad 0)), (1, .int x1)]) hc dX8_shown_29 rfl (by decide) rfl ?_
    refine z_iload_n hc dX8_shown_30 2 rfl ?_
    refine z_iconst (v := (2 : Int32)) hc dX8_shown_31 (by decide) ?_
    refine z_icmp_ge (tgt := 48) hc dX8_shown_32 (by decide) ?_ ?_
    · refine z_iconst (v := (0 : Int32)) hc dX8_shown_48 (by decide) ?_
      refine z_istore_n (lv' := [(3, .int (0 : Int32)), (2, .int v8), (0, .ref (ad 0)), (1, .int x1)]) hc dX8_shown_49 rfl (by decide) rfl ?_
      refine z_iconst (v := (0 : Int32)) hc dX8_shown_50 (by decide) ?_
      refine z_istore (lv' := [(4, .int (0 : Int32)), (3, .int (0 : Int32)), (2, .int v8), (0, .ref (ad 0)), (1, .int x1)]) hc dX8_shown_51 (by decide) rfl ?_
      refine z_sub [3, 1, 0] rfl ?_
      exact tX8_shown_53 hc hr N N _ _ _
    · refine z_iload_n hc dX8_shown_35 2 rfl ?_
      refine z_if_ne (tgt := 43) hc dX8_shown_36 (by decide) ?_ ?_
      · refine z_iload_n hc dX8_shown_39 0 rfl ?_
        refine z_goto (tgt := 47) hc dX8_shown_40 (by decide) ?_
        exact z_iret hc hr dX8_shown_47
      · refine z_aload_n hc dX8_shown_43 1 rfl ?_
        refine gfX8_216 hc dX8_shown_44 ?_
        exact z_iret hc hr dX8_shown_47
set_option maxRecDepth 100000 in
set_option maxHeartbeats 4000000 in
theorem tX7_leaning {l : Launch} {D : va_G} {ca : Nat → ClassId} {xa ad : Nat → Nat} {A : Nat → Prop} {N : Nat} {x1 : Int32} {σ : zSt} {a : Int32} {τ : zSt} (h : fX7_leaning N x1 σ = some (a, τ)) : zCt l yX7_leaning cX7_leaning 4 (some .int) rmX7_leaning D ca xa A (zwC ad ca) [.ref (ad 0), .int x1] σ (zI a) τ := by
  refine z_met (inj := zI) (lv := [(0, .ref (ad 0)), (1, .int x1)]) (by decide) (Nat.le_of_ble_eq_true rfl) rfl ?_ h
  intro p e s m args below meth c hc hr
  unfold fX7_leaning
  refine z_aload_n hc dX7_leaning_0 0 rfl ?_
  refine gfX7_26 hc dX7_leaning_1 ?_
  refine z_iload_n hc dX7_leaning_4 1 rfl ?_
  refine z_runVNi (b0 := ad 7) (As := [.int x1]) (rest := []) hc dX7_leaning_5 (fun _ _ h => tX2_hasNode h) mpX2_hasNode miX2_hasNode kmX7_125 ⟨rfl, rfl, Nat.le_of_ble_eq_true rfl, Nat.le_of_ble_eq_true rfl⟩ ⟨Nat.le_refl _, Nat.le_refl _⟩ zcC_rc7 rfl (Nat.le_of_ble_eq_true rfl) (fun b1 σ2 => ?_)
  refine z_if_ne (tgt := 14) hc dX7_leaning_8 (by decide) ?_ ?_
  · refine z_ldc hc dX7_leaning_11 kcX7_66 ?_
    exact z_iret hc hr dX7_leaning_13
  · refine z_iconst (v := (1 : Int32)) hc dX7_leaning_14 (by decide) ?_
    refine z_iload_n hc dX7_leaning_15 1 rfl ?_
    refine z_ishl hc dX7_leaning_16 ?_
    refine z_nm (fun v3 => ?_)
    refine z_istore_n (lv' := [(2, .int v3), (0, .ref (ad 0)), (1, .int x1)]) hc dX7_leaning_17 rfl (by decide) rfl ?_
    refine z_aload_n hc dX7_leaning_18 1 rfl ?_
    refine gfX7_26 hc dX7_leaning_19 ?_
    refine z_aload_n hc dX7_leaning_22 1 rfl ?_
    refine gfX7_26 hc dX7_leaning_23 ?_
    refine z_runVNi (b0 := ad 7) (As := []) (rest := [.ref (ad 7)]) hc dX7_leaning_26 (fun _ _ h => tX2_standing h) mpX2_standing miX2_standing kmX7_207 ⟨rfl, rfl, Nat.le_of_ble_eq_true rfl, Nat.le_of_ble_eq_true rfl⟩ ⟨Nat.le_refl _, Nat.le_refl _⟩ zcC_rc7 rfl (Nat.le_of_ble_eq_true rfl) (fun b4 σ5 => ?_)
    refine z_iload_n hc dX7_leaning_29 0 rfl ?_
    refine z_iconst (v := (-1 : Int32)) hc dX7_leaning_30 (by decide) ?_
    refine z_ixor hc dX7_leaning_31 ?_
    refine z_iand hc dX7_leaning_32 ?_
    refine z_iload_n hc dX7_leaning_33 0 rfl ?_
    refine z_runVNi (b0 := ad 7) (As := [.int (b4 &&& (v3 ^^^ (-1 : Int32))), .int v3]) (rest := []) hc dX7_leaning_34 (fun _ _ h => tX2_spread h) mpX2_spread miX2_spread kmX7_210 ⟨rfl, rfl, Nat.le_of_ble_eq_true rfl, Nat.le_of_ble_eq_true rfl⟩ ⟨Nat.le_refl _, Nat.le_refl _⟩ zcC_rc7 rfl (Nat.le_of_ble_eq_true rfl) (fun b6 σ7 => ?_)
    refine z_istore_n (lv' := [(3, .int b6), (2, .int v3), (0, .ref (ad 0)), (1, .int x1)]) hc dX7_leaning_37 rfl (by decide) rfl ?_
    refine z_aload_n hc dX7_leaning_38 2 rfl ?_
    refine gfX7_26 hc dX7_leaning_39 ?_
    refine z_runVNi (b0 := ad 7) (As := []) (rest := []) hc dX7_leaning_42 (fun _ _ h => tX2_shownNow h) mpX2_shownNow miX2_shownNow kmX7_148 ⟨rfl, rfl, Nat.le_of_ble_eq_true rfl, Nat.le_of_ble_eq_true rfl⟩ ⟨Nat.le_refl _, Nat.le_refl _⟩ zcC_rc7 rfl (Nat.le_of_ble_eq_true rfl) (fun b8 σ9 => ?_)
    refine z_aload_n hc dX7_leaning_45 2 rfl ?_
    refine gfX7_26 hc dX7_leaning_46 ?_
    refine z_runVNi (b0 := ad 7) (As := []) (rest := [.int b8]) hc dX7_leaning_49 (fun _ _ h => tX2_claims h) mpX2_claims miX2_claims kmX7_198 ⟨rfl, rfl, Nat.le_of_ble_eq_true rfl, Nat.le_of_ble_eq_true rfl⟩ ⟨Nat.le_refl _, Nat.le_refl _⟩ zcC_rc7 rfl (Nat.le_of_ble_eq_true rfl) (fun b10 σ11 => ?_)
    refine z_iand hc dX7_leaning_52 ?_
    refine z_iload_n hc dX7_leaning_53 0 rfl ?_
    refine z_iconst (v := (-1 : Int32)) hc dX7_leaning_54 (by decide) ?_
    refine z_ixor hc dX7_leaning_55 ?_
    refine z_iand hc dX7_leaning_56 ?_
    refine z_iload_n hc dX7_leaning_57 1 rfl ?_
    refine z_iconst (v := (-1 : Int32)) hc dX7_leaning_58 (by decide) ?_
    refine z_ixor hc dX7_leaning_59 ?_
    refine z_iand hc dX7_leaning_60 ?_
    exact z_iret hc hr dX7_leaning_61
set_option maxRecDepth 100000 in
set_option maxHeartbeats 4000000 in
theorem tX8_leaning_59 {p : Program} {l : Launch} {e : Env} {s : State} {m : MethodId} {args : Array Value} {below : List Frame} {meth : Method} {c : Code} {D : va_G} {ca : Nat → ClassId} {xa ad : Nat → Nat} {A : Nat → Prop} (hc : zCx p s m args meth c cX8_leaning 4 RX8 D ca xa A (zwM ad ca)) (hr : meth.sig.returnType = (some .int)) (N : Nat)   (x1 : Int32) (x2 : Int32) (s0 : Int32) (σ : zSt) : zGO p l e rmX8_leaning s m args below meth c 0 0 (zwM ad ca) D A 4 (zQ below D A (zwM ad ca) args s zI) (fX8_leaning_59 N x1 x2 s0 σ) σ 59 [(0, .ref (ad 0)), (1, .int x1), (2, .int x2)] [.int s0] := by
  unfold fX8_leaning_59
  refine z_istore_n (lv' := [(3, .int s0), (0, .ref (ad 0)), (1, .int x1), (2, .int x2)]) hc dX8_leaning_59 rfl (by decide) rfl ?_
  refine z_iload_n hc dX8_leaning_60 3 rfl ?_
  refine z_iload_n hc dX8_leaning_61 0 rfl ?_
  refine z_iconst (v := (-1 : Int32)) hc dX8_leaning_62 (by decide) ?_
  refine z_ixor hc dX8_leaning_63 ?_
  refine z_iand hc dX8_leaning_64 ?_
  refine z_aload_n hc dX8_leaning_65 1 rfl ?_
  refine z_runVi (b0 := ad 0) (As := []) (rest := [.int (x2 &&& (s0 ^^^ (-1 : Int32)))]) hc dX8_leaning_66 (fun _ _ h => tX8_claims h) mpX8_claims miX8_claims kmX8_235 ⟨rfl, rfl, Nat.le_of_ble_eq_true rfl, Nat.le_of_ble_eq_true rfl⟩ ⟨Nat.le_refl _, Nat.le_refl _⟩ zcM_rc0 rfl (Nat.le_of_ble_eq_true rfl) (fun b1 σ2 => ?_)
  refine z_iand hc dX8_leaning_69 ?_
  refine z_iconst (v := (1 : Int32)) hc dX8_leaning_70 (by decide) ?_
  refine z_iload_n hc dX8_leaning_71 2 rfl ?_
  refine z_ishl hc dX8_leaning_72 ?_
  refine z_iconst (v := (-1 : Int32)) hc dX8_leaning_73 (by decide) ?_
  refine z_ixor hc dX8_leaning_74 ?_
  refine z_iand hc dX8_leaning_75 ?_
  exact z_iret hc hr dX8_leaning_76
set_option maxRecDepth 100000 in
set_option maxHeartbeats 4000000 in
theorem tX8_leaning {l : Launch} {D : va_G} {ca : Nat → ClassId} {xa ad : Nat → Nat} {A : Nat → Prop} {N : Nat} {x1 : Int32} {σ : zSt} {a : Int32} {τ : zSt} (h : fX8_leaning N x1 σ = some (a, τ)) : zCt l yX8_leaning cX8_leaning 4 (some .int) rmX8_leaning D ca xa A (zwM ad ca) [.ref (ad 0), .int x1] σ (zI a) τ := by
  refine z_met (inj := zI) (lv := [(0, .ref (ad 0)), (1, .int x1)]) (by decide) (Nat.le_of_ble_eq_true rfl) rfl ?_ h
  intro p e s m args below meth c hc hr
  unfold fX8_leaning
  refine z_aload_n hc dX8_leaning_0 0 rfl ?_
  refine z_iconst (v := (0 : Int32)) hc dX8_leaning_1 (by decide) ?_
  refine pfX8_78 hc dX8_leaning_2 (fun σ1 => ?_)
  refine z_aload_n hc dX8_leaning_5 0 rfl ?_
  refine z_iload_n hc dX8_leaning_6 1 rfl ?_
  refine z_runVi (b0 := ad 0) (As := [.int x1]) (rest := []) hc dX8_leaning_7 (fun _ _ h => tX8_isNode h) mpX8_isNode miX8_isNode kmX8_204 ⟨rfl, rfl, Nat.le_of_ble_eq_true rfl, Nat.le_of_ble_eq_true rfl⟩ ⟨Nat.le_refl _, Nat.le_refl _⟩ zcM_rc0 rfl (Nat.le_of_ble_eq_true rfl) (fun b2 σ3 => ?_)
  refine z_if_ne (tgt := 16) hc dX8_leaning_10 (by decide) ?_ ?_
  · refine z_ldc hc dX8_leaning_13 kcX8_98 ?_
    exact z_iret hc hr dX8_leaning_15
  · refine z_aload_n hc dX8_leaning_16 0 rfl ?_
    refine z_runVi (b0 := ad 0) (As := []) (rest := []) hc dX8_leaning_17 (fun _ _ h => tX8_shownNow h) mpX8_shownNow miX8_shownNow kmX8_232 ⟨rfl, rfl, Nat.le_of_ble_eq_true rfl, Nat.le_of_ble_eq_true rfl⟩ ⟨Nat.le_refl _, Nat.le_refl _⟩ zcM_rc0 rfl (Nat.le_of_ble_eq_true rfl) (fun b4 σ5 => ?_)
    refine z_istore_n (lv' := [(2, .int b4), (0, .ref (ad 0)), (1, .int x1)]) hc dX8_leaning_20 rfl (by decide) rfl ?_
    refine z_aload_n hc dX8_leaning_21 1 rfl ?_
    refine gfX8_19 hc dX8_leaning_22 ?_
    refine z_iload_n hc dX8_leaning_25 2 rfl ?_
    refine z_iaload hc 4 (by decide) rfl dX8_leaning_26 (fun v6 => ?_)
    refine z_iconst (v := (2 : Int32)) hc dX8_leaning_27 (by decide) ?_
    refine z_icmp_ne (tgt := 43) hc dX8_leaning_28 (by decide) ?_ ?_
    · refine z_aload_n hc dX8_leaning_31 1 rfl ?_
      refine z_aload_n hc dX8_leaning_32 1 rfl ?_
      refine z_runVi (b0 := ad 0) (As := []) (rest := [.ref (ad 0)]) hc dX8_leaning_33 (fun _ _ h => tX8_standing h) mpX8_standing miX8_standing kmX8_225 ⟨rfl, rfl, Nat.le_of_ble_eq_true rfl, Nat.le_of_ble_eq_true rfl⟩ ⟨Nat.le_refl _, Nat.le_refl _⟩ zcM_rc0 rfl (Nat.le_of_ble_eq_true rfl) (fun b7 σ8 => ?_)
      refine z_iload_n hc dX8_leaning_36 2 rfl ?_
      refine z_runVi (b0 := ad 0) (As := [.int b7, .int x1]) (rest := []) hc dX8_leaning_37 (fun _ _ h => tX8_shownBy h) mpX8_shownBy miX8_shownBy kmX8_228 ⟨rfl, rfl, Nat.le_of_ble_eq_true rfl, Nat.le_of_ble_eq_true rfl⟩ ⟨Nat.le_refl _, Nat.le_refl _⟩ zcM_rc0 rfl (Nat.le_of_ble_eq_true rfl) (fun b9 σ10 => ?_)
      refine z_goto (tgt := 59) hc dX8_leaning_40 (by decide) ?_
      refine z_sub [1, 2, 0] rfl ?_
      exact tX8_leaning_59 hc hr N _ _ _ _
    · refine z_aload_n hc dX8_leaning_43 1 rfl ?_
      refine z_aload_n hc dX8_leaning_44 1 rfl ?_
      refine z_runVi (b0 := ad 0) (As := []) (rest := [.ref (ad 0)]) hc dX8_leaning_45 (fun _ _ h => tX8_standing h) mpX8_standing miX8_standing kmX8_225 ⟨rfl, rfl, Nat.le_of_ble_eq_true rfl, Nat.le_of_ble_eq_true rfl⟩ ⟨Nat.le_refl _, Nat.le_refl _⟩ zcM_rc0 rfl (Nat.le_of_ble_eq_true rfl) (fun b11 σ12 => ?_)
      refine z_iconst (v := (1 : Int32)) hc dX8_leaning_48 (by decide) ?_
      refine z_iload_n hc dX8_leaning_49 2 rfl ?_
      refine z_ishl hc dX8_leaning_50 ?_
      refine z_iconst (v := (-1 : Int32)) hc dX8_leaning_51 (by decide) ?_
      refine z_ixor hc dX8_leaning_52 ?_
      refine z_iand hc dX8_leaning_53 ?_
      refine z_ldc hc dX8_leaning_54 kcX8_114 ?_
      refine z_runVi (b0 := ad 0) (As := [.int (b11 &&& (((1 : Int32) <<< (x1 &&& 31)) ^^^ (-1 : Int32))), .int (-1000000 : Int32)]) (rest := []) hc dX8_leaning_56 (fun _ _ h => tX8_shownBy h) mpX8_shownBy miX8_shownBy kmX8_228 ⟨rfl, rfl, Nat.le_of_ble_eq_true rfl, Nat.le_of_ble_eq_true rfl⟩ ⟨Nat.le_refl _, Nat.le_refl _⟩ zcM_rc0 rfl (Nat.le_of_ble_eq_true rfl) (fun b13 σ14 => ?_)
      refine z_sub [1, 2, 0] rfl ?_
      exact tX8_leaning_59 hc hr N _ _ _ _
set_option maxRecDepth 100000 in
set_option maxHeartbeats 4000000 in
theorem tX1_countIfItFells_42 {p : Program} {l : Launch} {e : Env} {s : State} {m : MethodId} {args : Array Value} {below : List Frame} {meth : Method} {c : Code} {D : va_G} {ca : Nat → ClassId} {xa ad : Nat → Nat} {A : Nat → Prop} (hc : zCx p s m args meth c cX1_countIfItFells 3 RX1 D ca xa A (zwC ad ca)) (hr : meth.sig.returnType = (some .boolean)) (N : Nat)    (σ : zSt) : zGO p l e rmX1_countIfItFells s m args below meth c 0 0 (zwC ad ca) D A 3 (zQ below D A (zwC ad ca) args s zI) (fX1_countIfItFells_42 N σ) σ 42 [(0, .ref (ad 21))] [] := by
  unfold fX1_countIfItFells_42
  refine z_aload_n hc dX1_countIfItFells_42 0 rfl ?_
  refine z_dup hc dX1_countIfItFells_43 rfl ?_
  refine gfX1_30 hc dX1_countIfItFells_44 ?_
  refine z_iconst (v := (1 : Int32)) hc dX1_countIfItFells_47 (by decide) ?_
  refine z_iadd hc dX1_countIfItFells_48 ?_
  refine pfX1_30 hc dX1_countIfItFells_49 (fun σ1 => ?_)
  refine z_iconst (v := (1 : Int32)) hc dX1_countIfItFells_52 (by decide) ?_
  exact z_zret hc hr dX1_countIfItFells_53
set_option maxRecDepth 100000 in
set_option maxHeartbeats 4000000 in
theorem tX1_countIfItFells {l : Launch} {D : va_G} {ca : Nat → ClassId} {xa ad : Nat → Nat} {A : Nat → Prop} {N : Nat} {x2 : Int32} {σ : zSt} {a : Int32} {τ : zSt} (h : fX1_countIfItFells N x2 σ = some (a, τ)) : zCt l yX1_countIfItFells cX1_countIfItFells 3 (some .boolean) rmX1_countIfItFells D ca xa A (zwC ad ca) [.ref (ad 21), .ref (ad 7), .int x2] σ (zI a) τ := by
  refine z_met (inj := zI) (lv := [(0, .ref (ad 21)), (1, .ref (ad 7)), (2, .int x2)]) (by decide) (Nat.le_of_ble_eq_true rfl) rfl ?_ h
  intro p e s m args below meth c hc hr
  unfold fX1_countIfItFells
  refine z_aload_n hc dX1_countIfItFells_0 1 rfl ?_
  refine z_aload_n hc dX1_countIfItFells_1 0 rfl ?_
  refine gfX1_25 hc dX1_countIfItFells_2 ?_
  refine z_iload_n hc dX1_countIfItFells_5 2 rfl ?_
  refine z_iconst (v := (-1 : Int32)) hc dX1_countIfItFells_6 (by decide) ?_
  refine z_ixor hc dX1_countIfItFells_7 ?_
  refine z_iand hc dX1_countIfItFells_8 ?_
  refine z_iconst (v := (0 : Int32)) hc dX1_countIfItFells_9 (by decide) ?_
  refine z_runVNi (b0 := ad 7) (As := [.int ((σ.1 21 2) &&& (x2 ^^^ (-1 : Int32))), .int (0 : Int32)]) (rest := []) hc dX1_countIfItFells_10 (fun _ _ h => tX2_spread h) mpX2_spread miX2_spread kmX1_56 ⟨rfl, rfl, Nat.le_of_ble_eq_true rfl, Nat.le_of_ble_eq_true rfl⟩ ⟨Nat.le_refl _, Nat.le_refl _⟩ zcC_rc7 rfl (Nat.le_of_ble_eq_true rfl) (fun b1 σ2 => ?_)
  refine z_aload_n hc dX1_countIfItFells_13 0 rfl ?_
  refine gfX1_15 hc dX1_countIfItFells_14 ?_
  refine z_runSNi (As := [.int b1, .int (σ2.1 21 1)]) (rest := []) hc dX1_countIfItFells_17 (fun _ _ h => tX7_bitAt h) mpX7_bitAt miX7_bitAt kmX1_48 ⟨rfl, rfl, Nat.le_of_ble_eq_true rfl, Nat.le_of_ble_eq_true rfl⟩ ⟨Nat.le_refl _, Nat.le_refl _⟩ rfl (Nat.le_of_ble_eq_true rfl) (fun b3 σ4 => ?_)
  refine z_iconst (v := (1 : Int32)) hc dX1_countIfItFells_20 (by decide) ?_
  refine z_icmp_ne (tgt := 26) hc dX1_countIfItFells_21 (by decide) ?_ ?_
  · refine z_iconst (v := (0 : Int32)) hc dX1_countIfItFells_24 (by decide) ?_
    exact z_zret hc hr dX1_countIfItFells_25
  · refine z_aload_n hc dX1_countIfItFells_26 0 rfl ?_
    refine gfX1_30 hc dX1_countIfItFells_27 ?_
    refine z_aload_n hc dX1_countIfItFells_30 0 rfl ?_
    refine gfX1_27 hc dX1_countIfItFells_31 ?_
    refine z_icmp_ne (tgt := 42) hc dX1_countIfItFells_34 (by decide) ?_ ?_
    · refine z_aload_n hc dX1_countIfItFells_37 0 rfl ?_
      refine z_iload_n hc dX1_countIfItFells_38 2 rfl ?_
      refine pfX1_34 hc dX1_countIfItFells_39 (fun σ5 => ?_)
      refine z_sub [0] rfl ?_
      exact tX1_countIfItFells_42 hc hr N _
    · refine z_sub [0] rfl ?_
      exact tX1_countIfItFells_42 hc hr N _
set_option maxRecDepth 100000 in
set_option maxHeartbeats 4000000 in
theorem tX1_seekOnes_4 {p : Program} {l : Launch} {e : Env} {s : State} {m : MethodId} {args : Array Value} {below : List Frame} {meth : Method} {c : Code} {D : va_G} {ca : Nat → ClassId} {xa ad : Nat → Nat} {A : Nat → Prop} (hc : zCx p s m args meth c cX1_seekOnes 4 RX1 D ca xa A (zwC ad ca)) (hr : meth.sig.returnType = (some .int)) (N : Nat)   : ∀ (n : Nat) (x2 : Int32) (x3 : Int32) (σ : zSt), zGO p l e rmX1_seekOnes s m args below meth c 0 0 (zwC ad ca) D A 4 (zQ below D A (zwC ad ca) args s zI) (fX1_seekOnes_4 N n x2 x3 σ) σ 4 [(0, .ref (ad 21)), (1, .ref (ad 7)), (2, .int x2), (3, .int x3)] [] := by
  intro n
  induction n with
  | zero =>
    intro x2 x3 σ
    exact z_none
  | succ n ih =>
    intro x2 x3 σ
    unfold fX1_seekOnes_4
    refine z_iload_n hc dX1_seekOnes_4 3 rfl ?_
    refine z_bipush (v := (20 : Int32)) hc dX1_seekOnes_5 (by decide) ?_
    refine z_icmp_ge (tgt := 45) hc dX1_seekOnes_7 (by decide) ?_ ?_
    · refine z_iload_n hc dX1_seekOnes_45 2 rfl ?_
      exact z_iret hc hr dX1_seekOnes_46
    · refine z_aload_n hc dX1_seekOnes_10 0 rfl ?_
      refine gfX1_25 hc dX1_seekOnes_11 ?_
      refine z_iload_n hc dX1_seekOnes_14 3 rfl ?_
      refine z_runSNi (As := [.int (σ.1 21 2), .int x3]) (rest := []) hc dX1_seekOnes_15 (fun _ _ h => tX7_bitAt h) mpX7_bitAt miX7_bitAt kmX1_48 ⟨rfl, rfl, Nat.le_of_ble_eq_true rfl, Nat.le_of_ble_eq_true rfl⟩ ⟨Nat.le_refl _, Nat.le_refl _⟩ rfl (Nat.le_of_ble_eq_true rfl) (fun b1 σ2 => ?_)
      refine z_iconst (v := (1 : Int32)) hc dX1_seekOnes_18 (by decide) ?_
      refine z_icmp_ne (tgt := 39) hc dX1_seekOnes_19 (by decide) ?_ ?_
      · refine z_aload_n hc dX1_seekOnes_22 0 rfl ?_
        refine z_aload_n hc dX1_seekOnes_23 1 rfl ?_
        refine z_iconst (v := (1 : Int32)) hc dX1_seekOnes_24 (by decide) ?_
        refine z_iload_n hc dX1_seekOnes_25 3 rfl ?_
        refine z_ishl hc dX1_seekOnes_26 ?_
        refine z_runVi (b0 := ad 21) (As := [.ref (ad 7), .int ((1 : Int32) <<< (x3 &&& 31))]) (rest := []) hc dX1_seekOnes_27 (fun _ _ h => tX1_countIfItFells h) mpX1_countIfItFells miX1_countIfItFells kmX1_52 ⟨rfl, rfl, Nat.le_of_ble_eq_true rfl, Nat.le_of_ble_eq_true rfl⟩ ⟨Nat.le_refl _, Nat.le_refl _⟩ zcC_rc21 rfl (Nat.le_of_ble_eq_true rfl) (fun b3 σ4 => ?_)
        refine z_if_eq (tgt := 39) hc dX1_seekOnes_30 (by decide) ?_ ?_
        · refine z_iinc (v := (x3 + (1 : Int32))) (lv' := [(3, .int (x3 + (1 : Int32))), (0, .ref (ad 21)), (1, .ref (ad 7)), (2, .int x2)]) hc dX1_seekOnes_39 3 rfl rfl (by decide) rfl ?_
          refine z_goto (tgt := 4) hc dX1_seekOnes_42 (by decide) ?_
          refine z_sub [1, 2, 3, 0] rfl ?_
          exact ih _ _ _
        · refine z_iload_n hc dX1_seekOnes_33 2 rfl ?_
          refine z_iconst (v := (1 : Int32)) hc dX1_seekOnes_34 (by decide) ?_
          refine z_iload_n hc dX1_seekOnes_35 3 rfl ?_
          refine z_ishl hc dX1_seekOnes_36 ?_
          refine z_ior hc dX1_seekOnes_37 ?_
          refine z_nm (fun v5 => ?_)
          refine z_istore_n (lv' := [(2, .int v5), (0, .ref (ad 21)), (1, .ref (ad 7)), (3, .int x3)]) hc dX1_seekOnes_38 rfl (by decide) rfl ?_
          refine z_iinc (v := (x3 + (1 : Int32))) (lv' := [(3, .int (x3 + (1 : Int32))), (2, .int v5), (0, .ref (ad 21)), (1, .ref (ad 7))]) hc dX1_seekOnes_39 3 rfl rfl (by decide) rfl ?_
          refine z_goto (tgt := 4) hc dX1_seekOnes_42 (by decide) ?_
          refine z_sub [2, 3, 1, 0] rfl ?_
          exact ih _ _ _
      · refine z_iinc (v := (x3 + (1 : Int32))) (lv' := [(3, .int (x3 + (1 : Int32))), (0, .ref (ad 21)), (1, .ref (ad 7)), (2, .int x2)]) hc dX1_seekOnes_39 3 rfl rfl (by decide) rfl ?_
        refine z_goto (tgt := 4) hc dX1_seekOnes_42 (by decide) ?_
        refine z_sub [1, 2, 3, 0] rfl ?_
        exact ih _ _ _
set_option maxRecDepth 100000 in
set_option maxHeartbeats 4000000 in
theorem tX1_seekOnes {l : Launch} {D : va_G} {ca : Nat → ClassId} {xa ad : Nat → Nat} {A : Nat → Prop} {N : Nat}  {σ : zSt} {a : Int32} {τ : zSt} (h : fX1_seekOnes N σ = some (a, τ)) : zCt l yX1_seekOnes cX1_seekOnes 4 (some .int) rmX1_seekOnes D ca xa A (zwC ad ca) [.ref (ad 21), .ref (ad 7)] σ (zI a) τ := by
  refine z_met (inj := zI) (lv := [(0, .ref (ad 21)), (1, .ref (ad 7))]) (by decide) (Nat.le_of_ble_eq_true rfl) rfl ?_ h
  intro p e s m args below meth c hc hr
  unfold fX1_seekOnes
  refine z_iconst (v := (0 : Int32)) hc dX1_seekOnes_0 (by decide) ?_
  refine z_istore_n (lv' := [(2, .int (0 : Int32)), (0, .ref (ad 21)), (1, .ref (ad 7))]) hc dX1_seekOnes_1 rfl (by decide) rfl ?_
  refine z_iconst (v := (0 : Int32)) hc dX1_seekOnes_2 (by decide) ?_
  refine z_istore_n (lv' := [(3, .int (0 : Int32)), (2, .int (0 : Int32)), (0, .ref (ad 21)), (1, .ref (ad 7))]) hc dX1_seekOnes_3 rfl (by decide) rfl ?_
  refine z_sub [2, 3, 1, 0] rfl ?_
  exact tX1_seekOnes_4 hc hr N N _ _ _
set_option maxRecDepth 100000 in
set_option maxHeartbeats 4000000 in
theorem tX1_seekTwos_29 {p : Program} {l : Launch} {e : Env} {s : State} {m : MethodId} {args : Array Value} {below : List Frame} {meth : Method} {c : Code} {D : va_G} {ca : Nat → ClassId} {xa ad : Nat → Nat} {A : Nat → Prop} (hc : zCx p s m args meth c cX1_seekTwos 5 RX1 D ca xa A (zwC ad ca)) (hr : meth.sig.returnType = none) (N : Nat) (k2 : Int32 → Int32 → zSt → Option (Unit × zSt)) (hk2 : ∀ (x2 : Int32) (x3 : Int32) (σ : zSt), zGO p l e rmX1_seekTwos s m args below meth c 0 0 (zwC ad ca) D A 5 (zQ below D A (zwC ad ca) args s zV) (k2 x2 x3 σ) σ 2 [(0, .ref (ad 21)), (1, .ref (ad 7)), (2, .int x2), (3, .int x3)] []) : ∀ (n : Nat) (x2 : Int32) (x3 : Int32) (x4 : Int32) (σ : zSt), zGO p l e rmX1_seekTwos s m args below meth c 0 0 (zwC ad ca) D A 5 (zQ below D A (zwC ad ca) args s zV) (fX1_seekTwos_29 N k2 n x2 x3 x4 σ) σ 29 [(0, .ref (ad 21)), (1, .ref (ad 7)), (2, .int x2), (3, .int x3), (4, .int x4)] [] := by
  intro n
  induction n with
  | zero =>
    intro x2 x3 x4 σ
    exact z_none
  | succ n ih =>
    intro x2 x3 x4 σ
    unfold fX1_seekTwos_29
    refine z_iload hc dX1_seekTwos_29 4 rfl ?_
    refine z_iload_n hc dX1_seekTwos_31 3 rfl ?_
    refine z_icmp_ge (tgt := 80) hc dX1_seekTwos_32 (by decide) ?_ ?_
    · refine z_iinc (v := (x3 + (1 : Int32))) (lv' := [(3, .int (x3 + (1 : Int32))), (0, .ref (ad 21)), (1, .ref (ad 7)), (2, .int x2), (4, .int x4)]) hc dX1_seekTwos_80 3 rfl rfl (by decide) rfl ?_
      refine z_goto (tgt := 2) hc dX1_seekTwos_83 (by decide) ?_
      refine z_sub [1, 2, 3, 0] rfl ?_
      exact hk2 _ _ _
    · refine z_iload_n hc dX1_seekTwos_35 2 rfl ?_
      refine z_iload hc dX1_seekTwos_36 4 rfl ?_
      refine z_runSNi (As := [.int x2, .int x4]) (rest := []) hc dX1_seekTwos_38 (fun _ _ h => tX7_bitAt h) mpX7_bitAt miX7_bitAt kmX1_48 ⟨rfl, rfl, Nat.le_of_ble_eq_true rfl, Nat.le_of_ble_eq_true rfl⟩ ⟨Nat.le_refl _, Nat.le_refl _⟩ rfl (Nat.le_of_ble_eq_true rfl) (fun b1 σ2 => ?_)
      refine z_iconst (v := (1 : Int32)) hc dX1_seekTwos_41 (by decide) ?_
      refine z_icmp_ne (tgt := 74) hc dX1_seekTwos_42 (by decide) ?_ ?_
      · refine z_aload_n hc dX1_seekTwos_45 0 rfl ?_
        refine z_aload_n hc dX1_seekTwos_46 1 rfl ?_
        refine z_iconst (v := (1 : Int32)) hc dX1_seekTwos_47 (by decide) ?_
        refine z_iload_n hc dX1_seekTwos_48 3 rfl ?_
        refine z_ishl hc dX1_seekTwos_49 ?_
        refine z_iconst (v := (1 : Int32)) hc dX1_seekTwos_50 (by decide) ?_
        refine z_iload hc dX1_seekTwos_51 4 rfl ?_
        refine z_ishl hc dX1_seekTwos_53 ?_
        refine z_ior hc dX1_seekTwos_54 ?_
        refine z_runVi (b0 := ad 21) (As := [.ref (ad 7), .int (((1 : Int32) <<< (x3 &&& 31)) ||| ((1 : Int32) <<< (x4 &&& 31)))]) (rest := []) hc dX1_seekTwos_55 (fun _ _ h => tX1_countIfItFells h) mpX1_countIfItFells miX1_countIfItFells kmX1_52 ⟨rfl, rfl, Nat.le_of_ble_eq_true rfl, Nat.le_of_ble_eq_true rfl⟩ ⟨Nat.le_refl _, Nat.le_refl _⟩ zcC_rc21 rfl (Nat.le_of_ble_eq_true rfl) (fun b3 σ4 => ?_)
        refine z_if_eq (tgt := 74) hc dX1_seekTwos_58 (by decide) ?_ ?_
        · refine z_iinc (v := (x4 + (1 : Int32))) (lv' := [(4, .int (x4 + (1 : Int32))), (0, .ref (ad 21)), (1, .ref (ad 7)), (2, .int x2), (3, .int x3)]) hc dX1_seekTwos_74 4 rfl rfl (by decide) rfl ?_
          refine z_goto (tgt := 29) hc dX1_seekTwos_77 (by decide) ?_
          refine z_sub [1, 2, 3, 4, 0] rfl ?_
          exact ih _ _ _ _
        · refine z_aload_n hc dX1_seekTwos_61 0 rfl ?_
          refine gfX1_9 hc dX1_seekTwos_62 ?_
          refine z_iload_n hc dX1_seekTwos_65 3 rfl ?_
          refine z_dup2_11 hc dX1_seekTwos_66 rfl rfl ?_
          refine z_iaload hc 22 (by decide) rfl dX1_seekTwos_67 (fun v5 => ?_)
          refine z_iconst (v := (1 : Int32)) hc dX1_seekTwos_68 (by decide) ?_
          refine z_iload hc dX1_seekTwos_69 4 rfl ?_
          refine z_ishl hc dX1_seekTwos_71 ?_
          refine z_ior hc dX1_seekTwos_72 ?_
          refine z_iastore hc 22 (by decide) (fun _ _ => rfl) dX1_seekTwos_73 (fun σ6 => ?_)
          refine z_iinc (v := (x4 + (1 : Int32))) (lv' := [(4, .int (x4 + (1 : Int32))), (0, .ref (ad 21)), (1, .ref (ad 7)), (2, .int x2), (3, .int x3)]) hc dX1_seekTwos_74 4 rfl rfl (by decide) rfl ?_
          refine z_goto (tgt := 29) hc dX1_seekTwos_77 (by decide) ?_
          refine z_sub [1, 2, 3, 4, 0] rfl ?_
          exact ih _ _ _ _
      · refine z_iinc (v := (x4 + (1 : Int32))) (lv' := [(4, .int (x4 + (1 : Int32))), (0, .ref (ad 21)), (1, .ref (ad 7)), (2, .int x2), (3, .int x3)]) hc dX1_seekTwos_74 4 rfl rfl (by decide) rfl ?_
        refine z_goto (tgt := 29) hc dX1_seekTwos_77 (by decide) ?_
        refine z_sub [1, 2, 3, 4, 0] rfl ?_
        exact ih _ _ _ _
set_option maxRecDepth 100000 in
set_option maxHeartbeats 4000000 in
theorem tX1_seekTwos_2 {p : Program} {l : Launch} {e : Env} {s : State} {m : MethodId} {args : Array Value} {below : List Frame} {meth : Method} {c : Code} {D : va_G} {ca : Nat → ClassId} {xa ad : Nat → Nat} {A : Nat → Prop} (hc : zCx p s m args meth c cX1_seekTwos 5 RX1 D ca xa A (zwC ad ca)) (hr : meth.sig.returnType = none) (N : Nat)   : ∀ (n : Nat) (x2 : Int32) (x3 : Int32) (σ : zSt), zGO p l e rmX1_seekTwos s m args below meth c 0 0 (zwC ad ca) D A 5 (zQ below D A (zwC ad ca) args s zV) (fX1_seekTwos_2 N n x2 x3 σ) σ 2 [(0, .ref (ad 21)), (1, .ref (ad 7)), (2, .int x2), (3, .int x3)] [] := by
  intro n
  induction n with
  | zero =>
    intro x2 x3 σ
    exact z_none
  | succ n ih =>
    intro x2 x3 σ
    unfold fX1_seekTwos_2
    refine z_iload_n hc dX1_seekTwos_2 3 rfl ?_
    refine z_bipush (v := (20 : Int32)) hc dX1_seekTwos_3 (by decide) ?_
    refine z_icmp_ge (tgt := 86) hc dX1_seekTwos_5 (by decide) ?_ ?_
    · exact z_vret hc hr dX1_seekTwos_86
    · refine z_aload_n hc dX1_seekTwos_8 0 rfl ?_
      refine gfX1_9 hc dX1_seekTwos_9 ?_
      refine z_iload_n hc dX1_seekTwos_12 3 rfl ?_
      refine z_iconst (v := (0 : Int32)) hc dX1_seekTwos_13 (by decide) ?_
      refine z_iastore hc 22 (by decide) (fun _ _ => rfl) dX1_seekTwos_14 (fun σ1 => ?_)
      refine z_iload_n hc dX1_seekTwos_15 2 rfl ?_
      refine z_iload_n hc dX1_seekTwos_16 3 rfl ?_
      refine z_runSNi (As := [.int x2, .int x3]) (rest := []) hc dX1_seekTwos_17 (fun _ _ h => tX7_bitAt h) mpX7_bitAt miX7_bitAt kmX1_48 ⟨rfl, rfl, Nat.le_of_ble_eq_true rfl, Nat.le_of_ble_eq_true rfl⟩ ⟨Nat.le_refl _, Nat.le_refl _⟩ rfl (Nat.le_of_ble_eq_true rfl) (fun b2 σ3 => ?_)
      refine z_if_ne (tgt := 26) hc dX1_seekTwos_20 (by decide) ?_ ?_
      · refine z_goto (tgt := 80) hc dX1_seekTwos_23 (by decide) ?_
        refine z_iinc (v := (x3 + (1 : Int32))) (lv' := [(3, .int (x3 + (1 : Int32))), (0, .ref (ad 21)), (1, .ref (ad 7)), (2, .int x2)]) hc dX1_seekTwos_80 3 rfl rfl (by decide) rfl ?_
        refine z_goto (tgt := 2) hc dX1_seekTwos_83 (by decide) ?_
        refine z_sub [1, 2, 3, 0] rfl ?_
        exact ih _ _ _
      · refine z_iconst (v := (0 : Int32)) hc dX1_seekTwos_26 (by decide) ?_
        refine z_istore (lv' := [(4, .int (0 : Int32)), (0, .ref (ad 21)), (1, .ref (ad 7)), (2, .int x2), (3, .int x3)]) hc dX1_seekTwos_27 (by decide) rfl ?_
        refine z_sub [1, 2, 3, 4, 0] rfl ?_
        exact tX1_seekTwos_29 hc hr N _ (ih) N _ _ _ _
set_option maxRecDepth 100000 in
set_option maxHeartbeats 4000000 in
theorem tX1_seekTwos {l : Launch} {D : va_G} {ca : Nat → ClassId} {xa ad : Nat → Nat} {A : Nat → Prop} {N : Nat} {x2 : Int32} {σ : zSt} {a : Unit} {τ : zSt} (h : fX1_seekTwos N x2 σ = some (a, τ)) : zCt l yX1_seekTwos cX1_seekTwos 5 none rmX1_seekTwos D ca xa A (zwC ad ca) [.ref (ad 21), .ref (ad 7), .int x2] σ (zV a) τ := by
  refine z_met (inj := zV) (lv := [(0, .ref (ad 21)), (1, .ref (ad 7)), (2, .int x2)]) (by decide) (Nat.le_of_ble_eq_true rfl) rfl ?_ h
  intro p e s m args below meth c hc hr
  unfold fX1_seekTwos
  refine z_iconst (v := (0 : Int32)) hc dX1_seekTwos_0 (by decide) ?_
  refine z_istore_n (lv' := [(3, .int (0 : Int32)), (0, .ref (ad 21)), (1, .ref (ad 7)), (2, .int x2)]) hc dX1_seekTwos_1 rfl (by decide) rfl ?_
  refine z_sub [1, 2, 3, 0] rfl ?_
  exact tX1_seekTwos_2 hc hr N N _ _ _
set_option maxRecDepth 100000 in
set_option maxHeartbeats 4000000 in
theorem tX1_seekThrees_70 {p : Program} {l : Launch} {e : Env} {s : State} {m : MethodId} {args : Array Value} {below : List Frame} {meth : Method} {c : Code} {D : va_G} {ca : Nat → ClassId} {xa ad : Nat → Nat} {A : Nat → Prop} (hc : zCx p s m args meth c cX1_seekThrees 8 RX1 D ca xa A (zwC ad ca)) (hr : meth.sig.returnType = none) (N : Nat) (k2 : Int32 → Int32 → zSt → Option (Unit × zSt)) (k34 : Int32 → Int32 → Int32 → Int32 → zSt → Option (Unit × zSt)) (hk2 : ∀ (x2 : Int32) (x3 : Int32) (σ : zSt), zGO p l e rmX1_seekThrees s m args below meth c 0 0 (zwC ad ca) D A 8 (zQ below D A (zwC ad ca) args s zV) (k2 x2 x3 σ) σ 2 [(0, .ref (ad 21)), (1, .ref (ad 7)), (2, .int x2), (3, .int x3)] []) (hk34 : ∀ (x2 : Int32) (x3 : Int32) (x4 : Int32) (x5 : Int32) (σ : zSt), zGO p l e rmX1_seekThrees s m args below meth c 0 0 (zwC ad ca) D A 8 (zQ below D A (zwC ad ca) args s zV) (k34 x2 x3 x4 x5 σ) σ 34 [(0, .ref (ad 21)), (1, .ref (ad 7)), (2, .int x2), (3, .int x3), (4, .int x4), (5, .int x5)] []) : ∀ (n : Nat) (x2 : Int32) (x3 : Int32) (x4 : Int32) (x5 : Int32) (x6 : Int32) (x7 : Int32) (σ : zSt), zGO p l e rmX1_seekThrees s m args below meth c 0 0 (zwC ad ca) D A 8 (zQ below D A (zwC ad ca) args s zV) (fX1_seekThrees_70 N k2 k34 n x2 x3 x4 x5 x6 x7 σ) σ 70 [(0, .ref (ad 21)), (1, .ref (ad 7)), (2, .int x2), (3, .int x3), (4, .int x4), (5, .int x5), (6, .int x6), (7, .int x7)] [] := by
  intro n
  induction n with
  | zero =>
    intro x2 x3 x4 x5 x6 x7 σ
    exact z_none
  | succ n ih =>
    intro x2 x3 x4 x5 x6 x7 σ
    unfold fX1_seekThrees_70
    refine z_iload hc dX1_seekThrees_70 7 rfl ?_
    refine z_iload hc dX1_seekThrees_72 5 rfl ?_
    refine z_icmp_ge (tgt := 113) hc dX1_seekThrees_74 (by decide) ?_ ?_
    · refine z_iinc (v := (x5 + (1 : Int32))) (lv' := [(5, .int (x5 + (1 : Int32))), (0, .ref (ad 21)), (1, .ref (ad 7)), (2, .int x2), (3, .int x3), (4, .int x4), (6, .int x6), (7, .int x7)]) hc dX1_seekThrees_113 5 rfl rfl (by decide) rfl ?_
      refine z_goto (tgt := 34) hc dX1_seekThrees_116 (by decide) ?_
      refine z_sub [1, 2, 3, 4, 5, 0] rfl ?_
      exact hk34 _ _ _ _ _
    · refine z_iload hc dX1_seekThrees_77 6 rfl ?_
      refine z_iload hc dX1_seekThrees_79 7 rfl ?_
      refine z_runSNi (As := [.int x6, .int x7]) (rest := []) hc dX1_seekThrees_81 (fun _ _ h => tX7_bitAt h) mpX7_bitAt miX7_bitAt kmX1_48 ⟨rfl, rfl, Nat.le_of_ble_eq_true rfl, Nat.le_of_ble_eq_true rfl⟩ ⟨Nat.le_refl _, Nat.le_refl _⟩ rfl (Nat.le_of_ble_eq_true rfl) (fun b1 σ2 => ?_)
      refine z_iconst (v := (1 : Int32)) hc dX1_seekThrees_84 (by decide) ?_
      refine z_icmp_ne (tgt := 107) hc dX1_seekThrees_85 (by decide) ?_ ?_
      · refine z_aload_n hc dX1_seekThrees_88 0 rfl ?_
        refine z_aload_n hc dX1_seekThrees_89 1 rfl ?_
        refine z_iconst (v := (1 : Int32)) hc dX1_seekThrees_90 (by decide) ?_
        refine z_iload_n hc dX1_seekThrees_91 3 rfl ?_
        refine z_ishl hc dX1_seekThrees_92 ?_
        refine z_iconst (v := (1 : Int32)) hc dX1_seekThrees_93 (by decide) ?_
        refine z_iload hc dX1_seekThrees_94 5 rfl ?_
        refine z_ishl hc dX1_seekThrees_96 ?_
        refine z_ior hc dX1_seekThrees_97 ?_
        refine z_iconst (v := (1 : Int32)) hc dX1_seekThrees_98 (by decide) ?_
        refine z_iload hc dX1_seekThrees_99 7 rfl ?_
        refine z_ishl hc dX1_seekThrees_101 ?_
        refine z_ior hc dX1_seekThrees_102 ?_
        refine z_runVi (b0 := ad 21) (As := [.ref (ad 7), .int ((((1 : Int32) <<< (x3 &&& 31)) ||| ((1 : Int32) <<< (x5 &&& 31))) ||| ((1 : Int32) <<< (x7 &&& 31)))]) (rest := []) hc dX1_seekThrees_103 (fun _ _ h => tX1_countIfItFells h) mpX1_countIfItFells miX1_countIfItFells kmX1_52 ⟨rfl, rfl, Nat.le_of_ble_eq_true rfl, Nat.le_of_ble_eq_true rfl⟩ ⟨Nat.le_refl _, Nat.le_refl _⟩ zcC_rc21 rfl (Nat.le_of_ble_eq_true rfl) (fun b3 σ4 => ?_)
        refine z_pop hc dX1_seekThrees_106 rfl ?_
        refine z_iinc (v := (x7 + (1 : Int32))) (lv' := [(7, .int (x7 + (1 : Int32))), (0, .ref (ad 21)), (1, .ref (ad 7)), (2, .int x2), (3, .int x3), (4, .int x4), (5, .int x5), (6, .int x6)]) hc dX1_seekThrees_107 7 rfl rfl (by decide) rfl ?_
        refine z_goto (tgt := 70) hc dX1_seekThrees_110 (by decide) ?_
        refine z_sub [1, 2, 3, 4, 5, 6, 7, 0] rfl ?_
        exact ih _ _ _ _ _ _ _
      · refine z_iinc (v := (x7 + (1 : Int32))) (lv' := [(7, .int (x7 + (1 : Int32))), (0, .ref (ad 21)), (1, .ref (ad 7)), (2, .int x2), (3, .int x3), (4, .int x4), (5, .int x5), (6, .int x6)]) hc dX1_seekThrees_107 7 rfl rfl (by decide) rfl ?_
        refine z_goto (tgt := 70) hc dX1_seekThrees_110 (by decide) ?_
        refine z_sub [1, 2, 3, 4, 5, 6, 7, 0] rfl ?_
        exact ih _ _ _ _ _ _ _
set_option maxRecDepth 100000 in
set_option maxHeartbeats 4000000 in
theorem tX1_seekThrees_34 {p : Program} {l : Launch} {e : Env} {s : State} {m : MethodId} {args : Array Value} {below : List Frame} {meth : Method} {c : Code} {D : va_G} {ca : Nat → ClassId} {xa ad : Nat → Nat} {A : Nat → Prop} (hc : zCx p s m args meth c cX1_seekThrees 8 RX1 D ca xa A (zwC ad ca)) (hr : meth.sig.returnType = none) (N : Nat) (k2 : Int32 → Int32 → zSt → Option (Unit × zSt)) (hk2 : ∀ (x2 : Int32) (x3 : Int32) (σ : zSt), zGO p l e rmX1_seekThrees s m args below meth c 0 0 (zwC ad ca) D A 8 (zQ below D A (zwC ad ca) args s zV) (k2 x2 x3 σ) σ 2 [(0, .ref (ad 21)), (1, .ref (ad 7)), (2, .int x2), (3, .int x3)] []) : ∀ (n : Nat) (x2 : Int32) (x3 : Int32) (x4 : Int32) (x5 : Int32) (σ : zSt), zGO p l e rmX1_seekThrees s m args below meth c 0 0 (zwC ad ca) D A 8 (zQ below D A (zwC ad ca) args s zV) (fX1_seekThrees_34 N k2 n x2 x3 x4 x5 σ) σ 34 [(0, .ref (ad 21)), (1, .ref (ad 7)), (2, .int x2), (3, .int x3), (4, .int x4), (5, .int x5)] [] := by
  intro n
  induction n with
  | zero =>
    intro x2 x3 x4 x5 σ
    exact z_none
  | succ n ih =>
    intro x2 x3 x4 x5 σ
    unfold fX1_seekThrees_34
    refine z_iload hc dX1_seekThrees_34 5 rfl ?_
    refine z_iload_n hc dX1_seekThrees_36 3 rfl ?_
    refine z_icmp_ge (tgt := 119) hc dX1_seekThrees_37 (by decide) ?_ ?_
    · refine z_iinc (v := (x3 + (1 : Int32))) (lv' := [(3, .int (x3 + (1 : Int32))), (0, .ref (ad 21)), (1, .ref (ad 7)), (2, .int x2), (4, .int x4), (5, .int x5)]) hc dX1_seekThrees_119 3 rfl rfl (by decide) rfl ?_
      refine z_goto (tgt := 2) hc dX1_seekThrees_122 (by decide) ?_
      refine z_sub [1, 2, 3, 0] rfl ?_
      exact hk2 _ _ _
    · refine z_iload hc dX1_seekThrees_40 4 rfl ?_
      refine z_iload hc dX1_seekThrees_42 5 rfl ?_
      refine z_runSNi (As := [.int x4, .int x5]) (rest := []) hc dX1_seekThrees_44 (fun _ _ h => tX7_bitAt h) mpX7_bitAt miX7_bitAt kmX1_48 ⟨rfl, rfl, Nat.le_of_ble_eq_true rfl, Nat.le_of_ble_eq_true rfl⟩ ⟨Nat.le_refl _, Nat.le_refl _⟩ rfl (Nat.le_of_ble_eq_true rfl) (fun b1 σ2 => ?_)
      refine z_if_ne (tgt := 53) hc dX1_seekThrees_47 (by decide) ?_ ?_
      · refine z_goto (tgt := 113) hc dX1_seekThrees_50 (by decide) ?_
        refine z_iinc (v := (x5 + (1 : Int32))) (lv' := [(5, .int (x5 + (1 : Int32))), (0, .ref (ad 21)), (1, .ref (ad 7)), (2, .int x2), (3, .int x3), (4, .int x4)]) hc dX1_seekThrees_113 5 rfl rfl (by decide) rfl ?_
        refine z_goto (tgt := 34) hc dX1_seekThrees_116 (by decide) ?_
        refine z_sub [1, 2, 3, 4, 5, 0] rfl ?_
        exact ih _ _ _ _ _
      · refine z_iload hc dX1_seekThrees_53 4 rfl ?_
        refine z_aload_n hc dX1_seekThrees_55 0 rfl ?_
        refine gfX1_9 hc dX1_seekThrees_56 ?_
        refine z_iload hc dX1_seekThrees_59 5 rfl ?_
        refine z_iaload hc 22 (by decide) rfl dX1_seekThrees_61 (fun v3 => ?_)
        refine z_iconst (v := (-1 : Int32)) hc dX1_seekThrees_62 (by decide) ?_
        refine z_ixor hc dX1_seekThrees_63 ?_
        refine z_iand hc dX1_seekThrees_64 ?_
        refine z_nm (fun v4 => ?_)
        refine z_istore (lv' := [(6, .int v4), (0, .ref (ad 21)), (1, .ref (ad 7)), (2, .int x2), (3, .int x3), (4, .int x4), (5, .int x5)]) hc dX1_seekThrees_65 (by decide) rfl ?_
        refine z_iconst (v := (0 : Int32)) hc dX1_seekThrees_67 (by decide) ?_
        refine z_istore (lv' := [(7, .int (0 : Int32)), (6, .int v4), (0, .ref (ad 21)), (1, .ref (ad 7)), (2, .int x2), (3, .int x3), (4, .int x4), (5, .int x5)]) hc dX1_seekThrees_68 (by decide) rfl ?_
        refine z_sub [2, 3, 4, 5, 6, 7, 1, 0] rfl ?_
        exact tX1_seekThrees_70 hc hr N _ _ hk2 (ih) N _ _ _ _ _ _ _
set_option maxRecDepth 100000 in
set_option maxHeartbeats 4000000 in
theorem tX1_seekThrees_2 {p : Program} {l : Launch} {e : Env} {s : State} {m : MethodId} {args : Array Value} {below : List Frame} {meth : Method} {c : Code} {D : va_G} {ca : Nat → ClassId} {xa ad : Nat → Nat} {A : Nat → Prop} (hc : zCx p s m args meth c cX1_seekThrees 8 RX1 D ca xa A (zwC ad ca)) (hr : meth.sig.returnType = none) (N : Nat)   : ∀ (n : Nat) (x2 : Int32) (x3 : Int32) (σ : zSt), zGO p l e rmX1_seekThrees s m args below meth c 0 0 (zwC ad ca) D A 8 (zQ below D A (zwC ad ca) args s zV) (fX1_seekThrees_2 N n x2 x3 σ) σ 2 [(0, .ref (ad 21)), (1, .ref (ad 7)), (2, .int x2), (3, .int x3)] [] := by
  intro n
  induction n with
  | zero =>
    intro x2 x3 σ
    exact z_none
  | succ n ih =>
    intro x2 x3 σ
    unfold fX1_seekThrees_2
    refine z_iload_n hc dX1_seekThrees_2 3 rfl ?_
    refine z_bipush (v := (20 : Int32)) hc dX1_seekThrees_3 (by decide) ?_
    refine z_icmp_ge (tgt := 125) hc dX1_seekThrees_5 (by decide) ?_ ?_
    · exact z_vret hc hr dX1_seekThrees_125
    · refine z_iload_n hc dX1_seekThrees_8 2 rfl ?_
      refine z_iload_n hc dX1_seekThrees_9 3 rfl ?_
      refine z_runSNi (As := [.int x2, .int x3]) (rest := []) hc dX1_seekThrees_10 (fun _ _ h => tX7_bitAt h) mpX7_bitAt miX7_bitAt kmX1_48 ⟨rfl, rfl, Nat.le_of_ble_eq_true rfl, Nat.le_of_ble_eq_true rfl⟩ ⟨Nat.le_refl _, Nat.le_refl _⟩ rfl (Nat.le_of_ble_eq_true rfl) (fun b1 σ2 => ?_)
      refine z_if_ne (tgt := 19) hc dX1_seekThrees_13 (by decide) ?_ ?_
      · refine z_goto (tgt := 119) hc dX1_seekThrees_16 (by decide) ?_
        refine z_iinc (v := (x3 + (1 : Int32))) (lv' := [(3, .int (x3 + (1 : Int32))), (0, .ref (ad 21)), (1, .ref (ad 7)), (2, .int x2)]) hc dX1_seekThrees_119 3 rfl rfl (by decide) rfl ?_
        refine z_goto (tgt := 2) hc dX1_seekThrees_122 (by decide) ?_
        refine z_sub [1, 2, 3, 0] rfl ?_
        exact ih _ _ _
      · refine z_iload_n hc dX1_seekThrees_19 2 rfl ?_
        refine z_aload_n hc dX1_seekThrees_20 0 rfl ?_
        refine gfX1_9 hc dX1_seekThrees_21 ?_
        refine z_iload_n hc dX1_seekThrees_24 3 rfl ?_
        refine z_iaload hc 22 (by decide) rfl dX1_seekThrees_25 (fun v3 => ?_)
        refine z_iconst (v := (-1 : Int32)) hc dX1_seekThrees_26 (by decide) ?_
        refine z_ixor hc dX1_seekThrees_27 ?_
        refine z_iand hc dX1_seekThrees_28 ?_
        refine z_nm (fun v4 => ?_)
        refine z_istore (lv' := [(4, .int v4), (0, .ref (ad 21)), (1, .ref (ad 7)), (2, .int x2), (3, .int x3)]) hc dX1_seekThrees_29 (by decide) rfl ?_
        refine z_iconst (v := (0 : Int32)) hc dX1_seekThrees_31 (by decide) ?_
        refine z_istore (lv' := [(5, .int (0 : Int32)), (4, .int v4), (0, .ref (ad 21)), (1, .ref (ad 7)), (2, .int x2), (3, .int x3)]) hc dX1_seekThrees_32 (by decide) rfl ?_
        refine z_sub [2, 3, 4, 5, 1, 0] rfl ?_
        exact tX1_seekThrees_34 hc hr N _ (ih) N _ _ _ _ _
set_option maxRecDepth 100000 in
set_option maxHeartbeats 4000000 in
theorem tX1_seekThrees {l : Launch} {D : va_G} {ca : Nat → ClassId} {xa ad : Nat → Nat} {A : Nat → Prop} {N : Nat} {x2 : Int32} {σ : zSt} {a : Unit} {τ : zSt} (h : fX1_seekThrees N x2 σ = some (a, τ)) : zCt l yX1_seekThrees cX1_seekThrees 8 none rmX1_seekThrees D ca xa A (zwC ad ca) [.ref (ad 21), .ref (ad 7), .int x2] σ (zV a) τ := by
  refine z_met (inj := zV) (lv := [(0, .ref (ad 21)), (1, .ref (ad 7)), (2, .int x2)]) (by decide) (Nat.le_of_ble_eq_true rfl) rfl ?_ h
  intro p e s m args below meth c hc hr
  unfold fX1_seekThrees
  refine z_iconst (v := (0 : Int32)) hc dX1_seekThrees_0 (by decide) ?_
  refine z_istore_n (lv' := [(3, .int (0 : Int32)), (0, .ref (ad 21)), (1, .ref (ad 7)), (2, .int x2)]) hc dX1_seekThrees_1 rfl (by decide) rfl ?_
  refine z_sub [1, 2, 3, 0] rfl ?_
  exact tX1_seekThrees_2 hc hr N N _ _ _
set_option maxRecDepth 100000 in
set_option maxHeartbeats 4000000 in
theorem tX1_seek {l : Launch} {D : va_G} {ca : Nat → ClassId} {xa ad : Nat → Nat} {A : Nat → Prop} {N : Nat} {x2 : Int32} {x3 : Int32} {σ : zSt} {a : Int32} {τ : zSt} (h : fX1_seek N x2 x3 σ = some (a, τ)) : zCt l yX1_seek cX1_seek 5 (some .int) rmX1_seek D ca xa A (zwC ad ca) [.ref (ad 21), .ref (ad 7), .int x2, .int x3] σ (zI a) τ := by
  refine z_met (inj := zI) (lv := [(0, .ref (ad 21)), (1, .ref (ad 7)), (2, .int x2), (3, .int x3)]) (by decide) (Nat.le_of_ble_eq_true rfl) rfl ?_ h
  intro p e s m args below meth c hc hr
  unfold fX1_seek
  refine z_aload_n hc dX1_seek_0 0 rfl ?_
  refine z_iload_n hc dX1_seek_1 2 rfl ?_
  refine pfX1_15 hc dX1_seek_2 (fun σ1 => ?_)
  refine z_aload_n hc dX1_seek_5 0 rfl ?_
  refine z_aload_n hc dX1_seek_6 1 rfl ?_
  refine z_runVNi (b0 := ad 7) (As := []) (rest := [.ref (ad 21)]) hc dX1_seek_7 (fun _ _ h => tX2_standing h) mpX2_standing miX2_standing kmX1_19 ⟨rfl, rfl, Nat.le_of_ble_eq_true rfl, Nat.le_of_ble_eq_true rfl⟩ ⟨Nat.le_refl _, Nat.le_refl _⟩ zcC_rc7 rfl (Nat.le_of_ble_eq_true rfl) (fun b2 σ3 => ?_)
  refine pfX1_25 hc dX1_seek_10 (fun σ4 => ?_)
  refine z_aload_n hc dX1_seek_13 0 rfl ?_
  refine z_iload_n hc dX1_seek_14 3 rfl ?_
  refine pfX1_27 hc dX1_seek_15 (fun σ5 => ?_)
  refine z_aload_n hc dX1_seek_18 0 rfl ?_
  refine z_iconst (v := (0 : Int32)) hc dX1_seek_19 (by decide) ?_
  refine pfX1_30 hc dX1_seek_20 (fun σ6 => ?_)
  refine z_aload_n hc dX1_seek_23 0 rfl ?_
  refine z_ldc hc dX1_seek_24 kcX1_33 ?_
  refine pfX1_34 hc dX1_seek_26 (fun σ7 => ?_)
  refine z_aload_n hc dX1_seek_29 0 rfl ?_
  refine gfX1_25 hc dX1_seek_30 ?_
  refine z_aload_n hc dX1_seek_33 0 rfl ?_
  refine z_aload_n hc dX1_seek_34 1 rfl ?_
  refine z_runVi (b0 := ad 21) (As := [.ref (ad 7)]) (rest := [.int (σ7.1 21 2)]) hc dX1_seek_35 (fun _ _ h => tX1_seekOnes h) mpX1_seekOnes miX1_seekOnes kmX1_37 ⟨rfl, rfl, Nat.le_of_ble_eq_true rfl, Nat.le_of_ble_eq_true rfl⟩ ⟨Nat.le_refl _, Nat.le_refl _⟩ zcC_rc21 rfl (Nat.le_of_ble_eq_true rfl) (fun b8 σ9 => ?_)
  refine z_iconst (v := (-1 : Int32)) hc dX1_seek_38 (by decide) ?_
  refine z_ixor hc dX1_seek_39 ?_
  refine z_iand hc dX1_seek_40 ?_
  refine z_nm (fun v10 => ?_)
  refine z_istore (lv' := [(4, .int v10), (0, .ref (ad 21)), (1, .ref (ad 7)), (2, .int x2), (3, .int x3)]) hc dX1_seek_41 (by decide) rfl ?_
  refine z_aload_n hc dX1_seek_43 1 rfl ?_
  refine z_aload_n hc dX1_seek_44 2 rfl ?_
  refine z_iload hc dX1_seek_45 0 rfl ?_
  refine z_runVv (b0 := ad 21) (As := [.ref (ad 7), .int v10]) (rest := []) hc dX1_seek_47 (fun _ _ h => tX1_seekTwos h) mpX1_seekTwos miX1_seekTwos kmX1_41 ⟨rfl, rfl, Nat.le_of_ble_eq_true rfl, Nat.le_of_ble_eq_true rfl⟩ ⟨Nat.le_refl _, Nat.le_refl _⟩ zcC_rc21 rfl (Nat.le_of_ble_eq_true rfl) (fun b11 σ12 => ?_)
  refine z_aload_n hc dX1_seek_50 1 rfl ?_
  refine z_aload_n hc dX1_seek_51 2 rfl ?_
  refine z_iload hc dX1_seek_52 0 rfl ?_
  refine z_runVv (b0 := ad 21) (As := [.ref (ad 7), .int v10]) (rest := []) hc dX1_seek_54 (fun _ _ h => tX1_seekThrees h) mpX1_seekThrees miX1_seekThrees kmX1_45 ⟨rfl, rfl, Nat.le_of_ble_eq_true rfl, Nat.le_of_ble_eq_true rfl⟩ ⟨Nat.le_refl _, Nat.le_refl _⟩ zcC_rc21 rfl (Nat.le_of_ble_eq_true rfl) (fun b13 σ14 => ?_)
  refine z_iload_n hc dX1_seek_57 4 rfl ?_
  refine z_if_ge (tgt := 68) hc dX1_seek_58 (by decide) ?_ ?_
  · refine z_aload_n hc dX1_seek_68 1 rfl ?_
    refine gfX1_34 hc dX1_seek_69 ?_
    exact z_iret hc hr dX1_seek_72
  · refine z_aload_n hc dX1_seek_61 1 rfl ?_
    refine gfX1_30 hc dX1_seek_62 ?_
    refine z_goto (tgt := 72) hc dX1_seek_65 (by decide) ?_
    exact z_iret hc hr dX1_seek_72
set_option maxRecDepth 100000 in
set_option maxHeartbeats 4000000 in
theorem tX7_felling {l : Launch} {D : va_G} {ca : Nat → ClassId} {xa ad : Nat → Nat} {A : Nat → Prop} {N : Nat} {x1 : Int32} {x2 : Int32} {σ : zSt} {a : Int32} {τ : zSt} (h : fX7_felling N x1 x2 σ = some (a, τ)) : zCt l yX7_felling cX7_felling 3 (some .int) rmX7_felling D ca xa A (zwC ad ca) [.ref (ad 0), .int x1, .int x2] σ (zI a) τ := by
  refine z_met (inj := zI) (lv := [(0, .ref (ad 0)), (1, .int x1), (2, .int x2)]) (by decide) (Nat.le_of_ble_eq_true rfl) rfl ?_ h
  intro p e s m args below meth c hc hr
  unfold fX7_felling
  refine z_aload_n hc dX7_felling_0 0 rfl ?_
  refine gfX7_26 hc dX7_felling_1 ?_
  refine z_iload_n hc dX7_felling_4 1 rfl ?_
  refine z_runVNi (b0 := ad 7) (As := [.int x1]) (rest := []) hc dX7_felling_5 (fun _ _ h => tX2_isClaim h) mpX2_isClaim miX2_isClaim kmX7_128 ⟨rfl, rfl, Nat.le_of_ble_eq_true rfl, Nat.le_of_ble_eq_true rfl⟩ ⟨Nat.le_refl _, Nat.le_refl _⟩ zcC_rc7 rfl (Nat.le_of_ble_eq_true rfl) (fun b1 σ2 => ?_)
  refine z_if_eq (tgt := 16) hc dX7_felling_8 (by decide) ?_ ?_
  · refine z_ldc hc dX7_felling_16 kcX7_66 ?_
    exact z_iret hc hr dX7_felling_18
  · refine z_iload_n hc dX7_felling_11 2 rfl ?_
    refine z_iconst (v := (-1 : Int32)) hc dX7_felling_12 (by decide) ?_
    refine z_icmp_ge (tgt := 19) hc dX7_felling_13 (by decide) ?_ ?_
    · refine z_aload_n hc dX7_felling_19 0 rfl ?_
      refine gfX7_26 hc dX7_felling_20 ?_
      refine z_runVNi (b0 := ad 7) (As := []) (rest := []) hc dX7_felling_23 (fun _ _ h => tX2_shownNow h) mpX2_shownNow miX2_shownNow kmX7_148 ⟨rfl, rfl, Nat.le_of_ble_eq_true rfl, Nat.le_of_ble_eq_true rfl⟩ ⟨Nat.le_refl _, Nat.le_refl _⟩ zcC_rc7 rfl (Nat.le_of_ble_eq_true rfl) (fun b3 σ4 => ?_)
      refine z_iload_n hc dX7_felling_26 1 rfl ?_
      refine z_runSi (As := [.int b3, .int x1]) (rest := []) hc dX7_felling_27 (fun _ _ h => tX7_bitAt h) mpX7_bitAt miX7_bitAt kmX7_152 ⟨rfl, rfl, Nat.le_of_ble_eq_true rfl, Nat.le_of_ble_eq_true rfl⟩ ⟨Nat.le_refl _, Nat.le_refl _⟩ rfl (Nat.le_of_ble_eq_true rfl) (fun b5 σ6 => ?_)
      refine z_if_ne (tgt := 36) hc dX7_felling_30 (by decide) ?_ ?_
      · refine z_ldc hc dX7_felling_33 kcX7_213 ?_
        exact z_iret hc hr dX7_felling_35
      · refine z_aload_n hc dX7_felling_36 0 rfl ?_
        refine gfX7_33 hc dX7_felling_37 ?_
        refine z_aload_n hc dX7_felling_40 0 rfl ?_
        refine gfX7_26 hc dX7_felling_41 ?_
        refine z_iload_n hc dX7_felling_44 1 rfl ?_
        refine z_iload_n hc dX7_felling_45 2 rfl ?_
        refine z_runVNi (b0 := ad 21) (As := [.ref (ad 7), .int x1, .int x2]) (rest := []) hc dX7_felling_46 (fun _ _ h => tX1_seek h) mpX1_seek miX1_seek kmX7_214 ⟨rfl, rfl, Nat.le_of_ble_eq_true rfl, Nat.le_of_ble_eq_true rfl⟩ ⟨Nat.le_refl _, Nat.le_refl _⟩ zcC_rc21 rfl (Nat.le_of_ble_eq_true rfl) (fun b7 σ8 => ?_)
        exact z_iret hc hr dX7_felling_49
    · refine z_ldc hc dX7_felling_16 kcX7_66 ?_
      exact z_iret hc hr dX7_felling_18
set_option maxRecDepth 100000 in
set_option maxHeartbeats 4000000 in
theorem tX8_isClaim {l : Launch} {D : va_G} {ca : Nat → ClassId} {xa ad : Nat → Nat} {A : Nat → Prop} {N : Nat} {x1 : Int32} {σ : zSt} {a : Int32} {τ : zSt} (h : fX8_isClaim N x1 σ = some (a, τ)) : zCt l yX8_isClaim cX8_isClaim 2 (some .boolean) rmX8_isClaim D ca xa A (zwM ad ca) [.ref (ad 0), .int x1] σ (zI a) τ := by
  refine z_met (inj := zI) (lv := [(0, .ref (ad 0)), (1, .int x1)]) (by decide) (Nat.le_of_ble_eq_true rfl) rfl ?_ h
  intro p e s m args below meth c hc hr
  unfold fX8_isClaim
  refine z_aload_n hc dX8_isClaim_0 0 rfl ?_
  refine z_iload_n hc dX8_isClaim_1 1 rfl ?_
  refine z_runVi (b0 := ad 0) (As := [.int x1]) (rest := []) hc dX8_isClaim_2 (fun _ _ h => tX8_isNode h) mpX8_isNode miX8_isNode kmX8_204 ⟨rfl, rfl, Nat.le_of_ble_eq_true rfl, Nat.le_of_ble_eq_true rfl⟩ ⟨Nat.le_refl _, Nat.le_refl _⟩ zcM_rc0 rfl (Nat.le_of_ble_eq_true rfl) (fun b1 σ2 => ?_)
  refine z_if_eq (tgt := 22) hc dX8_isClaim_5 (by decide) ?_ ?_
  · refine z_iconst (v := (0 : Int32)) hc dX8_isClaim_22 (by decide) ?_
    exact z_zret hc hr dX8_isClaim_23
  · refine z_aload_n hc dX8_isClaim_8 0 rfl ?_
    refine gfX8_19 hc dX8_isClaim_9 ?_
    refine z_iload_n hc dX8_isClaim_12 1 rfl ?_
    refine z_iaload hc 4 (by decide) rfl dX8_isClaim_13 (fun v3 => ?_)
    refine z_iconst (v := (2 : Int32)) hc dX8_isClaim_14 (by decide) ?_
    refine z_icmp_ne (tgt := 22) hc dX8_isClaim_15 (by decide) ?_ ?_
    · refine z_iconst (v := (1 : Int32)) hc dX8_isClaim_18 (by decide) ?_
      refine z_goto (tgt := 23) hc dX8_isClaim_19 (by decide) ?_
      exact z_zret hc hr dX8_isClaim_23
    · refine z_iconst (v := (0 : Int32)) hc dX8_isClaim_22 (by decide) ?_
      exact z_zret hc hr dX8_isClaim_23
set_option maxRecDepth 100000 in
set_option maxHeartbeats 4000000 in
theorem tX8_isFelled {l : Launch} {D : va_G} {ca : Nat → ClassId} {xa ad : Nat → Nat} {A : Nat → Prop} {N : Nat} {x1 : Int32} {x2 : Int32} {σ : zSt} {a : Int32} {τ : zSt} (h : fX8_isFelled N x1 x2 σ = some (a, τ)) : zCt l yX8_isFelled cX8_isFelled 3 (some .boolean) rmX8_isFelled D ca xa A (zwM ad ca) [.ref (ad 0), .int x1, .int x2] σ (zI a) τ := by
  refine z_met (inj := zI) (lv := [(0, .ref (ad 0)), (1, .int x1), (2, .int x2)]) (by decide) (Nat.le_of_ble_eq_true rfl) rfl ?_ h
  intro p e s m args below meth c hc hr
  unfold fX8_isFelled
  refine z_aload_n hc dX8_isFelled_0 0 rfl ?_
  refine z_aload_n hc dX8_isFelled_1 0 rfl ?_
  refine z_runVi (b0 := ad 0) (As := []) (rest := [.ref (ad 0)]) hc dX8_isFelled_2 (fun _ _ h => tX8_standing h) mpX8_standing miX8_standing kmX8_225 ⟨rfl, rfl, Nat.le_of_ble_eq_true rfl, Nat.le_of_ble_eq_true rfl⟩ ⟨Nat.le_refl _, Nat.le_refl _⟩ zcM_rc0 rfl (Nat.le_of_ble_eq_true rfl) (fun b1 σ2 => ?_)
  refine z_iload_n hc dX8_isFelled_5 2 rfl ?_
  refine z_iconst (v := (-1 : Int32)) hc dX8_isFelled_6 (by decide) ?_
  refine z_ixor hc dX8_isFelled_7 ?_
  refine z_iand hc dX8_isFelled_8 ?_
  refine z_ldc hc dX8_isFelled_9 kcX8_114 ?_
  refine z_runVi (b0 := ad 0) (As := [.int (b1 &&& (x2 ^^^ (-1 : Int32))), .int (-1000000 : Int32)]) (rest := []) hc dX8_isFelled_11 (fun _ _ h => tX8_shownBy h) mpX8_shownBy miX8_shownBy kmX8_228 ⟨rfl, rfl, Nat.le_of_ble_eq_true rfl, Nat.le_of_ble_eq_true rfl⟩ ⟨Nat.le_refl _, Nat.le_refl _⟩ zcM_rc0 rfl (Nat.le_of_ble_eq_true rfl) (fun b3 σ4 => ?_)
  refine z_iload_n hc dX8_isFelled_14 1 rfl ?_
  refine z_ishr hc dX8_isFelled_15 ?_
  refine z_iconst (v := (1 : Int32)) hc dX8_isFelled_16 (by decide) ?_
  refine z_iand hc dX8_isFelled_17 ?_
  refine z_if_ne (tgt := 25) hc dX8_isFelled_18 (by decide) ?_ ?_
  · refine z_iconst (v := (1 : Int32)) hc dX8_isFelled_21 (by decide) ?_
    refine z_goto (tgt := 26) hc dX8_isFelled_22 (by decide) ?_
    exact z_zret hc hr dX8_isFelled_26
  · refine z_iconst (v := (0 : Int32)) hc dX8_isFelled_25 (by decide) ?_
    exact z_zret hc hr dX8_isFelled_26
set_option maxRecDepth 100000 in
set_option maxHeartbeats 4000000 in
theorem tX8_isFelling_48 {p : Program} {l : Launch} {e : Env} {s : State} {m : MethodId} {args : Array Value} {below : List Frame} {meth : Method} {c : Code} {D : va_G} {ca : Nat → ClassId} {xa ad : Nat → Nat} {A : Nat → Prop} (hc : zCx p s m args meth c cX8_isFelling 5 RX8 D ca xa A (zwM ad ca)) (hr : meth.sig.returnType = (some .boolean)) (N : Nat) (k10 : Int32 → Int32 → Int32 → Int32 → zSt → Option (Int32 × zSt)) (hk10 : ∀ (x1 : Int32) (x2 : Int32) (x3 : Int32) (x4 : Int32) (σ : zSt), zGO p l e rmX8_isFelling s m args below meth c 0 0 (zwM ad ca) D A 5 (zQ below D A (zwM ad ca) args s zI) (k10 x1 x2 x3 x4 σ) σ 10 [(0, .ref (ad 0)), (1, .int x1), (2, .int x2), (3, .int x3), (4, .int x4)] []) (x1 : Int32) (x2 : Int32) (x4 : Int32) (σ : zSt) : zGO p l e rmX8_isFelling s m args below meth c 0 0 (zwM ad ca) D A 5 (zQ below D A (zwM ad ca) args s zI) (fX8_isFelling_48 N k10 x1 x2 x4 σ) σ 48 [(0, .ref (ad 0)), (1, .int x1), (2, .int x2), (4, .int x4)] [] := by
  unfold fX8_isFelling_48
  refine z_iconst (v := (1 : Int32)) hc dX8_isFelling_48 (by decide) ?_
  refine z_goto (tgt := 53) hc dX8_isFelling_49 (by decide) ?_
  refine z_istore_n (lv' := [(3, .int (1 : Int32)), (0, .ref (ad 0)), (1, .int x1), (2, .int x2), (4, .int x4)]) hc dX8_isFelling_53 rfl (by decide) rfl ?_
  refine z_iinc (v := (x4 + (1 : Int32))) (lv' := [(4, .int (x4 + (1 : Int32))), (3, .int (1 : Int32)), (0, .ref (ad 0)), (1, .int x1), (2, .int x2)]) hc dX8_isFelling_54 4 rfl rfl (by decide) rfl ?_
  refine z_goto (tgt := 10) hc dX8_isFelling_57 (by decide) ?_
  refine z_sub [2, 3, 4, 1, 0] rfl ?_
  exact hk10 _ _ _ _ _
set_option maxRecDepth 100000 in
set_option maxHeartbeats 4000000 in
theorem tX8_isFelling_10 {p : Program} {l : Launch} {e : Env} {s : State} {m : MethodId} {args : Array Value} {below : List Frame} {meth : Method} {c : Code} {D : va_G} {ca : Nat → ClassId} {xa ad : Nat → Nat} {A : Nat → Prop} (hc : zCx p s m args meth c cX8_isFelling 5 RX8 D ca xa A (zwM ad ca)) (hr : meth.sig.returnType = (some .boolean)) (N : Nat)   : ∀ (n : Nat) (x1 : Int32) (x2 : Int32) (x3 : Int32) (x4 : Int32) (σ : zSt), zGO p l e rmX8_isFelling s m args below meth c 0 0 (zwM ad ca) D A 5 (zQ below D A (zwM ad ca) args s zI) (fX8_isFelling_10 N n x1 x2 x3 x4 σ) σ 10 [(0, .ref (ad 0)), (1, .int x1), (2, .int x2), (3, .int x3), (4, .int x4)] [] := by
  intro n
  induction n with
  | zero =>
    intro x1 x2 x3 x4 σ
    exact z_none
  | succ n ih =>
    intro x1 x2 x3 x4 σ
    unfold fX8_isFelling_10
    refine z_iload hc dX8_isFelling_10 4 rfl ?_
    refine z_aload_n hc dX8_isFelling_12 0 rfl ?_
    refine gfX8_185 hc dX8_isFelling_13 ?_
    refine z_icmp_ge (tgt := 60) hc dX8_isFelling_16 (by decide) ?_ ?_
    · refine z_iload_n hc dX8_isFelling_60 3 rfl ?_
      exact z_zret hc hr dX8_isFelling_61
    · refine z_iload_n hc dX8_isFelling_19 3 rfl ?_
      refine z_if_eq (tgt := 60) hc dX8_isFelling_20 (by decide) ?_ ?_
      · refine z_iload_n hc dX8_isFelling_60 3 rfl ?_
        exact z_zret hc hr dX8_isFelling_61
      · refine z_iload_n hc dX8_isFelling_23 2 rfl ?_
        refine z_iload hc dX8_isFelling_24 4 rfl ?_
        refine z_ishr hc dX8_isFelling_26 ?_
        refine z_iconst (v := (1 : Int32)) hc dX8_isFelling_27 (by decide) ?_
        refine z_iand hc dX8_isFelling_28 ?_
        refine z_if_eq (tgt := 48) hc dX8_isFelling_29 (by decide) ?_ ?_
        · refine z_sub [0, 1, 2, 4] rfl ?_
          exact tX8_isFelling_48 hc hr N _ (ih) _ _ _ _
        · refine z_aload_n hc dX8_isFelling_32 0 rfl ?_
          refine z_iload_n hc dX8_isFelling_33 1 rfl ?_
          refine z_iload_n hc dX8_isFelling_34 2 rfl ?_
          refine z_iconst (v := (1 : Int32)) hc dX8_isFelling_35 (by decide) ?_
          refine z_iload hc dX8_isFelling_36 4 rfl ?_
          refine z_ishl hc dX8_isFelling_38 ?_
          refine z_iconst (v := (-1 : Int32)) hc dX8_isFelling_39 (by decide) ?_
          refine z_ixor hc dX8_isFelling_40 ?_
          refine z_iand hc dX8_isFelling_41 ?_
          refine z_runVi (b0 := ad 0) (As := [.int x1, .int (x2 &&& (((1 : Int32) <<< (x4 &&& 31)) ^^^ (-1 : Int32)))]) (rest := []) hc dX8_isFelling_42 (fun _ _ h => tX8_isFelled h) mpX8_isFelled miX8_isFelled kmX8_241 ⟨rfl, rfl, Nat.le_of_ble_eq_true rfl, Nat.le_of_ble_eq_true rfl⟩ ⟨Nat.le_refl _, Nat.le_refl _⟩ zcM_rc0 rfl (Nat.le_of_ble_eq_true rfl) (fun b1 σ2 => ?_)
          refine z_if_ne (tgt := 52) hc dX8_isFelling_45 (by decide) ?_ ?_
          · refine z_sub [0, 1, 2, 4] rfl ?_
            exact tX8_isFelling_48 hc hr N _ (ih) _ _ _ _
          · refine z_iconst (v := (0 : Int32)) hc dX8_isFelling_52 (by decide) ?_
            refine z_istore_n (lv' := [(3, .int (0 : Int32)), (0, .ref (ad 0)), (1, .int x1), (2, .int x2), (4, .int x4)]) hc dX8_isFelling_53 rfl (by decide) rfl ?_
            refine z_iinc (v := (x4 + (1 : Int32))) (lv' := [(4, .int (x4 + (1 : Int32))), (3, .int (0 : Int32)), (0, .ref (ad 0)), (1, .int x1), (2, .int x2)]) hc dX8_isFelling_54 4 rfl rfl (by decide) rfl ?_
            refine z_goto (tgt := 10) hc dX8_isFelling_57 (by decide) ?_
            refine z_sub [2, 3, 4, 1, 0] rfl ?_
            exact ih _ _ _ _ _
set_option maxRecDepth 100000 in
set_option maxHeartbeats 4000000 in
theorem tX8_isFelling {l : Launch} {D : va_G} {ca : Nat → ClassId} {xa ad : Nat → Nat} {A : Nat → Prop} {N : Nat} {x1 : Int32} {x2 : Int32} {σ : zSt} {a : Int32} {τ : zSt} (h : fX8_isFelling N x1 x2 σ = some (a, τ)) : zCt l yX8_isFelling cX8_isFelling 5 (some .boolean) rmX8_isFelling D ca xa A (zwM ad ca) [.ref (ad 0), .int x1, .int x2] σ (zI a) τ := by
  refine z_met (inj := zI) (lv := [(0, .ref (ad 0)), (1, .int x1), (2, .int x2)]) (by decide) (Nat.le_of_ble_eq_true rfl) rfl ?_ h
  intro p e s m args below meth c hc hr
  unfold fX8_isFelling
  refine z_aload_n hc dX8_isFelling_0 0 rfl ?_
  refine z_iload_n hc dX8_isFelling_1 1 rfl ?_
  refine z_iload_n hc dX8_isFelling_2 2 rfl ?_
  refine z_runVi (b0 := ad 0) (As := [.int x1, .int x2]) (rest := []) hc dX8_isFelling_3 (fun _ _ h => tX8_isFelled h) mpX8_isFelled miX8_isFelled kmX8_241 ⟨rfl, rfl, Nat.le_of_ble_eq_true rfl, Nat.le_of_ble_eq_true rfl⟩ ⟨Nat.le_refl _, Nat.le_refl _⟩ zcM_rc0 rfl (Nat.le_of_ble_eq_true rfl) (fun b1 σ2 => ?_)
  refine z_istore_n (lv' := [(3, .int b1), (0, .ref (ad 0)), (1, .int x1), (2, .int x2)]) hc dX8_isFelling_6 rfl (by decide) rfl ?_
  refine z_iconst (v := (0 : Int32)) hc dX8_isFelling_7 (by decide) ?_
  refine z_istore (lv' := [(4, .int (0 : Int32)), (3, .int b1), (0, .ref (ad 0)), (1, .int x1), (2, .int x2)]) hc dX8_isFelling_8 (by decide) rfl ?_
  refine z_sub [2, 3, 4, 1, 0] rfl ?_
  exact tX8_isFelling_10 hc hr N N _ _ _ _ _
set_option maxRecDepth 100000 in
set_option maxHeartbeats 4000000 in
theorem tX8_felling_191 {p : Program} {l : Launch} {e : Env} {s : State} {m : MethodId} {args : Array Value} {below : List Frame} {meth : Method} {c : Code} {D : va_G} {ca : Nat → ClassId} {xa ad : Nat → Nat} {A : Nat → Prop} (hc : zCx p s m args meth c cX8_felling 11 RX8 D ca xa A (zwM ad ca)) (hr : meth.sig.returnType = (some .int)) (N : Nat) (k46 : Int32 → Int32 → Int32 → Int32 → Int32 → zSt → Option (Int32 × zSt)) (k65 : Int32 → Int32 → Int32 → Int32 → Int32 → Int32 → zSt → Option (Int32 × zSt)) (k97 : Int32 → Int32 → Int32 → Int32 → Int32 → Int32 → Int32 → zSt → Option (Int32 × zSt)) (k119 : Int32 → Int32 → Int32 → Int32 → Int32 → Int32 → Int32 → Int32 → zSt → Option (Int32 × zSt)) (hk46 : ∀ (x1 : Int32) (x2 : Int32) (x3 : Int32) (x4 : Int32) (x5 : Int32) (σ : zSt), zGO p l e rmX8_felling s m args below meth c 0 0 (zwM ad ca) D A 11 (zQ below D A (zwM ad ca) args s zI) (k46 x1 x2 x3 x4 x5 σ) σ 46 [(0, .ref (ad 0)), (1, .int x1), (2, .int x2), (3, .int x3), (4, .int x4), (5, .int x5)] []) (hk65 : ∀ (x1 : Int32) (x2 : Int32) (x3 : Int32) (x4 : Int32) (x5 : Int32) (x6 : Int32) (σ : zSt), zGO p l e rmX8_felling s m args below meth c 0 0 (zwM ad ca) D A 11 (zQ below D A (zwM ad ca) args s zI) (k65 x1 x2 x3 x4 x5 x6 σ) σ 65 [(0, .ref (ad 0)), (1, .int x1), (2, .int x2), (3, .int x3), (4, .int x4), (5, .int x5), (6, .int x6)] []) (hk97 : ∀ (x1 : Int32) (x2 : Int32) (x3 : Int32) (x4 : Int32) (x5 : Int32) (x6 : Int32) (x7 : Int32) (σ : zSt), zGO p l e rmX8_felling s m args below meth c 0 0 (zwM ad ca) D A 11 (zQ below D A (zwM ad ca) args s zI) (k97 x1 x2 x3 x4 x5 x6 x7 σ) σ 97 [(0, .ref (ad 0)), (1, .int x1), (2, .int x2), (3, .int x3), (4, .int x4), (5, .int x5), (6, .int x6), (7, .int x7)] []) (hk119 : ∀ (x1 : Int32) (x2 : Int32) (x3 : Int32) (x4 : Int32) (x5 : Int32) (x6 : Int32) (x7 : Int32) (x8 : Int32) (σ : zSt), zGO p l e rmX8_felling s m args below meth c 0 0 (zwM ad ca) D A 11 (zQ below D A (zwM ad ca) args s zI) (k119 x1 x2 x3 x4 x5 x6 x7 x8 σ) σ 119 [(0, .ref (ad 0)), (1, .int x1), (2, .int x2), (3, .int x3), (4, .int x4), (5, .int x5), (6, .int x6), (7, .int x7), (8, .int x8)] []) (x1 : Int32) (x2 : Int32) (x3 : Int32) (x4 : Int32) (x5 : Int32) (x6 : Int32) (x7 : Int32) (x8 : Int32) (x9 : Int32) (s0 : Int32) (σ : zSt) : zGO p l e rmX8_felling s m args below meth c 0 0 (zwM ad ca) D A 11 (zQ below D A (zwM ad ca) args s zI) (fX8_felling_191 N k46 k65 k97 k119 x1 x2 x3 x4 x5 x6 x7 x8 x9 s0 σ) σ 191 [(0, .ref (ad 0)), (1, .int x1), (2, .int x2), (3, .int x3), (4, .int x4), (5, .int x5), (6, .int x6), (7, .int x7), (8, .int x8), (9, .int x9)] [.int s0] := by
  unfold fX8_felling_191
  refine z_istore (lv' := [(10, .int s0), (0, .ref (ad 0)), (1, .int x1), (2, .int x2), (3, .int x3), (4, .int x4), (5, .int x5), (6, .int x6), (7, .int x7), (8, .int x8), (9, .int x9)]) hc dX8_felling_191 (by decide) rfl ?_
  refine z_iload hc dX8_felling_193 0 rfl ?_
  refine z_if_eq (tgt := 229) hc dX8_felling_195 (by decide) ?_ ?_
  · refine z_iinc (v := (x8 + (1 : Int32))) (lv' := [(8, .int (x8 + (1 : Int32))), (10, .int s0), (0, .ref (ad 0)), (1, .int x1), (2, .int x2), (3, .int x3), (4, .int x4), (5, .int x5), (6, .int x6), (7, .int x7), (9, .int x9)]) hc dX8_felling_229 9 rfl rfl (by decide) rfl ?_
    refine z_goto (tgt := 119) hc dX8_felling_232 (by decide) ?_
    refine z_sub [2, 3, 4, 5, 6, 7, 8, 9, 0] rfl ?_
    exact hk119 _ _ _ _ _ _ _ _ _
  · refine z_iload hc dX8_felling_198 10 rfl ?_
    refine z_iload_n hc dX8_felling_200 4 rfl ?_
    refine z_iconst (v := (-1 : Int32)) hc dX8_felling_201 (by decide) ?_
    refine z_ixor hc dX8_felling_202 ?_
    refine z_iand hc dX8_felling_203 ?_
    refine z_if_ne (tgt := 229) hc dX8_felling_204 (by decide) ?_ ?_
    · refine z_aload_n hc dX8_felling_207 1 rfl ?_
      refine z_iload_n hc dX8_felling_208 2 rfl ?_
      refine z_iload hc dX8_felling_209 10 rfl ?_
      refine z_runVi (b0 := ad 0) (As := [.int x1, .int x9]) (rest := []) hc dX8_felling_211 (fun _ _ h => tX8_isFelling h) mpX8_isFelling miX8_isFelling kmX8_248 ⟨rfl, rfl, Nat.le_of_ble_eq_true rfl, Nat.le_of_ble_eq_true rfl⟩ ⟨Nat.le_refl _, Nat.le_refl _⟩ zcM_rc0 rfl (Nat.le_of_ble_eq_true rfl) (fun b1 σ2 => ?_)
      refine z_if_eq (tgt := 229) hc dX8_felling_214 (by decide) ?_ ?_
      · refine z_iinc (v := (x8 + (1 : Int32))) (lv' := [(8, .int (x8 + (1 : Int32))), (10, .int s0), (0, .ref (ad 0)), (1, .int x1), (2, .int x2), (3, .int x3), (4, .int x4), (5, .int x5), (6, .int x6), (7, .int x7), (9, .int x9)]) hc dX8_felling_229 9 rfl rfl (by decide) rfl ?_
        refine z_goto (tgt := 119) hc dX8_felling_232 (by decide) ?_
        refine z_sub [2, 3, 4, 5, 6, 7, 8, 9, 0] rfl ?_
        exact hk119 _ _ _ _ _ _ _ _ _
      · refine z_iload hc dX8_felling_217 5 rfl ?_
        refine z_iload_n hc dX8_felling_219 3 rfl ?_
        refine z_icmp_ne (tgt := 226) hc dX8_felling_220 (by decide) ?_ ?_
        · refine z_iload hc dX8_felling_223 10 rfl ?_
          exact z_iret hc hr dX8_felling_225
        · refine z_iinc (v := (x4 + (1 : Int32))) (lv' := [(4, .int (x4 + (1 : Int32))), (10, .int s0), (0, .ref (ad 0)), (1, .int x1), (2, .int x2), (3, .int x3), (5, .int x5), (6, .int x6), (7, .int x7), (8, .int x8), (9, .int x9)]) hc dX8_felling_226 5 rfl rfl (by decide) rfl ?_
          refine z_iinc (v := (x8 + (1 : Int32))) (lv' := [(8, .int (x8 + (1 : Int32))), (4, .int (x4 + (1 : Int32))), (10, .int s0), (0, .ref (ad 0)), (1, .int x1), (2, .int x2), (3, .int x3), (5, .int x5), (6, .int x6), (7, .int x7), (9, .int x9)]) hc dX8_felling_229 9 rfl rfl (by decide) rfl ?_
          refine z_goto (tgt := 119) hc dX8_felling_232 (by decide) ?_
          refine z_sub [3, 4, 5, 6, 1, 7, 8, 9, 0] rfl ?_
          exact hk119 _ _ _ _ _ _ _ _ _
    · refine z_iinc (v := (x8 + (1 : Int32))) (lv' := [(8, .int (x8 + (1 : Int32))), (10, .int s0), (0, .ref (ad 0)), (1, .int x1), (2, .int x2), (3, .int x3), (4, .int x4), (5, .int x5), (6, .int x6), (7, .int x7), (9, .int x9)]) hc dX8_felling_229 9 rfl rfl (by decide) rfl ?_
      refine z_goto (tgt := 119) hc dX8_felling_232 (by decide) ?_
      refine z_sub [2, 3, 4, 5, 6, 7, 8, 9, 0] rfl ?_
      exact hk119 _ _ _ _ _ _ _ _ _
set_option maxRecDepth 100000 in
set_option maxHeartbeats 4000000 in
theorem tX8_felling_186 {p : Program} {l : Launch} {e : Env} {s : State} {m : MethodId} {args : Array Value} {below : List Frame} {meth : Method} {c : Code} {D : va_G} {ca : Nat → ClassId} {xa ad : Nat → Nat} {A : Nat → Prop} (hc : zCx p s m args meth c cX8_felling 11 RX8 D ca xa A (zwM ad ca)) (hr : meth.sig.returnType = (some .int)) (N : Nat) (k46 : Int32 → Int32 → Int32 → Int32 → Int32 → zSt → Option (Int32 × zSt)) (k65 : Int32 → Int32 → Int32 → Int32 → Int32 → Int32 → zSt → Option (Int32 × zSt)) (k97 : Int32 → Int32 → Int32 → Int32 → Int32 → Int32 → Int32 → zSt → Option (Int32 × zSt)) (k119 : Int32 → Int32 → Int32 → Int32 → Int32 → Int32 → Int32 → Int32 → zSt → Option (Int32 × zSt)) (hk46 : ∀ (x1 : Int32) (x2 : Int32) (x3 : Int32) (x4 : Int32) (x5 : Int32) (σ : zSt), zGO p l e rmX8_felling s m args below meth c 0 0 (zwM ad ca) D A 11 (zQ below D A (zwM ad ca) args s zI) (k46 x1 x2 x3 x4 x5 σ) σ 46 [(0, .ref (ad 0)), (1, .int x1), (2, .int x2), (3, .int x3), (4, .int x4), (5, .int x5)] []) (hk65 : ∀ (x1 : Int32) (x2 : Int32) (x3 : Int32) (x4 : Int32) (x5 : Int32) (x6 : Int32) (σ : zSt), zGO p l e rmX8_felling s m args below meth c 0 0 (zwM ad ca) D A 11 (zQ below D A (zwM ad ca) args s zI) (k65 x1 x2 x3 x4 x5 x6 σ) σ 65 [(0, .ref (ad 0)), (1, .int x1), (2, .int x2), (3, .int x3), (4, .int x4), (5, .int x5), (6, .int x6)] []) (hk97 : ∀ (x1 : Int32) (x2 : Int32) (x3 : Int32) (x4 : Int32) (x5 : Int32) (x6 : Int32) (x7 : Int32) (σ : zSt), zGO p l e rmX8_felling s m args below meth c 0 0 (zwM ad ca) D A 11 (zQ below D A (zwM ad ca) args s zI) (k97 x1 x2 x3 x4 x5 x6 x7 σ) σ 97 [(0, .ref (ad 0)), (1, .int x1), (2, .int x2), (3, .int x3), (4, .int x4), (5, .int x5), (6, .int x6), (7, .int x7)] []) (hk119 : ∀ (x1 : Int32) (x2 : Int32) (x3 : Int32) (x4 : Int32) (x5 : Int32) (x6 : Int32) (x7 : Int32) (x8 : Int32) (σ : zSt), zGO p l e rmX8_felling s m args below meth c 0 0 (zwM ad ca) D A 11 (zQ below D A (zwM ad ca) args s zI) (k119 x1 x2 x3 x4 x5 x6 x7 x8 σ) σ 119 [(0, .ref (ad 0)), (1, .int x1), (2, .int x2), (3, .int x3), (4, .int x4), (5, .int x5), (6, .int x6), (7, .int x7), (8, .int x8)] []) (x1 : Int32) (x2 : Int32) (x3 : Int32) (x4 : Int32) (x5 : Int32) (x6 : Int32) (x7 : Int32) (x8 : Int32) (x9 : Int32) (σ : zSt) : zGO p l e rmX8_felling s m args below meth c 0 0 (zwM ad ca) D A 11 (zQ below D A (zwM ad ca) args s zI) (fX8_felling_186 N k46 k65 k97 k119 x1 x2 x3 x4 x5 x6 x7 x8 x9 σ) σ 186 [(0, .ref (ad 0)), (1, .int x1), (2, .int x2), (3, .int x3), (4, .int x4), (5, .int x5), (6, .int x6), (7, .int x7), (8, .int x8), (9, .int x9)] [] := by
  unfold fX8_felling_186
  refine z_iconst (v := (1 : Int32)) hc dX8_felling_186 (by decide) ?_
  refine z_goto (tgt := 191) hc dX8_felling_187 (by decide) ?_
  exact tX8_felling_191 hc hr N _ _ _ _ hk46 hk65 hk97 hk119 _ _ _ _ _ _ _ _ _ _ _
set_option maxRecDepth 100000 in
set_option maxHeartbeats 4000000 in
theorem tX8_felling_190 {p : Program} {l : Launch} {e : Env} {s : State} {m : MethodId} {args : Array Value} {below : List Frame} {meth : Method} {c : Code} {D : va_G} {ca : Nat → ClassId} {xa ad : Nat → Nat} {A : Nat → Prop} (hc : zCx p s m args meth c cX8_felling 11 RX8 D ca xa A (zwM ad ca)) (hr : meth.sig.returnType = (some .int)) (N : Nat) (k46 : Int32 → Int32 → Int32 → Int32 → Int32 → zSt → Option (Int32 × zSt)) (k65 : Int32 → Int32 → Int32 → Int32 → Int32 → Int32 → zSt → Option (Int32 × zSt)) (k97 : Int32 → Int32 → Int32 → Int32 → Int32 → Int32 → Int32 → zSt → Option (Int32 × zSt)) (k119 : Int32 → Int32 → Int32 → Int32 → Int32 → Int32 → Int32 → Int32 → zSt → Option (Int32 × zSt)) (hk46 : ∀ (x1 : Int32) (x2 : Int32) (x3 : Int32) (x4 : Int32) (x5 : Int32) (σ : zSt), zGO p l e rmX8_felling s m args below meth c 0 0 (zwM ad ca) D A 11 (zQ below D A (zwM ad ca) args s zI) (k46 x1 x2 x3 x4 x5 σ) σ 46 [(0, .ref (ad 0)), (1, .int x1), (2, .int x2), (3, .int x3), (4, .int x4), (5, .int x5)] []) (hk65 : ∀ (x1 : Int32) (x2 : Int32) (x3 : Int32) (x4 : Int32) (x5 : Int32) (x6 : Int32) (σ : zSt), zGO p l e rmX8_felling s m args below meth c 0 0 (zwM ad ca) D A 11 (zQ below D A (zwM ad ca) args s zI) (k65 x1 x2 x3 x4 x5 x6 σ) σ 65 [(0, .ref (ad 0)), (1, .int x1), (2, .int x2), (3, .int x3), (4, .int x4), (5, .int x5), (6, .int x6)] []) (hk97 : ∀ (x1 : Int32) (x2 : Int32) (x3 : Int32) (x4 : Int32) (x5 : Int32) (x6 : Int32) (x7 : Int32) (σ : zSt), zGO p l e rmX8_felling s m args below meth c 0 0 (zwM ad ca) D A 11 (zQ below D A (zwM ad ca) args s zI) (k97 x1 x2 x3 x4 x5 x6 x7 σ) σ 97 [(0, .ref (ad 0)), (1, .int x1), (2, .int x2), (3, .int x3), (4, .int x4), (5, .int x5), (6, .int x6), (7, .int x7)] []) (hk119 : ∀ (x1 : Int32) (x2 : Int32) (x3 : Int32) (x4 : Int32) (x5 : Int32) (x6 : Int32) (x7 : Int32) (x8 : Int32) (σ : zSt), zGO p l e rmX8_felling s m args below meth c 0 0 (zwM ad ca) D A 11 (zQ below D A (zwM ad ca) args s zI) (k119 x1 x2 x3 x4 x5 x6 x7 x8 σ) σ 119 [(0, .ref (ad 0)), (1, .int x1), (2, .int x2), (3, .int x3), (4, .int x4), (5, .int x5), (6, .int x6), (7, .int x7), (8, .int x8)] []) (x1 : Int32) (x2 : Int32) (x3 : Int32) (x4 : Int32) (x5 : Int32) (x6 : Int32) (x7 : Int32) (x8 : Int32) (x9 : Int32) (σ : zSt) : zGO p l e rmX8_felling s m args below meth c 0 0 (zwM ad ca) D A 11 (zQ below D A (zwM ad ca) args s zI) (fX8_felling_190 N k46 k65 k97 k119 x1 x2 x3 x4 x5 x6 x7 x8 x9 σ) σ 190 [(0, .ref (ad 0)), (1, .int x1), (2, .int x2), (3, .int x3), (4, .int x4), (5, .int x5), (6, .int x6), (7, .int x7), (8, .int x8), (9, .int x9)] [] := by
  unfold fX8_felling_190
  refine z_iconst (v := (0 : Int32)) hc dX8_felling_190 (by decide) ?_
  exact tX8_felling_191 hc hr N _ _ _ _ hk46 hk65 hk97 hk119 _ _ _ _ _ _ _ _ _ _ _
set_option maxRecDepth 100000 in
set_option maxHeartbeats 4000000 in
theorem tX8_felling_174 {p : Program} {l : Launch} {e : Env} {s : State} {m : MethodId} {args : Array Value} {below : List Frame} {meth : Method} {c : Code} {D : va_G} {ca : Nat → ClassId} {xa ad : Nat → Nat} {A : Nat → Prop} (hc : zCx p s m args meth c cX8_felling 11 RX8 D ca xa A (zwM ad ca)) (hr : meth.sig.returnType = (some .int)) (N : Nat) (k46 : Int32 → Int32 → Int32 → Int32 → Int32 → zSt → Option (Int32 × zSt)) (k65 : Int32 → Int32 → Int32 → Int32 → Int32 → Int32 → zSt → Option (Int32 × zSt)) (k97 : Int32 → Int32 → Int32 → Int32 → Int32 → Int32 → Int32 → zSt → Option (Int32 × zSt)) (k119 : Int32 → Int32 → Int32 → Int32 → Int32 → Int32 → Int32 → Int32 → zSt → Option (Int32 × zSt)) (hk46 : ∀ (x1 : Int32) (x2 : Int32) (x3 : Int32) (x4 : Int32) (x5 : Int32) (σ : zSt), zGO p l e rmX8_felling s m args below meth c 0 0 (zwM ad ca) D A 11 (zQ below D A (zwM ad ca) args s zI) (k46 x1 x2 x3 x4 x5 σ) σ 46 [(0, .ref (ad 0)), (1, .int x1), (2, .int x2), (3, .int x3), (4, .int x4), (5, .int x5)] []) (hk65 : ∀ (x1 : Int32) (x2 : Int32) (x3 : Int32) (x4 : Int32) (x5 : Int32) (x6 : Int32) (σ : zSt), zGO p l e rmX8_felling s m args below meth c 0 0 (zwM ad ca) D A 11 (zQ below D A (zwM ad ca) args s zI) (k65 x1 x2 x3 x4 x5 x6 σ) σ 65 [(0, .ref (ad 0)), (1, .int x1), (2, .int x2), (3, .int x3), (4, .int x4), (5, .int x5), (6, .int x6)] []) (hk97 : ∀ (x1 : Int32) (x2 : Int32) (x3 : Int32) (x4 : Int32) (x5 : Int32) (x6 : Int32) (x7 : Int32) (σ : zSt), zGO p l e rmX8_felling s m args below meth c 0 0 (zwM ad ca) D A 11 (zQ below D A (zwM ad ca) args s zI) (k97 x1 x2 x3 x4 x5 x6 x7 σ) σ 97 [(0, .ref (ad 0)), (1, .int x1), (2, .int x2), (3, .int x3), (4, .int x4), (5, .int x5), (6, .int x6), (7, .int x7)] []) (hk119 : ∀ (x1 : Int32) (x2 : Int32) (x3 : Int32) (x4 : Int32) (x5 : Int32) (x6 : Int32) (x7 : Int32) (x8 : Int32) (σ : zSt), zGO p l e rmX8_felling s m args below meth c 0 0 (zwM ad ca) D A 11 (zQ below D A (zwM ad ca) args s zI) (k119 x1 x2 x3 x4 x5 x6 x7 x8 σ) σ 119 [(0, .ref (ad 0)), (1, .int x1), (2, .int x2), (3, .int x3), (4, .int x4), (5, .int x5), (6, .int x6), (7, .int x7), (8, .int x8)] []) (x1 : Int32) (x2 : Int32) (x3 : Int32) (x4 : Int32) (x5 : Int32) (x6 : Int32) (x7 : Int32) (x8 : Int32) (x9 : Int32) (σ : zSt) : zGO p l e rmX8_felling s m args below meth c 0 0 (zwM ad ca) D A 11 (zQ below D A (zwM ad ca) args s zI) (fX8_felling_174 N k46 k65 k97 k119 x1 x2 x3 x4 x5 x6 x7 x8 x9 σ) σ 174 [(0, .ref (ad 0)), (1, .int x1), (2, .int x2), (3, .int x3), (4, .int x4), (5, .int x5), (6, .int x6), (7, .int x7), (8, .int x8), (9, .int x9)] [] := by
  unfold fX8_felling_174
  refine z_iload hc dX8_felling_174 6 rfl ?_
  refine z_if_lt (tgt := 186) hc dX8_felling_176 (by decide) ?_ ?_
  · exact tX8_felling_186 hc hr N _ _ _ _ hk46 hk65 hk97 hk119 _ _ _ _ _ _ _ _ _ _
  · refine z_iload hc dX8_felling_179 7 rfl ?_
    refine z_iload hc dX8_felling_181 6 rfl ?_
    refine z_icmp_ge (tgt := 190) hc dX8_felling_183 (by decide) ?_ ?_
    · exact tX8_felling_190 hc hr N _ _ _ _ hk46 hk65 hk97 hk119 _ _ _ _ _ _ _ _ _ _
    · exact tX8_felling_186 hc hr N _ _ _ _ hk46 hk65 hk97 hk119 _ _ _ _ _ _ _ _ _ _
set_option maxRecDepth 100000 in
set_option maxHeartbeats 4000000 in
theorem tX8_felling_159 {p : Program} {l : Launch} {e : Env} {s : State} {m : MethodId} {args : Array Value} {below : List Frame} {meth : Method} {c : Code} {D : va_G} {ca : Nat → ClassId} {xa ad : Nat → Nat} {A : Nat → Prop} (hc : zCx p s m args meth c cX8_felling 11 RX8 D ca xa A (zwM ad ca)) (hr : meth.sig.returnType = (some .int)) (N : Nat) (k46 : Int32 → Int32 → Int32 → Int32 → Int32 → zSt → Option (Int32 × zSt)) (k65 : Int32 → Int32 → Int32 → Int32 → Int32 → Int32 → zSt → Option (Int32 × zSt)) (k97 : Int32 → Int32 → Int32 → Int32 → Int32 → Int32 → Int32 → zSt → Option (Int32 × zSt)) (k119 : Int32 → Int32 → Int32 → Int32 → Int32 → Int32 → Int32 → Int32 → zSt → Option (Int32 × zSt)) (hk46 : ∀ (x1 : Int32) (x2 : Int32) (x3 : Int32) (x4 : Int32) (x5 : Int32) (σ : zSt), zGO p l e rmX8_felling s m args below meth c 0 0 (zwM ad ca) D A 11 (zQ below D A (zwM ad ca) args s zI) (k46 x1 x2 x3 x4 x5 σ) σ 46 [(0, .ref (ad 0)), (1, .int x1), (2, .int x2), (3, .int x3), (4, .int x4), (5, .int x5)] []) (hk65 : ∀ (x1 : Int32) (x2 : Int32) (x3 : Int32) (x4 : Int32) (x5 : Int32) (x6 : Int32) (σ : zSt), zGO p l e rmX8_felling s m args below meth c 0 0 (zwM ad ca) D A 11 (zQ below D A (zwM ad ca) args s zI) (k65 x1 x2 x3 x4 x5 x6 σ) σ 65 [(0, .ref (ad 0)), (1, .int x1), (2, .int x2), (3, .int x3), (4, .int x4), (5, .int x5), (6, .int x6)] []) (hk97 : ∀ (x1 : Int32) (x2 : Int32) (x3 : Int32) (x4 : Int32) (x5 : Int32) (x6 : Int32) (x7 : Int32) (σ : zSt), zGO p l e rmX8_felling s m args below meth c 0 0 (zwM ad ca) D A 11 (zQ below D A (zwM ad ca) args s zI) (k97 x1 x2 x3 x4 x5 x6 x7 σ) σ 97 [(0, .ref (ad 0)), (1, .int x1), (2, .int x2), (3, .int x3), (4, .int x4), (5, .int x5), (6, .int x6), (7, .int x7)] []) (hk119 : ∀ (x1 : Int32) (x2 : Int32) (x3 : Int32) (x4 : Int32) (x5 : Int32) (x6 : Int32) (x7 : Int32) (x8 : Int32) (σ : zSt), zGO p l e rmX8_felling s m args below meth c 0 0 (zwM ad ca) D A 11 (zQ below D A (zwM ad ca) args s zI) (k119 x1 x2 x3 x4 x5 x6 x7 x8 σ) σ 119 [(0, .ref (ad 0)), (1, .int x1), (2, .int x2), (3, .int x3), (4, .int x4), (5, .int x5), (6, .int x6), (7, .int x7), (8, .int x8)] []) (x1 : Int32) (x2 : Int32) (x3 : Int32) (x4 : Int32) (x5 : Int32) (x6 : Int32) (x7 : Int32) (x8 : Int32) (s0 : Int32) (s1 : Int32) (σ : zSt) : zGO p l e rmX8_felling s m args below meth c 0 0 (zwM ad ca) D A 11 (zQ below D A (zwM ad ca) args s zI) (fX8_felling_159 N k46 k65 k97 k119 x1 x2 x3 x4 x5 x6 x7 x8 s0 s1 σ) σ 159 [(0, .ref (ad 0)), (1, .int x1), (2, .int x2), (3, .int x3), (4, .int x4), (5, .int x5), (6, .int x6), (7, .int x7), (8, .int x8)] [.int s0, .int s1] := by
  unfold fX8_felling_159
  refine z_ior hc dX8_felling_159 ?_
  refine z_nm (fun v1 => ?_)
  refine z_istore (lv' := [(9, .int v1), (0, .ref (ad 0)), (1, .int x1), (2, .int x2), (3, .int x3), (4, .int x4), (5, .int x5), (6, .int x6), (7, .int x7), (8, .int x8)]) hc dX8_felling_160 (by decide) rfl ?_
  refine z_iload hc dX8_felling_162 8 rfl ?_
  refine z_if_lt (tgt := 174) hc dX8_felling_164 (by decide) ?_ ?_
  · refine z_sub [1, 2, 3, 4, 5, 6, 7, 8, 9, 0] rfl ?_
    exact tX8_felling_174 hc hr N _ _ _ _ hk46 hk65 hk97 hk119 _ _ _ _ _ _ _ _ _ _
  · refine z_iload hc dX8_felling_167 9 rfl ?_
    refine z_iload hc dX8_felling_169 8 rfl ?_
    refine z_icmp_ge (tgt := 190) hc dX8_felling_171 (by decide) ?_ ?_
    · refine z_sub [1, 2, 3, 4, 5, 6, 7, 8, 9, 0] rfl ?_
      exact tX8_felling_190 hc hr N _ _ _ _ hk46 hk65 hk97 hk119 _ _ _ _ _ _ _ _ _ _
    · refine z_sub [1, 2, 3, 4, 5, 6, 7, 8, 9, 0] rfl ?_
      exact tX8_felling_174 hc hr N _ _ _ _ hk46 hk65 hk97 hk119 _ _ _ _ _ _ _ _ _ _
set_option maxRecDepth 100000 in
set_option maxHeartbeats 4000000 in
theorem tX8_felling_145 {p : Program} {l : Launch} {e : Env} {s : State} {m : MethodId} {args : Array Value} {below : List Frame} {meth : Method} {c : Code} {D : va_G} {ca : Nat → ClassId} {xa ad : Nat → Nat} {A : Nat → Prop} (hc : zCx p s m args meth c cX8_felling 11 RX8 D ca xa A (zwM ad ca)) (hr : meth.sig.returnType = (some .int)) (N : Nat) (k46 : Int32 → Int32 → Int32 → Int32 → Int32 → zSt → Option (Int32 × zSt)) (k65 : Int32 → Int32 → Int32 → Int32 → Int32 → Int32 → zSt → Option (Int32 × zSt)) (k97 : Int32 → Int32 → Int32 → Int32 → Int32 → Int32 → Int32 → zSt → Option (Int32 × zSt)) (k119 : Int32 → Int32 → Int32 → Int32 → Int32 → Int32 → Int32 → Int32 → zSt → Option (Int32 × zSt)) (hk46 : ∀ (x1 : Int32) (x2 : Int32) (x3 : Int32) (x4 : Int32) (x5 : Int32) (σ : zSt), zGO p l e rmX8_felling s m args below meth c 0 0 (zwM ad ca) D A 11 (zQ below D A (zwM ad ca) args s zI) (k46 x1 x2 x3 x4 x5 σ) σ 46 [(0, .ref (ad 0)), (1, .int x1), (2, .int x2), (3, .int x3), (4, .int x4), (5, .int x5)] []) (hk65 : ∀ (x1 : Int32) (x2 : Int32) (x3 : Int32) (x4 : Int32) (x5 : Int32) (x6 : Int32) (σ : zSt), zGO p l e rmX8_felling s m args below meth c 0 0 (zwM ad ca) D A 11 (zQ below D A (zwM ad ca) args s zI) (k65 x1 x2 x3 x4 x5 x6 σ) σ 65 [(0, .ref (ad 0)), (1, .int x1), (2, .int x2), (3, .int x3), (4, .int x4), (5, .int x5), (6, .int x6)] []) (hk97 : ∀ (x1 : Int32) (x2 : Int32) (x3 : Int32) (x4 : Int32) (x5 : Int32) (x6 : Int32) (x7 : Int32) (σ : zSt), zGO p l e rmX8_felling s m args below meth c 0 0 (zwM ad ca) D A 11 (zQ below D A (zwM ad ca) args s zI) (k97 x1 x2 x3 x4 x5 x6 x7 σ) σ 97 [(0, .ref (ad 0)), (1, .int x1), (2, .int x2), (3, .int x3), (4, .int x4), (5, .int x5), (6, .int x6), (7, .int x7)] []) (hk119 : ∀ (x1 : Int32) (x2 : Int32) (x3 : Int32) (x4 : Int32) (x5 : Int32) (x6 : Int32) (x7 : Int32) (x8 : Int32) (σ : zSt), zGO p l e rmX8_felling s m args below meth c 0 0 (zwM ad ca) D A 11 (zQ below D A (zwM ad ca) args s zI) (k119 x1 x2 x3 x4 x5 x6 x7 x8 σ) σ 119 [(0, .ref (ad 0)), (1, .int x1), (2, .int x2), (3, .int x3), (4, .int x4), (5, .int x5), (6, .int x6), (7, .int x7), (8, .int x8)] []) (x1 : Int32) (x2 : Int32) (x3 : Int32) (x4 : Int32) (x5 : Int32) (x6 : Int32) (x7 : Int32) (x8 : Int32) (s0 : Int32) (s1 : Int32) (σ : zSt) : zGO p l e rmX8_felling s m args below meth c 0 0 (zwM ad ca) D A 11 (zQ below D A (zwM ad ca) args s zI) (fX8_felling_145 N k46 k65 k97 k119 x1 x2 x3 x4 x5 x6 x7 x8 s0 s1 σ) σ 145 [(0, .ref (ad 0)), (1, .int x1), (2, .int x2), (3, .int x3), (4, .int x4), (5, .int x5), (6, .int x6), (7, .int x7), (8, .int x8)] [.int s0, .int s1] := by
  unfold fX8_felling_145
  refine z_ior hc dX8_felling_145 ?_
  refine z_iload hc dX8_felling_146 6 rfl ?_
  refine z_if_ge (tgt := 155) hc dX8_felling_148 (by decide) ?_ ?_
  · refine z_iconst (v := (1 : Int32)) hc dX8_felling_155 (by decide) ?_
    refine z_iload hc dX8_felling_156 6 rfl ?_
    refine z_ishl hc dX8_felling_158 ?_
    exact tX8_felling_159 hc hr N _ _ _ _ hk46 hk65 hk97 hk119 _ _ _ _ _ _ _ _ _ _ _
  · refine z_iconst (v := (0 : Int32)) hc dX8_felling_151 (by decide) ?_
    refine z_goto (tgt := 159) hc dX8_felling_152 (by decide) ?_
    exact tX8_felling_159 hc hr N _ _ _ _ hk46 hk65 hk97 hk119 _ _ _ _ _ _ _ _ _ _ _
set_option maxRecDepth 100000 in
set_option maxHeartbeats 4000000 in
theorem tX8_felling_119 {p : Program} {l : Launch} {e : Env} {s : State} {m : MethodId} {args : Array Value} {below : List Frame} {meth : Method} {c : Code} {D : va_G} {ca : Nat → ClassId} {xa ad : Nat → Nat} {A : Nat → Prop} (hc : zCx p s m args meth c cX8_felling 11 RX8 D ca xa A (zwM ad ca)) (hr : meth.sig.returnType = (some .int)) (N : Nat) (k46 : Int32 → Int32 → Int32 → Int32 → Int32 → zSt → Option (Int32 × zSt)) (k65 : Int32 → Int32 → Int32 → Int32 → Int32 → Int32 → zSt → Option (Int32 × zSt)) (k97 : Int32 → Int32 → Int32 → Int32 → Int32 → Int32 → Int32 → zSt → Option (Int32 × zSt)) (hk46 : ∀ (x1 : Int32) (x2 : Int32) (x3 : Int32) (x4 : Int32) (x5 : Int32) (σ : zSt), zGO p l e rmX8_felling s m args below meth c 0 0 (zwM ad ca) D A 11 (zQ below D A (zwM ad ca) args s zI) (k46 x1 x2 x3 x4 x5 σ) σ 46 [(0, .ref (ad 0)), (1, .int x1), (2, .int x2), (3, .int x3), (4, .int x4), (5, .int x5)] []) (hk65 : ∀ (x1 : Int32) (x2 : Int32) (x3 : Int32) (x4 : Int32) (x5 : Int32) (x6 : Int32) (σ : zSt), zGO p l e rmX8_felling s m args below meth c 0 0 (zwM ad ca) D A 11 (zQ below D A (zwM ad ca) args s zI) (k65 x1 x2 x3 x4 x5 x6 σ) σ 65 [(0, .ref (ad 0)), (1, .int x1), (2, .int x2), (3, .int x3), (4, .int x4), (5, .int x5), (6, .int x6)] []) (hk97 : ∀ (x1 : Int32) (x2 : Int32) (x3 : Int32) (x4 : Int32) (x5 : Int32) (x6 : Int32) (x7 : Int32) (σ : zSt), zGO p l e rmX8_felling s m args below meth c 0 0 (zwM ad ca) D A 11 (zQ below D A (zwM ad ca) args s zI) (k97 x1 x2 x3 x4 x5 x6 x7 σ) σ 97 [(0, .ref (ad 0)), (1, .int x1), (2, .int x2), (3, .int x3), (4, .int x4), (5, .int x5), (6, .int x6), (7, .int x7)] []) : ∀ (n : Nat) (x1 : Int32) (x2 : Int32) (x3 : Int32) (x4 : Int32) (x5 : Int32) (x6 : Int32) (x7 : Int32) (x8 : Int32) (σ : zSt), zGO p l e rmX8_felling s m args below meth c 0 0 (zwM ad ca) D A 11 (zQ below D A (zwM ad ca) args s zI) (fX8_felling_119 N k46 k65 k97 n x1 x2 x3 x4 x5 x6 x7 x8 σ) σ 119 [(0, .ref (ad 0)), (1, .int x1), (2, .int x2), (3, .int x3), (4, .int x4), (5, .int x5), (6, .int x6), (7, .int x7), (8, .int x8)] [] := by
  intro n
  induction n with
  | zero =>
    intro x1 x2 x3 x4 x5 x6 x7 x8 σ
    exact z_none
  | succ n ih =>
    intro x1 x2 x3 x4 x5 x6 x7 x8 σ
    unfold fX8_felling_119
    refine z_iload hc dX8_felling_119 8 rfl ?_
    refine z_aload_n hc dX8_felling_121 0 rfl ?_
    refine gfX8_185 hc dX8_felling_122 ?_
    refine z_icmp_ge (tgt := 235) hc dX8_felling_125 (by decide) ?_ ?_
    · refine z_iinc (v := (x7 + (1 : Int32))) (lv' := [(7, .int (x7 + (1 : Int32))), (0, .ref (ad 0)), (1, .int x1), (2, .int x2), (3, .int x3), (4, .int x4), (5, .int x5), (6, .int x6), (8, .int x8)]) hc dX8_felling_235 7 rfl rfl (by decide) rfl ?_
      refine z_goto (tgt := 97) hc dX8_felling_238 (by decide) ?_
      refine z_sub [1, 2, 3, 4, 5, 6, 7, 0] rfl ?_
      exact hk97 _ _ _ _ _ _ _ _
    · refine z_iconst (v := (1 : Int32)) hc dX8_felling_128 (by decide) ?_
      refine z_iload hc dX8_felling_129 8 rfl ?_
      refine z_ishl hc dX8_felling_131 ?_
      refine z_iload hc dX8_felling_132 7 rfl ?_
      refine z_if_ge (tgt := 141) hc dX8_felling_134 (by decide) ?_ ?_
      · refine z_iconst (v := (1 : Int32)) hc dX8_felling_141 (by decide) ?_
        refine z_iload hc dX8_felling_142 7 rfl ?_
        refine z_ishl hc dX8_felling_144 ?_
        exact tX8_felling_145 hc hr N _ _ _ _ hk46 hk65 hk97 (ih) _ _ _ _ _ _ _ _ _ _ _
      · refine z_iconst (v := (0 : Int32)) hc dX8_felling_137 (by decide) ?_
        refine z_goto (tgt := 145) hc dX8_felling_138 (by decide) ?_
        exact tX8_felling_145 hc hr N _ _ _ _ hk46 hk65 hk97 (ih) _ _ _ _ _ _ _ _ _ _ _
set_option maxRecDepth 100000 in
set_option maxHeartbeats 4000000 in
theorem tX8_felling_113 {p : Program} {l : Launch} {e : Env} {s : State} {m : MethodId} {args : Array Value} {below : List Frame} {meth : Method} {c : Code} {D : va_G} {ca : Nat → ClassId} {xa ad : Nat → Nat} {A : Nat → Prop} (hc : zCx p s m args meth c cX8_felling 11 RX8 D ca xa A (zwM ad ca)) (hr : meth.sig.returnType = (some .int)) (N : Nat) (k46 : Int32 → Int32 → Int32 → Int32 → Int32 → zSt → Option (Int32 × zSt)) (k65 : Int32 → Int32 → Int32 → Int32 → Int32 → Int32 → zSt → Option (Int32 × zSt)) (k97 : Int32 → Int32 → Int32 → Int32 → Int32 → Int32 → Int32 → zSt → Option (Int32 × zSt)) (hk46 : ∀ (x1 : Int32) (x2 : Int32) (x3 : Int32) (x4 : Int32) (x5 : Int32) (σ : zSt), zGO p l e rmX8_felling s m args below meth c 0 0 (zwM ad ca) D A 11 (zQ below D A (zwM ad ca) args s zI) (k46 x1 x2 x3 x4 x5 σ) σ 46 [(0, .ref (ad 0)), (1, .int x1), (2, .int x2), (3, .int x3), (4, .int x4), (5, .int x5)] []) (hk65 : ∀ (x1 : Int32) (x2 : Int32) (x3 : Int32) (x4 : Int32) (x5 : Int32) (x6 : Int32) (σ : zSt), zGO p l e rmX8_felling s m args below meth c 0 0 (zwM ad ca) D A 11 (zQ below D A (zwM ad ca) args s zI) (k65 x1 x2 x3 x4 x5 x6 σ) σ 65 [(0, .ref (ad 0)), (1, .int x1), (2, .int x2), (3, .int x3), (4, .int x4), (5, .int x5), (6, .int x6)] []) (hk97 : ∀ (x1 : Int32) (x2 : Int32) (x3 : Int32) (x4 : Int32) (x5 : Int32) (x6 : Int32) (x7 : Int32) (σ : zSt), zGO p l e rmX8_felling s m args below meth c 0 0 (zwM ad ca) D A 11 (zQ below D A (zwM ad ca) args s zI) (k97 x1 x2 x3 x4 x5 x6 x7 σ) σ 97 [(0, .ref (ad 0)), (1, .int x1), (2, .int x2), (3, .int x3), (4, .int x4), (5, .int x5), (6, .int x6), (7, .int x7)] []) (x1 : Int32) (x2 : Int32) (x3 : Int32) (x4 : Int32) (x5 : Int32) (x6 : Int32) (x7 : Int32) (s0 : Int32) (s1 : Int32) (σ : zSt) : zGO p l e rmX8_felling s m args below meth c 0 0 (zwM ad ca) D A 11 (zQ below D A (zwM ad ca) args s zI) (fX8_felling_113 N k46 k65 k97 x1 x2 x3 x4 x5 x6 x7 s0 s1 σ) σ 113 [(0, .ref (ad 0)), (1, .int x1), (2, .int x2), (3, .int x3), (4, .int x4), (5, .int x5), (6, .int x6), (7, .int x7)] [.int s0, .int s1] := by
  unfold fX8_felling_113
  refine z_icmp_ge (tgt := 241) hc dX8_felling_113 (by decide) ?_ ?_
  · refine z_iinc (v := (x6 + (1 : Int32))) (lv' := [(6, .int (x6 + (1 : Int32))), (0, .ref (ad 0)), (1, .int x1), (2, .int x2), (3, .int x3), (4, .int x4), (5, .int x5), (7, .int x7)]) hc dX8_felling_241 6 rfl rfl (by decide) rfl ?_
    refine z_goto (tgt := 65) hc dX8_felling_244 (by decide) ?_
    refine z_sub [1, 2, 3, 4, 5, 6, 0] rfl ?_
    exact hk65 _ _ _ _ _ _ _
  · refine z_iconst (v := (0 : Int32)) hc dX8_felling_116 (by decide) ?_
    refine z_istore (lv' := [(8, .int (0 : Int32)), (0, .ref (ad 0)), (1, .int x1), (2, .int x2), (3, .int x3), (4, .int x4), (5, .int x5), (6, .int x6), (7, .int x7)]) hc dX8_felling_117 (by decide) rfl ?_
    refine z_sub [1, 2, 3, 4, 5, 6, 7, 8, 0] rfl ?_
    exact tX8_felling_119 hc hr N _ _ _ hk46 hk65 hk97 N _ _ _ _ _ _ _ _ _
set_option maxRecDepth 100000 in
set_option maxHeartbeats 4000000 in
theorem tX8_felling_97 {p : Program} {l : Launch} {e : Env} {s : State} {m : MethodId} {args : Array Value} {below : List Frame} {meth : Method} {c : Code} {D : va_G} {ca : Nat → ClassId} {xa ad : Nat → Nat} {A : Nat → Prop} (hc : zCx p s m args meth c cX8_felling 11 RX8 D ca xa A (zwM ad ca)) (hr : meth.sig.returnType = (some .int)) (N : Nat) (k46 : Int32 → Int32 → Int32 → Int32 → Int32 → zSt → Option (Int32 × zSt)) (k65 : Int32 → Int32 → Int32 → Int32 → Int32 → Int32 → zSt → Option (Int32 × zSt)) (hk46 : ∀ (x1 : Int32) (x2 : Int32) (x3 : Int32) (x4 : Int32) (x5 : Int32) (σ : zSt), zGO p l e rmX8_felling s m args below meth c 0 0 (zwM ad ca) D A 11 (zQ below D A (zwM ad ca) args s zI) (k46 x1 x2 x3 x4 x5 σ) σ 46 [(0, .ref (ad 0)), (1, .int x1), (2, .int x2), (3, .int x3), (4, .int x4), (5, .int x5)] []) (hk65 : ∀ (x1 : Int32) (x2 : Int32) (x3 : Int32) (x4 : Int32) (x5 : Int32) (x6 : Int32) (σ : zSt), zGO p l e rmX8_felling s m args below meth c 0 0 (zwM ad ca) D A 11 (zQ below D A (zwM ad ca) args s zI) (k65 x1 x2 x3 x4 x5 x6 σ) σ 65 [(0, .ref (ad 0)), (1, .int x1), (2, .int x2), (3, .int x3), (4, .int x4), (5, .int x5), (6, .int x6)] []) : ∀ (n : Nat) (x1 : Int32) (x2 : Int32) (x3 : Int32) (x4 : Int32) (x5 : Int32) (x6 : Int32) (x7 : Int32) (σ : zSt), zGO p l e rmX8_felling s m args below meth c 0 0 (zwM ad ca) D A 11 (zQ below D A (zwM ad ca) args s zI) (fX8_felling_97 N k46 k65 n x1 x2 x3 x4 x5 x6 x7 σ) σ 97 [(0, .ref (ad 0)), (1, .int x1), (2, .int x2), (3, .int x3), (4, .int x4), (5, .int x5), (6, .int x6), (7, .int x7)] [] := by
  intro n
  induction n with
  | zero =>
    intro x1 x2 x3 x4 x5 x6 x7 σ
    exact z_none
  | succ n ih =>
    intro x1 x2 x3 x4 x5 x6 x7 σ
    unfold fX8_felling_97
    refine z_iload hc dX8_felling_97 7 rfl ?_
    refine z_iload hc dX8_felling_99 5 rfl ?_
    refine z_iconst (v := (1 : Int32)) hc dX8_felling_101 (by decide) ?_
    refine z_icmp_le (tgt := 112) hc dX8_felling_102 (by decide) ?_ ?_
    · refine z_iconst (v := (0 : Int32)) hc dX8_felling_112 (by decide) ?_
      exact tX8_felling_113 hc hr N _ _ _ hk46 hk65 (ih) _ _ _ _ _ _ _ _ _ _
    · refine z_aload_n hc dX8_felling_105 0 rfl ?_
      refine gfX8_185 hc dX8_felling_106 ?_
      refine z_goto (tgt := 113) hc dX8_felling_109 (by decide) ?_
      exact tX8_felling_113 hc hr N _ _ _ hk46 hk65 (ih) _ _ _ _ _ _ _ _ _ _
set_option maxRecDepth 100000 in
set_option maxHeartbeats 4000000 in
theorem tX8_felling_95 {p : Program} {l : Launch} {e : Env} {s : State} {m : MethodId} {args : Array Value} {below : List Frame} {meth : Method} {c : Code} {D : va_G} {ca : Nat → ClassId} {xa ad : Nat → Nat} {A : Nat → Prop} (hc : zCx p s m args meth c cX8_felling 11 RX8 D ca xa A (zwM ad ca)) (hr : meth.sig.returnType = (some .int)) (N : Nat) (k46 : Int32 → Int32 → Int32 → Int32 → Int32 → zSt → Option (Int32 × zSt)) (k65 : Int32 → Int32 → Int32 → Int32 → Int32 → Int32 → zSt → Option (Int32 × zSt)) (hk46 : ∀ (x1 : Int32) (x2 : Int32) (x3 : Int32) (x4 : Int32) (x5 : Int32) (σ : zSt), zGO p l e rmX8_felling s m args below meth c 0 0 (zwM ad ca) D A 11 (zQ below D A (zwM ad ca) args s zI) (k46 x1 x2 x3 x4 x5 σ) σ 46 [(0, .ref (ad 0)), (1, .int x1), (2, .int x2), (3, .int x3), (4, .int x4), (5, .int x5)] []) (hk65 : ∀ (x1 : Int32) (x2 : Int32) (x3 : Int32) (x4 : Int32) (x5 : Int32) (x6 : Int32) (σ : zSt), zGO p l e rmX8_felling s m args below meth c 0 0 (zwM ad ca) D A 11 (zQ below D A (zwM ad ca) args s zI) (k65 x1 x2 x3 x4 x5 x6 σ) σ 65 [(0, .ref (ad 0)), (1, .int x1), (2, .int x2), (3, .int x3), (4, .int x4), (5, .int x5), (6, .int x6)] []) (x1 : Int32) (x2 : Int32) (x3 : Int32) (x4 : Int32) (x5 : Int32) (x6 : Int32) (s0 : Int32) (σ : zSt) : zGO p l e rmX8_felling s m args below meth c 0 0 (zwM ad ca) D A 11 (zQ below D A (zwM ad ca) args s zI) (fX8_felling_95 N k46 k65 x1 x2 x3 x4 x5 x6 s0 σ) σ 95 [(0, .ref (ad 0)), (1, .int x1), (2, .int x2), (3, .int x3), (4, .int x4), (5, .int x5), (6, .int x6)] [.int s0] := by
  unfold fX8_felling_95
  refine z_istore (lv' := [(7, .int s0), (0, .ref (ad 0)), (1, .int x1), (2, .int x2), (3, .int x3), (4, .int x4), (5, .int x5), (6, .int x6)]) hc dX8_felling_95 (by decide) rfl ?_
  refine z_sub [1, 2, 3, 4, 5, 6, 7, 0] rfl ?_
  exact tX8_felling_97 hc hr N _ _ hk46 hk65 N _ _ _ _ _ _ _ _
set_option maxRecDepth 100000 in
set_option maxHeartbeats 4000000 in
theorem tX8_felling_81 {p : Program} {l : Launch} {e : Env} {s : State} {m : MethodId} {args : Array Value} {below : List Frame} {meth : Method} {c : Code} {D : va_G} {ca : Nat → ClassId} {xa ad : Nat → Nat} {A : Nat → Prop} (hc : zCx p s m args meth c cX8_felling 11 RX8 D ca xa A (zwM ad ca)) (hr : meth.sig.returnType = (some .int)) (N : Nat) (k46 : Int32 → Int32 → Int32 → Int32 → Int32 → zSt → Option (Int32 × zSt)) (k65 : Int32 → Int32 → Int32 → Int32 → Int32 → Int32 → zSt → Option (Int32 × zSt)) (hk46 : ∀ (x1 : Int32) (x2 : Int32) (x3 : Int32) (x4 : Int32) (x5 : Int32) (σ : zSt), zGO p l e rmX8_felling s m args below meth c 0 0 (zwM ad ca) D A 11 (zQ below D A (zwM ad ca) args s zI) (k46 x1 x2 x3 x4 x5 σ) σ 46 [(0, .ref (ad 0)), (1, .int x1), (2, .int x2), (3, .int x3), (4, .int x4), (5, .int x5)] []) (hk65 : ∀ (x1 : Int32) (x2 : Int32) (x3 : Int32) (x4 : Int32) (x5 : Int32) (x6 : Int32) (σ : zSt), zGO p l e rmX8_felling s m args below meth c 0 0 (zwM ad ca) D A 11 (zQ below D A (zwM ad ca) args s zI) (k65 x1 x2 x3 x4 x5 x6 σ) σ 65 [(0, .ref (ad 0)), (1, .int x1), (2, .int x2), (3, .int x3), (4, .int x4), (5, .int x5), (6, .int x6)] []) (x1 : Int32) (x2 : Int32) (x3 : Int32) (x4 : Int32) (x5 : Int32) (x6 : Int32) (s0 : Int32) (s1 : Int32) (σ : zSt) : zGO p l e rmX8_felling s m args below meth c 0 0 (zwM ad ca) D A 11 (zQ below D A (zwM ad ca) args s zI) (fX8_felling_81 N k46 k65 x1 x2 x3 x4 x5 x6 s0 s1 σ) σ 81 [(0, .ref (ad 0)), (1, .int x1), (2, .int x2), (3, .int x3), (4, .int x4), (5, .int x5), (6, .int x6)] [.int s0, .int s1] := by
  unfold fX8_felling_81
  refine z_icmp_ge (tgt := 247) hc dX8_felling_81 (by decide) ?_ ?_
  · refine z_iinc (v := (x5 + (1 : Int32))) (lv' := [(5, .int (x5 + (1 : Int32))), (0, .ref (ad 0)), (1, .int x1), (2, .int x2), (3, .int x3), (4, .int x4), (6, .int x6)]) hc dX8_felling_247 5 rfl rfl (by decide) rfl ?_
    refine z_goto (tgt := 46) hc dX8_felling_250 (by decide) ?_
    refine z_sub [1, 2, 3, 4, 5, 0] rfl ?_
    exact hk46 _ _ _ _ _ _
  · refine z_iload hc dX8_felling_84 5 rfl ?_
    refine z_iconst (v := (1 : Int32)) hc dX8_felling_86 (by decide) ?_
    refine z_icmp_le (tgt := 94) hc dX8_felling_87 (by decide) ?_ ?_
    · refine z_iconst (v := (-1 : Int32)) hc dX8_felling_94 (by decide) ?_
      exact tX8_felling_95 hc hr N _ _ hk46 hk65 _ _ _ _ _ _ _ _
    · refine z_iconst (v := (0 : Int32)) hc dX8_felling_90 (by decide) ?_
      refine z_goto (tgt := 95) hc dX8_felling_91 (by decide) ?_
      exact tX8_felling_95 hc hr N _ _ hk46 hk65 _ _ _ _ _ _ _ _
set_option maxRecDepth 100000 in
set_option maxHeartbeats 4000000 in
theorem tX8_felling_65 {p : Program} {l : Launch} {e : Env} {s : State} {m : MethodId} {args : Array Value} {below : List Frame} {meth : Method} {c : Code} {D : va_G} {ca : Nat → ClassId} {xa ad : Nat → Nat} {A : Nat → Prop} (hc : zCx p s m args meth c cX8_felling 11 RX8 D ca xa A (zwM ad ca)) (hr : meth.sig.returnType = (some .int)) (N : Nat) (k46 : Int32 → Int32 → Int32 → Int32 → Int32 → zSt → Option (Int32 × zSt)) (hk46 : ∀ (x1 : Int32) (x2 : Int32) (x3 : Int32) (x4 : Int32) (x5 : Int32) (σ : zSt), zGO p l e rmX8_felling s m args below meth c 0 0 (zwM ad ca) D A 11 (zQ below D A (zwM ad ca) args s zI) (k46 x1 x2 x3 x4 x5 σ) σ 46 [(0, .ref (ad 0)), (1, .int x1), (2, .int x2), (3, .int x3), (4, .int x4), (5, .int x5)] []) : ∀ (n : Nat) (x1 : Int32) (x2 : Int32) (x3 : Int32) (x4 : Int32) (x5 : Int32) (x6 : Int32) (σ : zSt), zGO p l e rmX8_felling s m args below meth c 0 0 (zwM ad ca) D A 11 (zQ below D A (zwM ad ca) args s zI) (fX8_felling_65 N k46 n x1 x2 x3 x4 x5 x6 σ) σ 65 [(0, .ref (ad 0)), (1, .int x1), (2, .int x2), (3, .int x3), (4, .int x4), (5, .int x5), (6, .int x6)] [] := by
  intro n
  induction n with
  | zero =>
    intro x1 x2 x3 x4 x5 x6 σ
    exact z_none
  | succ n ih =>
    intro x1 x2 x3 x4 x5 x6 σ
    unfold fX8_felling_65
    refine z_iload hc dX8_felling_65 6 rfl ?_
    refine z_iload hc dX8_felling_67 5 rfl ?_
    refine z_iconst (v := (2 : Int32)) hc dX8_felling_69 (by decide) ?_
    refine z_icmp_le (tgt := 80) hc dX8_felling_70 (by decide) ?_ ?_
    · refine z_iconst (v := (0 : Int32)) hc dX8_felling_80 (by decide) ?_
      exact tX8_felling_81 hc hr N _ _ hk46 (ih) _ _ _ _ _ _ _ _ _
    · refine z_aload_n hc dX8_felling_73 0 rfl ?_
      refine gfX8_185 hc dX8_felling_74 ?_
      refine z_goto (tgt := 81) hc dX8_felling_77 (by decide) ?_
      exact tX8_felling_81 hc hr N _ _ hk46 (ih) _ _ _ _ _ _ _ _ _
set_option maxRecDepth 100000 in
set_option maxHeartbeats 4000000 in
theorem tX8_felling_63 {p : Program} {l : Launch} {e : Env} {s : State} {m : MethodId} {args : Array Value} {below : List Frame} {meth : Method} {c : Code} {D : va_G} {ca : Nat → ClassId} {xa ad : Nat → Nat} {A : Nat → Prop} (hc : zCx p s m args meth c cX8_felling 11 RX8 D ca xa A (zwM ad ca)) (hr : meth.sig.returnType = (some .int)) (N : Nat) (k46 : Int32 → Int32 → Int32 → Int32 → Int32 → zSt → Option (Int32 × zSt)) (hk46 : ∀ (x1 : Int32) (x2 : Int32) (x3 : Int32) (x4 : Int32) (x5 : Int32) (σ : zSt), zGO p l e rmX8_felling s m args below meth c 0 0 (zwM ad ca) D A 11 (zQ below D A (zwM ad ca) args s zI) (k46 x1 x2 x3 x4 x5 σ) σ 46 [(0, .ref (ad 0)), (1, .int x1), (2, .int x2), (3, .int x3), (4, .int x4), (5, .int x5)] []) (x1 : Int32) (x2 : Int32) (x3 : Int32) (x4 : Int32) (x5 : Int32) (s0 : Int32) (σ : zSt) : zGO p l e rmX8_felling s m args below meth c 0 0 (zwM ad ca) D A 11 (zQ below D A (zwM ad ca) args s zI) (fX8_felling_63 N k46 x1 x2 x3 x4 x5 s0 σ) σ 63 [(0, .ref (ad 0)), (1, .int x1), (2, .int x2), (3, .int x3), (4, .int x4), (5, .int x5)] [.int s0] := by
  unfold fX8_felling_63
  refine z_istore (lv' := [(6, .int s0), (0, .ref (ad 0)), (1, .int x1), (2, .int x2), (3, .int x3), (4, .int x4), (5, .int x5)]) hc dX8_felling_63 (by decide) rfl ?_
  refine z_sub [1, 2, 3, 4, 5, 6, 0] rfl ?_
  exact tX8_felling_65 hc hr N _ hk46 N _ _ _ _ _ _ _
set_option maxRecDepth 100000 in
set_option maxHeartbeats 4000000 in
theorem tX8_felling_46 {p : Program} {l : Launch} {e : Env} {s : State} {m : MethodId} {args : Array Value} {below : List Frame} {meth : Method} {c : Code} {D : va_G} {ca : Nat → ClassId} {xa ad : Nat → Nat} {A : Nat → Prop} (hc : zCx p s m args meth c cX8_felling 11 RX8 D ca xa A (zwM ad ca)) (hr : meth.sig.returnType = (some .int)) (N : Nat)   : ∀ (n : Nat) (x1 : Int32) (x2 : Int32) (x3 : Int32) (x4 : Int32) (x5 : Int32) (σ : zSt), zGO p l e rmX8_felling s m args below meth c 0 0 (zwM ad ca) D A 11 (zQ below D A (zwM ad ca) args s zI) (fX8_felling_46 N n x1 x2 x3 x4 x5 σ) σ 46 [(0, .ref (ad 0)), (1, .int x1), (2, .int x2), (3, .int x3), (4, .int x4), (5, .int x5)] [] := by
  intro n
  induction n with
  | zero =>
    intro x1 x2 x3 x4 x5 σ
    exact z_none
  | succ n ih =>
    intro x1 x2 x3 x4 x5 σ
    unfold fX8_felling_46
    refine z_iload hc dX8_felling_46 5 rfl ?_
    refine z_iconst (v := (4 : Int32)) hc dX8_felling_48 (by decide) ?_
    refine z_icmp_ge (tgt := 253) hc dX8_felling_49 (by decide) ?_ ?_
    · refine z_iload_n hc dX8_felling_253 2 rfl ?_
      refine z_iconst (v := (-1 : Int32)) hc dX8_felling_254 (by decide) ?_
      refine z_icmp_ne (tgt := 263) hc dX8_felling_255 (by decide) ?_ ?_
      · refine z_iload hc dX8_felling_258 4 rfl ?_
        refine z_goto (tgt := 265) hc dX8_felling_260 (by decide) ?_
        exact z_iret hc hr dX8_felling_265
      · refine z_ldc hc dX8_felling_263 kcX8_114 ?_
        exact z_iret hc hr dX8_felling_265
    · refine z_iload hc dX8_felling_52 5 rfl ?_
      refine z_iconst (v := (2 : Int32)) hc dX8_felling_54 (by decide) ?_
      refine z_icmp_le (tgt := 62) hc dX8_felling_55 (by decide) ?_ ?_
      · refine z_iconst (v := (-1 : Int32)) hc dX8_felling_62 (by decide) ?_
        exact tX8_felling_63 hc hr N _ (ih) _ _ _ _ _ _ _
      · refine z_iconst (v := (0 : Int32)) hc dX8_felling_58 (by decide) ?_
        refine z_goto (tgt := 63) hc dX8_felling_59 (by decide) ?_
        exact tX8_felling_63 hc hr N _ (ih) _ _ _ _ _ _ _
set_option maxRecDepth 100000 in
set_option maxHeartbeats 4000000 in
theorem tX8_felling {l : Launch} {D : va_G} {ca : Nat → ClassId} {xa ad : Nat → Nat} {A : Nat → Prop} {N : Nat} {x1 : Int32} {x2 : Int32} {σ : zSt} {a : Int32} {τ : zSt} (h : fX8_felling N x1 x2 σ = some (a, τ)) : zCt l yX8_felling cX8_felling 11 (some .int) rmX8_felling D ca xa A (zwM ad ca) [.ref (ad 0), .int x1, .int x2] σ (zI a) τ := by
  refine z_met (inj := zI) (lv := [(0, .ref (ad 0)), (1, .int x1), (2, .int x2)]) (by decide) (Nat.le_of_ble_eq_true rfl) rfl ?_ h
  intro p e s m args below meth c hc hr
  unfold fX8_felling
  refine z_aload_n hc dX8_felling_0 0 rfl ?_
  refine z_iconst (v := (0 : Int32)) hc dX8_felling_1 (by decide) ?_
  refine pfX8_78 hc dX8_felling_2 (fun σ1 => ?_)
  refine z_aload_n hc dX8_felling_5 0 rfl ?_
  refine z_iload_n hc dX8_felling_6 1 rfl ?_
  refine z_runVi (b0 := ad 0) (As := [.int x1]) (rest := []) hc dX8_felling_7 (fun _ _ h => tX8_isClaim h) mpX8_isClaim miX8_isClaim kmX8_244 ⟨rfl, rfl, Nat.le_of_ble_eq_true rfl, Nat.le_of_ble_eq_true rfl⟩ ⟨Nat.le_refl _, Nat.le_refl _⟩ zcM_rc0 rfl (Nat.le_of_ble_eq_true rfl) (fun b2 σ3 => ?_)
  refine z_if_eq (tgt := 18) hc dX8_felling_10 (by decide) ?_ ?_
  · refine z_ldc hc dX8_felling_18 kcX8_98 ?_
    exact z_iret hc hr dX8_felling_20
  · refine z_iload_n hc dX8_felling_13 2 rfl ?_
    refine z_iconst (v := (-1 : Int32)) hc dX8_felling_14 (by decide) ?_
    refine z_icmp_ge (tgt := 21) hc dX8_felling_15 (by decide) ?_ ?_
    · refine z_aload_n hc dX8_felling_21 0 rfl ?_
      refine z_runVi (b0 := ad 0) (As := []) (rest := []) hc dX8_felling_22 (fun _ _ h => tX8_shownNow h) mpX8_shownNow miX8_shownNow kmX8_232 ⟨rfl, rfl, Nat.le_of_ble_eq_true rfl, Nat.le_of_ble_eq_true rfl⟩ ⟨Nat.le_refl _, Nat.le_refl _⟩ zcM_rc0 rfl (Nat.le_of_ble_eq_true rfl) (fun b4 σ5 => ?_)
      refine z_iload_n hc dX8_felling_25 1 rfl ?_
      refine z_ishr hc dX8_felling_26 ?_
      refine z_iconst (v := (1 : Int32)) hc dX8_felling_27 (by decide) ?_
      refine z_iand hc dX8_felling_28 ?_
      refine z_if_ne (tgt := 35) hc dX8_felling_29 (by decide) ?_ ?_
      · refine z_ldc hc dX8_felling_32 kcX8_247 ?_
        exact z_iret hc hr dX8_felling_34
      · refine z_aload_n hc dX8_felling_35 0 rfl ?_
        refine z_runVi (b0 := ad 0) (As := []) (rest := []) hc dX8_felling_36 (fun _ _ h => tX8_standing h) mpX8_standing miX8_standing kmX8_225 ⟨rfl, rfl, Nat.le_of_ble_eq_true rfl, Nat.le_of_ble_eq_true rfl⟩ ⟨Nat.le_refl _, Nat.le_refl _⟩ zcM_rc0 rfl (Nat.le_of_ble_eq_true rfl) (fun b6 σ7 => ?_)
        refine z_istore_n (lv' := [(3, .int b6), (0, .ref (ad 0)), (1, .int x1), (2, .int x2)]) hc dX8_felling_39 rfl (by decide) rfl ?_
        refine z_iconst (v := (0 : Int32)) hc dX8_felling_40 (by decide) ?_
        refine z_istore (lv' := [(4, .int (0 : Int32)), (3, .int b6), (0, .ref (ad 0)), (1, .int x1), (2, .int x2)]) hc dX8_felling_41 (by decide) rfl ?_
        refine z_iconst (v := (1 : Int32)) hc dX8_felling_43 (by decide) ?_
        refine z_istore (lv' := [(5, .int (1 : Int32)), (4, .int (0 : Int32)), (3, .int b6), (0, .ref (ad 0)), (1, .int x1), (2, .int x2)]) hc dX8_felling_44 (by decide) rfl ?_
        refine z_sub [3, 4, 5, 2, 1, 0] rfl ?_
        exact tX8_felling_46 hc hr N N _ _ _ _ _ _
    · refine z_ldc hc dX8_felling_18 kcX8_98 ?_
      exact z_iret hc hr dX8_felling_20
set_option maxRecDepth 100000 in
set_option maxHeartbeats 4000000 in
theorem tX2_groundsOf_4 {p : Program} {l : Launch} {e : Env} {s : State} {m : MethodId} {args : Array Value} {below : List Frame} {meth : Method} {c : Code} {D : va_G} {ca : Nat → ClassId} {xa ad : Nat → Nat} {A : Nat → Prop} (hc : zCx p s m args meth c cX2_groundsOf 4 RX2 D ca xa A (zwC ad ca)) (hr : meth.sig.returnType = (some .int)) (N : Nat)   : ∀ (n : Nat) (x1 : Int32) (x2 : Int32) (x3 : Int32) (σ : zSt), zGO p l e rmX2_groundsOf s m args below meth c 0 0 (zwC ad ca) D A 4 (zQ below D A (zwC ad ca) args s zI) (fX2_groundsOf_4 N n x1 x2 x3 σ) σ 4 [(0, .ref (ad 7)), (1, .int x1), (2, .int x2), (3, .int x3)] [] := by
  intro n
  induction n with
  | zero =>
    intro x1 x2 x3 σ
    exact z_none
  | succ n ih =>
    intro x1 x2 x3 σ
    unfold fX2_groundsOf_4
    refine z_iload_n hc dX2_groundsOf_4 3 rfl ?_
    refine z_aload_n hc dX2_groundsOf_5 0 rfl ?_
    refine gfX2_51 hc dX2_groundsOf_6 ?_
    refine z_icmp_ge (tgt := 44) hc dX2_groundsOf_9 (by decide) ?_ ?_
    · refine z_iload_n hc dX2_groundsOf_44 2 rfl ?_
      exact z_iret hc hr dX2_groundsOf_45
    · refine z_aload_n hc dX2_groundsOf_12 0 rfl ?_
      refine gfX2_9 hc dX2_groundsOf_13 ?_
      refine z_iload_n hc dX2_groundsOf_16 3 rfl ?_
      refine z_iaload hc 8 (by decide) rfl dX2_groundsOf_17 (fun v1 => ?_)
      refine z_iconst (v := (2 : Int32)) hc dX2_groundsOf_18 (by decide) ?_
      refine z_icmp_eq (tgt := 38) hc dX2_groundsOf_19 (by decide) ?_ ?_
      · refine z_iinc (v := (x3 + (1 : Int32))) (lv' := [(3, .int (x3 + (1 : Int32))), (0, .ref (ad 7)), (1, .int x1), (2, .int x2)]) hc dX2_groundsOf_38 3 rfl rfl (by decide) rfl ?_
        refine z_goto (tgt := 4) hc dX2_groundsOf_41 (by decide) ?_
        refine z_sub [1, 2, 3, 0] rfl ?_
        exact ih _ _ _ _
      · refine z_aload_n hc dX2_groundsOf_22 0 rfl ?_
        refine gfX2_15 hc dX2_groundsOf_23 ?_
        refine z_iload_n hc dX2_groundsOf_26 3 rfl ?_
        refine z_iaload hc 9 (by decide) rfl dX2_groundsOf_27 (fun v2 => ?_)
        refine z_iload_n hc dX2_groundsOf_28 1 rfl ?_
        refine z_icmp_ne (tgt := 38) hc dX2_groundsOf_29 (by decide) ?_ ?_
        · refine z_iload_n hc dX2_groundsOf_32 2 rfl ?_
          refine z_iconst (v := (1 : Int32)) hc dX2_groundsOf_33 (by decide) ?_
          refine z_iload_n hc dX2_groundsOf_34 3 rfl ?_
          refine z_ishl hc dX2_groundsOf_35 ?_
          refine z_ior hc dX2_groundsOf_36 ?_
          refine z_nm (fun v3 => ?_)
          refine z_istore_n (lv' := [(2, .int v3), (0, .ref (ad 7)), (1, .int x1), (3, .int x3)]) hc dX2_groundsOf_37 rfl (by decide) rfl ?_
          refine z_iinc (v := (x3 + (1 : Int32))) (lv' := [(3, .int (x3 + (1 : Int32))), (2, .int v3), (0, .ref (ad 7)), (1, .int x1)]) hc dX2_groundsOf_38 3 rfl rfl (by decide) rfl ?_
          refine z_goto (tgt := 4) hc dX2_groundsOf_41 (by decide) ?_
          refine z_sub [2, 3, 1, 0] rfl ?_
          exact ih _ _ _ _
        · refine z_iinc (v := (x3 + (1 : Int32))) (lv' := [(3, .int (x3 + (1 : Int32))), (0, .ref (ad 7)), (1, .int x1), (2, .int x2)]) hc dX2_groundsOf_38 3 rfl rfl (by decide) rfl ?_
          refine z_goto (tgt := 4) hc dX2_groundsOf_41 (by decide) ?_
          refine z_sub [1, 2, 3, 0] rfl ?_
          exact ih _ _ _ _
set_option maxRecDepth 100000 in
set_option maxHeartbeats 4000000 in
theorem tX2_groundsOf {l : Launch} {D : va_G} {ca : Nat → ClassId} {xa ad : Nat → Nat} {A : Nat → Prop} {N : Nat} {x1 : Int32} {σ : zSt} {a : Int32} {τ : zSt} (h : fX2_groundsOf N x1 σ = some (a, τ)) : zCt l yX2_groundsOf cX2_groundsOf 4 (some .int) rmX2_groundsOf D ca xa A (zwC ad ca) [.ref (ad 7), .int x1] σ (zI a) τ := by
  refine z_met (inj := zI) (lv := [(0, .ref (ad 7)), (1, .int x1)]) (by decide) (Nat.le_of_ble_eq_true rfl) rfl ?_ h
  intro p e s m args below meth c hc hr
  unfold fX2_groundsOf
  refine z_iconst (v := (0 : Int32)) hc dX2_groundsOf_0 (by decide) ?_
  refine z_istore_n (lv' := [(2, .int (0 : Int32)), (0, .ref (ad 7)), (1, .int x1)]) hc dX2_groundsOf_1 rfl (by decide) rfl ?_
  refine z_iconst (v := (0 : Int32)) hc dX2_groundsOf_2 (by decide) ?_
  refine z_istore_n (lv' := [(3, .int (0 : Int32)), (2, .int (0 : Int32)), (0, .ref (ad 7)), (1, .int x1)]) hc dX2_groundsOf_3 rfl (by decide) rfl ?_
  refine z_sub [2, 3, 1, 0] rfl ?_
  exact tX2_groundsOf_4 hc hr N N _ _ _ _
set_option maxRecDepth 100000 in
set_option maxHeartbeats 4000000 in
theorem tX7_hand_33 {p : Program} {l : Launch} {e : Env} {s : State} {m : MethodId} {args : Array Value} {below : List Frame} {meth : Method} {c : Code} {D : va_G} {ca : Nat → ClassId} {xa ad : Nat → Nat} {A : Nat → Prop} (hc : zCx p s m args meth c cX7_hand 8 RX7 D ca xa A (zwC ad ca)) (hr : meth.sig.returnType = (some .int)) (N : Nat)   : ∀ (n : Nat) (x1 : Int32) (x2 : Int32) (x3 : Int32) (x4 : Int32) (x5 : Int32) (σ : zSt), zGO p l e rmX7_hand s m args below meth c 0 0 (zwC ad ca) D A 8 (zQ below D A (zwC ad ca) args s zI) (fX7_hand_33 N n x1 x2 x3 x4 x5 σ) σ 33 [(0, .ref (ad 0)), (1, .int x1), (2, .int x2), (3, .int x3), (4, .int x4), (5, .int x5)] [] := by
  intro n
  induction n with
  | zero =>
    intro x1 x2 x3 x4 x5 σ
    exact z_none
  | succ n ih =>
    intro x1 x2 x3 x4 x5 σ
    unfold fX7_hand_33
    refine z_iload hc dX7_hand_33 5 rfl ?_
    refine z_bipush (v := (9 : Int32)) hc dX7_hand_35 (by decide) ?_
    refine z_icmp_gt (tgt := 94) hc dX7_hand_37 (by decide) ?_ ?_
    · refine z_iload_n hc dX7_hand_94 3 rfl ?_
      exact z_iret hc hr dX7_hand_95
    · refine z_aload_n hc dX7_hand_40 0 rfl ?_
      refine gfX7_26 hc dX7_hand_41 ?_
      refine z_iload_n hc dX7_hand_44 1 rfl ?_
      refine z_aload_n hc dX7_hand_45 0 rfl ?_
      refine gfX7_26 hc dX7_hand_46 ?_
      refine z_iload hc dX7_hand_49 5 rfl ?_
      refine z_runVNi (b0 := ad 7) (As := [.int x5]) (rest := [.int x1, .ref (ad 7)]) hc dX7_hand_51 (fun _ _ h => tX2_groundsOf h) mpX2_groundsOf miX2_groundsOf kmX7_218 ⟨rfl, rfl, Nat.le_of_ble_eq_true rfl, Nat.le_of_ble_eq_true rfl⟩ ⟨Nat.le_refl _, Nat.le_refl _⟩ zcC_rc7 rfl (Nat.le_of_ble_eq_true rfl) (fun b1 σ2 => ?_)
      refine z_iconst (v := (-1 : Int32)) hc dX7_hand_54 (by decide) ?_
      refine z_ixor hc dX7_hand_55 ?_
      refine z_iand hc dX7_hand_56 ?_
      refine z_iconst (v := (0 : Int32)) hc dX7_hand_57 (by decide) ?_
      refine z_runVNi (b0 := ad 7) (As := [.int (x1 &&& (b1 ^^^ (-1 : Int32))), .int (0 : Int32)]) (rest := []) hc dX7_hand_58 (fun _ _ h => tX2_spread h) mpX2_spread miX2_spread kmX7_210 ⟨rfl, rfl, Nat.le_of_ble_eq_true rfl, Nat.le_of_ble_eq_true rfl⟩ ⟨Nat.le_refl _, Nat.le_refl _⟩ zcC_rc7 rfl (Nat.le_of_ble_eq_true rfl) (fun b3 σ4 => ?_)
      refine z_istore (lv' := [(6, .int b3), (0, .ref (ad 0)), (1, .int x1), (2, .int x2), (3, .int x3), (4, .int x4), (5, .int x5)]) hc dX7_hand_61 (by decide) rfl ?_
      refine z_iload_n hc dX7_hand_63 3 rfl ?_
      refine z_iload hc dX7_hand_64 0 rfl ?_
      refine z_iconst (v := (-1 : Int32)) hc dX7_hand_66 (by decide) ?_
      refine z_ixor hc dX7_hand_67 ?_
      refine z_iand hc dX7_hand_68 ?_
      refine z_runSi (As := [.int (x2 &&& (b3 ^^^ (-1 : Int32)))]) (rest := []) hc dX7_hand_69 (fun _ _ h => tJ6_bitCount_0f7a4 h) mpJ6_bitCount_0f7a4 miJ6_bitCount_0f7a4 kmX7_221 ⟨rfl, rfl, Nat.le_of_ble_eq_true rfl, Nat.le_of_ble_eq_true rfl⟩ ⟨Nat.le_refl _, Nat.le_refl _⟩ rfl (Nat.le_of_ble_eq_true rfl) (fun b5 σ6 => ?_)
      refine z_istore (lv' := [(7, .int b5), (6, .int b3), (0, .ref (ad 0)), (1, .int x1), (2, .int x2), (3, .int x3), (4, .int x4), (5, .int x5)]) hc dX7_hand_72 (by decide) rfl ?_
      refine z_iload hc dX7_hand_74 0 rfl ?_
      refine z_iload hc dX7_hand_76 6 rfl ?_
      refine z_icmp_le (tgt := 88) hc dX7_hand_78 (by decide) ?_ ?_
      · refine z_iinc (v := (x5 + (1 : Int32))) (lv' := [(5, .int (x5 + (1 : Int32))), (7, .int b5), (6, .int b3), (0, .ref (ad 0)), (1, .int x1), (2, .int x2), (3, .int x3), (4, .int x4)]) hc dX7_hand_88 7 rfl rfl (by decide) rfl ?_
        refine z_goto (tgt := 33) hc dX7_hand_91 (by decide) ?_
        refine z_sub [3, 4, 5, 6, 7, 0] rfl ?_
        exact ih _ _ _ _ _ _
      · refine z_iload hc dX7_hand_81 0 rfl ?_
        refine z_istore (lv' := [(4, .int b5), (7, .int b5), (6, .int b3), (0, .ref (ad 0)), (1, .int x1), (2, .int x2), (3, .int x3), (5, .int x5)]) hc dX7_hand_83 (by decide) rfl ?_
        refine z_iload hc dX7_hand_85 7 rfl ?_
        refine z_istore_n (lv' := [(3, .int x5), (4, .int b5), (7, .int b5), (6, .int b3), (0, .ref (ad 0)), (1, .int x1), (2, .int x2), (5, .int x5)]) hc dX7_hand_87 rfl (by decide) rfl ?_
        refine z_iinc (v := (x5 + (1 : Int32))) (lv' := [(5, .int (x5 + (1 : Int32))), (3, .int x5), (4, .int b5), (7, .int b5), (6, .int b3), (0, .ref (ad 0)), (1, .int x1), (2, .int x2)]) hc dX7_hand_88 7 rfl rfl (by decide) rfl ?_
        refine z_goto (tgt := 33) hc dX7_hand_91 (by decide) ?_
        refine z_sub [5, 6, 7, 1, 2, 0] rfl ?_
        exact ih _ _ _ _ _ _
set_option maxRecDepth 100000 in
set_option maxHeartbeats 4000000 in
theorem tX7_hand {l : Launch} {D : va_G} {ca : Nat → ClassId} {xa ad : Nat → Nat} {A : Nat → Prop} {N : Nat}  {σ : zSt} {a : Int32} {τ : zSt} (h : fX7_hand N σ = some (a, τ)) : zCt l yX7_hand cX7_hand 8 (some .int) rmX7_hand D ca xa A (zwC ad ca) [.ref (ad 0)] σ (zI a) τ := by
  refine z_met (inj := zI) (lv := [(0, .ref (ad 0))]) (by decide) (Nat.le_of_ble_eq_true rfl) rfl ?_ h
  intro p e s m args below meth c hc hr
  unfold fX7_hand
  refine z_aload_n hc dX7_hand_0 0 rfl ?_
  refine gfX7_26 hc dX7_hand_1 ?_
  refine z_runVNi (b0 := ad 7) (As := []) (rest := []) hc dX7_hand_4 (fun _ _ h => tX2_standing h) mpX2_standing miX2_standing kmX7_207 ⟨rfl, rfl, Nat.le_of_ble_eq_true rfl, Nat.le_of_ble_eq_true rfl⟩ ⟨Nat.le_refl _, Nat.le_refl _⟩ zcC_rc7 rfl (Nat.le_of_ble_eq_true rfl) (fun b1 σ2 => ?_)
  refine z_istore_n (lv' := [(1, .int b1), (0, .ref (ad 0))]) hc dX7_hand_7 rfl (by decide) rfl ?_
  refine z_aload_n hc dX7_hand_8 1 rfl ?_
  refine gfX7_26 hc dX7_hand_9 ?_
  refine z_runVNi (b0 := ad 7) (As := []) (rest := []) hc dX7_hand_12 (fun _ _ h => tX2_shownNow h) mpX2_shownNow miX2_shownNow kmX7_148 ⟨rfl, rfl, Nat.le_of_ble_eq_true rfl, Nat.le_of_ble_eq_true rfl⟩ ⟨Nat.le_refl _, Nat.le_refl _⟩ zcC_rc7 rfl (Nat.le_of_ble_eq_true rfl) (fun b3 σ4 => ?_)
  refine z_aload_n hc dX7_hand_15 1 rfl ?_
  refine gfX7_26 hc dX7_hand_16 ?_
  refine z_runVNi (b0 := ad 7) (As := []) (rest := [.int b3]) hc dX7_hand_19 (fun _ _ h => tX2_claims h) mpX2_claims miX2_claims kmX7_198 ⟨rfl, rfl, Nat.le_of_ble_eq_true rfl, Nat.le_of_ble_eq_true rfl⟩ ⟨Nat.le_refl _, Nat.le_refl _⟩ zcC_rc7 rfl (Nat.le_of_ble_eq_true rfl) (fun b5 σ6 => ?_)
  refine z_iand hc dX7_hand_22 ?_
  refine z_nm (fun v7 => ?_)
  refine z_istore_n (lv' := [(2, .int v7), (1, .int b1), (0, .ref (ad 0))]) hc dX7_hand_23 rfl (by decide) rfl ?_
  refine z_ldc hc dX7_hand_24 kcX7_135 ?_
  refine z_istore_n (lv' := [(3, .int (-1000000 : Int32)), (2, .int v7), (1, .int b1), (0, .ref (ad 0))]) hc dX7_hand_26 rfl (by decide) rfl ?_
  refine z_iconst (v := (0 : Int32)) hc dX7_hand_27 (by decide) ?_
  refine z_istore (lv' := [(4, .int (0 : Int32)), (3, .int (-1000000 : Int32)), (2, .int v7), (1, .int b1), (0, .ref (ad 0))]) hc dX7_hand_28 (by decide) rfl ?_
  refine z_iconst (v := (0 : Int32)) hc dX7_hand_30 (by decide) ?_
  refine z_istore (lv' := [(5, .int (0 : Int32)), (4, .int (0 : Int32)), (3, .int (-1000000 : Int32)), (2, .int v7), (1, .int b1), (0, .ref (ad 0))]) hc dX7_hand_31 (by decide) rfl ?_
  refine z_sub [5, 4, 3, 2, 1, 0] rfl ?_
  exact tX7_hand_33 hc hr N N _ _ _ _ _ _
set_option maxRecDepth 100000 in
set_option maxHeartbeats 4000000 in
theorem tX8_bits_4 {p : Program} {l : Launch} {e : Env} {s : State} {m : MethodId} {args : Array Value} {below : List Frame} {meth : Method} {c : Code} {D : va_G} {ca : Nat → ClassId} {xa ad : Nat → Nat} {A : Nat → Prop} (hc : zCx p s m args meth c cX8_bits 3 RX8 D ca xa A (zwM ad ca)) (hr : meth.sig.returnType = (some .int)) (N : Nat)   : ∀ (n : Nat) (x0 : Int32) (x1 : Int32) (x2 : Int32) (σ : zSt), zGO p l e rmX8_bits s m args below meth c 0 0 (zwM ad ca) D A 3 (zQ below D A (zwM ad ca) args s zI) (fX8_bits_4 N n x0 x1 x2 σ) σ 4 [(0, .int x0), (1, .int x1), (2, .int x2)] [] := by
  intro n
  induction n with
  | zero =>
    intro x0 x1 x2 σ
    exact z_none
  | succ n ih =>
    intro x0 x1 x2 σ
    unfold fX8_bits_4
    refine z_iload_n hc dX8_bits_4 2 rfl ?_
    refine z_bipush (v := (20 : Int32)) hc dX8_bits_5 (by decide) ?_
    refine z_icmp_ge (tgt := 24) hc dX8_bits_7 (by decide) ?_ ?_
    · refine z_iload_n hc dX8_bits_24 1 rfl ?_
      exact z_iret hc hr dX8_bits_25
    · refine z_iload_n hc dX8_bits_10 1 rfl ?_
      refine z_iload_n hc dX8_bits_11 0 rfl ?_
      refine z_iload_n hc dX8_bits_12 2 rfl ?_
      refine z_ishr hc dX8_bits_13 ?_
      refine z_iconst (v := (1 : Int32)) hc dX8_bits_14 (by decide) ?_
      refine z_iand hc dX8_bits_15 ?_
      refine z_iadd hc dX8_bits_16 ?_
      refine z_nm (fun v1 => ?_)
      refine z_istore_n (lv' := [(1, .int v1), (0, .int x0), (2, .int x2)]) hc dX8_bits_17 rfl (by decide) rfl ?_
      refine z_iinc (v := (x2 + (1 : Int32))) (lv' := [(2, .int (x2 + (1 : Int32))), (1, .int v1), (0, .int x0)]) hc dX8_bits_18 2 rfl rfl (by decide) rfl ?_
      refine z_goto (tgt := 4) hc dX8_bits_21 (by decide) ?_
      refine z_sub [2, 1, 0] rfl ?_
      exact ih _ _ _ _
set_option maxRecDepth 100000 in
set_option maxHeartbeats 4000000 in
theorem tX8_bits {l : Launch} {D : va_G} {ca : Nat → ClassId} {xa ad : Nat → Nat} {A : Nat → Prop} {N : Nat} {x0 : Int32} {σ : zSt} {a : Int32} {τ : zSt} (h : fX8_bits N x0 σ = some (a, τ)) : zCt l yX8_bits cX8_bits 3 (some .int) rmX8_bits D ca xa A (zwM ad ca) [.int x0] σ (zI a) τ := by
  refine z_met (inj := zI) (lv := [(0, .int x0)]) (by decide) (Nat.le_of_ble_eq_true rfl) rfl ?_ h
  intro p e s m args below meth c hc hr
  unfold fX8_bits
  refine z_iconst (v := (0 : Int32)) hc dX8_bits_0 (by decide) ?_
  refine z_istore_n (lv' := [(1, .int (0 : Int32)), (0, .int x0)]) hc dX8_bits_1 rfl (by decide) rfl ?_
  refine z_iconst (v := (0 : Int32)) hc dX8_bits_2 (by decide) ?_
  refine z_istore_n (lv' := [(2, .int (0 : Int32)), (1, .int (0 : Int32)), (0, .int x0)]) hc dX8_bits_3 rfl (by decide) rfl ?_
  refine z_sub [2, 1, 0] rfl ?_
  exact tX8_bits_4 hc hr N N _ _ _ _
set_option maxRecDepth 100000 in
set_option maxHeartbeats 4000000 in
theorem tX8_hand_84 {p : Program} {l : Launch} {e : Env} {s : State} {m : MethodId} {args : Array Value} {below : List Frame} {meth : Method} {c : Code} {D : va_G} {ca : Nat → ClassId} {xa ad : Nat → Nat} {A : Nat → Prop} (hc : zCx p s m args meth c cX8_hand 8 RX8 D ca xa A (zwM ad ca)) (hr : meth.sig.returnType = (some .int)) (N : Nat) (k29 : Int32 → Int32 → Int32 → Int32 → Int32 → zSt → Option (Int32 × zSt)) (k42 : Int32 → Int32 → Int32 → Int32 → Int32 → Int32 → Int32 → zSt → Option (Int32 × zSt)) (hk29 : ∀ (x1 : Int32) (x2 : Int32) (x3 : Int32) (x4 : Int32) (x5 : Int32) (σ : zSt), zGO p l e rmX8_hand s m args below meth c 0 0 (zwM ad ca) D A 8 (zQ below D A (zwM ad ca) args s zI) (k29 x1 x2 x3 x4 x5 σ) σ 29 [(0, .ref (ad 0)), (1, .int x1), (2, .int x2), (3, .int x3), (4, .int x4), (5, .int x5)] []) (hk42 : ∀ (x1 : Int32) (x2 : Int32) (x3 : Int32) (x4 : Int32) (x5 : Int32) (x6 : Int32) (x7 : Int32) (σ : zSt), zGO p l e rmX8_hand s m args below meth c 0 0 (zwM ad ca) D A 8 (zQ below D A (zwM ad ca) args s zI) (k42 x1 x2 x3 x4 x5 x6 x7 σ) σ 42 [(0, .ref (ad 0)), (1, .int x1), (2, .int x2), (3, .int x3), (4, .int x4), (5, .int x5), (6, .int x6), (7, .int x7)] []) (x1 : Int32) (x2 : Int32) (x3 : Int32) (x4 : Int32) (x5 : Int32) (x7 : Int32) (s0 : Int32) (s1 : Int32) (σ : zSt) : zGO p l e rmX8_hand s m args below meth c 0 0 (zwM ad ca) D A 8 (zQ below D A (zwM ad ca) args s zI) (fX8_hand_84 N k29 k42 x1 x2 x3 x4 x5 x7 s0 s1 σ) σ 84 [(0, .ref (ad 0)), (1, .int x1), (2, .int x2), (3, .int x3), (4, .int x4), (5, .int x5), (7, .int x7)] [.int s0, .int s1] := by
  unfold fX8_hand_84
  refine z_ior hc dX8_hand_84 ?_
  refine z_nm (fun v1 => ?_)
  refine z_istore (lv' := [(6, .int v1), (0, .ref (ad 0)), (1, .int x1), (2, .int x2), (3, .int x3), (4, .int x4), (5, .int x5), (7, .int x7)]) hc dX8_hand_85 (by decide) rfl ?_
  refine z_iinc (v := (x7 + (1 : Int32))) (lv' := [(7, .int (x7 + (1 : Int32))), (6, .int v1), (0, .ref (ad 0)), (1, .int x1), (2, .int x2), (3, .int x3), (4, .int x4), (5, .int x5)]) hc dX8_hand_87 7 rfl rfl (by decide) rfl ?_
  refine z_goto (tgt := 42) hc dX8_hand_90 (by decide) ?_
  refine z_sub [2, 3, 4, 5, 6, 7, 1, 0] rfl ?_
  exact hk42 _ _ _ _ _ _ _ _
set_option maxRecDepth 100000 in
set_option maxHeartbeats 4000000 in
theorem tX8_hand_83 {p : Program} {l : Launch} {e : Env} {s : State} {m : MethodId} {args : Array Value} {below : List Frame} {meth : Method} {c : Code} {D : va_G} {ca : Nat → ClassId} {xa ad : Nat → Nat} {A : Nat → Prop} (hc : zCx p s m args meth c cX8_hand 8 RX8 D ca xa A (zwM ad ca)) (hr : meth.sig.returnType = (some .int)) (N : Nat) (k29 : Int32 → Int32 → Int32 → Int32 → Int32 → zSt → Option (Int32 × zSt)) (k42 : Int32 → Int32 → Int32 → Int32 → Int32 → Int32 → Int32 → zSt → Option (Int32 × zSt)) (hk29 : ∀ (x1 : Int32) (x2 : Int32) (x3 : Int32) (x4 : Int32) (x5 : Int32) (σ : zSt), zGO p l e rmX8_hand s m args below meth c 0 0 (zwM ad ca) D A 8 (zQ below D A (zwM ad ca) args s zI) (k29 x1 x2 x3 x4 x5 σ) σ 29 [(0, .ref (ad 0)), (1, .int x1), (2, .int x2), (3, .int x3), (4, .int x4), (5, .int x5)] []) (hk42 : ∀ (x1 : Int32) (x2 : Int32) (x3 : Int32) (x4 : Int32) (x5 : Int32) (x6 : Int32) (x7 : Int32) (σ : zSt), zGO p l e rmX8_hand s m args below meth c 0 0 (zwM ad ca) D A 8 (zQ below D A (zwM ad ca) args s zI) (k42 x1 x2 x3 x4 x5 x6 x7 σ) σ 42 [(0, .ref (ad 0)), (1, .int x1), (2, .int x2), (3, .int x3), (4, .int x4), (5, .int x5), (6, .int x6), (7, .int x7)] []) (x1 : Int32) (x2 : Int32) (x3 : Int32) (x4 : Int32) (x5 : Int32) (x7 : Int32) (s0 : Int32) (σ : zSt) : zGO p l e rmX8_hand s m args below meth c 0 0 (zwM ad ca) D A 8 (zQ below D A (zwM ad ca) args s zI) (fX8_hand_83 N k29 k42 x1 x2 x3 x4 x5 x7 s0 σ) σ 83 [(0, .ref (ad 0)), (1, .int x1), (2, .int x2), (3, .int x3), (4, .int x4), (5, .int x5), (7, .int x7)] [.int s0] := by
  unfold fX8_hand_83
  refine z_iconst (v := (0 : Int32)) hc dX8_hand_83 (by decide) ?_
  exact tX8_hand_84 hc hr N _ _ hk29 hk42 _ _ _ _ _ _ _ _ _
set_option maxRecDepth 100000 in
set_option maxHeartbeats 4000000 in
theorem tX8_hand_42 {p : Program} {l : Launch} {e : Env} {s : State} {m : MethodId} {args : Array Value} {below : List Frame} {meth : Method} {c : Code} {D : va_G} {ca : Nat → ClassId} {xa ad : Nat → Nat} {A : Nat → Prop} (hc : zCx p s m args meth c cX8_hand 8 RX8 D ca xa A (zwM ad ca)) (hr : meth.sig.returnType = (some .int)) (N : Nat) (k29 : Int32 → Int32 → Int32 → Int32 → Int32 → zSt → Option (Int32 × zSt)) (hk29 : ∀ (x1 : Int32) (x2 : Int32) (x3 : Int32) (x4 : Int32) (x5 : Int32) (σ : zSt), zGO p l e rmX8_hand s m args below meth c 0 0 (zwM ad ca) D A 8 (zQ below D A (zwM ad ca) args s zI) (k29 x1 x2 x3 x4 x5 σ) σ 29 [(0, .ref (ad 0)), (1, .int x1), (2, .int x2), (3, .int x3), (4, .int x4), (5, .int x5)] []) : ∀ (n : Nat) (x1 : Int32) (x2 : Int32) (x3 : Int32) (x4 : Int32) (x5 : Int32) (x6 : Int32) (x7 : Int32) (σ : zSt), zGO p l e rmX8_hand s m args below meth c 0 0 (zwM ad ca) D A 8 (zQ below D A (zwM ad ca) args s zI) (fX8_hand_42 N k29 n x1 x2 x3 x4 x5 x6 x7 σ) σ 42 [(0, .ref (ad 0)), (1, .int x1), (2, .int x2), (3, .int x3), (4, .int x4), (5, .int x5), (6, .int x6), (7, .int x7)] [] := by
  intro n
  induction n with
  | zero =>
    intro x1 x2 x3 x4 x5 x6 x7 σ
    exact z_none
  | succ n ih =>
    intro x1 x2 x3 x4 x5 x6 x7 σ
    unfold fX8_hand_42
    refine z_iload hc dX8_hand_42 7 rfl ?_
    refine z_aload_n hc dX8_hand_44 0 rfl ?_
    refine gfX8_185 hc dX8_hand_45 ?_
    refine z_icmp_ge (tgt := 93) hc dX8_hand_48 (by decide) ?_ ?_
    · refine z_iload hc dX8_hand_93 4 rfl ?_
      refine z_aload_n hc dX8_hand_95 0 rfl ?_
      refine z_iload_n hc dX8_hand_96 3 rfl ?_
      refine z_iload hc dX8_hand_97 6 rfl ?_
      refine z_iconst (v := (-1 : Int32)) hc dX8_hand_99 (by decide) ?_
      refine z_ixor hc dX8_hand_100 ?_
      refine z_iand hc dX8_hand_101 ?_
      refine z_ldc hc dX8_hand_102 kcX8_114 ?_
      refine z_runVi (b0 := ad 0) (As := [.int (x3 &&& (x6 ^^^ (-1 : Int32))), .int (-1000000 : Int32)]) (rest := [.int x4]) hc dX8_hand_104 (fun _ _ h => tX8_shownBy h) mpX8_shownBy miX8_shownBy kmX8_228 ⟨rfl, rfl, Nat.le_of_ble_eq_true rfl, Nat.le_of_ble_eq_true rfl⟩ ⟨Nat.le_refl _, Nat.le_refl _⟩ zcM_rc0 rfl (Nat.le_of_ble_eq_true rfl) (fun b1 σ2 => ?_)
      refine z_iconst (v := (-1 : Int32)) hc dX8_hand_107 (by decide) ?_
      refine z_ixor hc dX8_hand_108 ?_
      refine z_iand hc dX8_hand_109 ?_
      refine z_runSi (As := [.int (x4 &&& (b1 ^^^ (-1 : Int32)))]) (rest := []) hc dX8_hand_110 (fun _ _ h => tX8_bits h) mpX8_bits miX8_bits kmX8_251 ⟨rfl, rfl, Nat.le_of_ble_eq_true rfl, Nat.le_of_ble_eq_true rfl⟩ ⟨Nat.le_refl _, Nat.le_refl _⟩ rfl (Nat.le_of_ble_eq_true rfl) (fun b3 σ4 => ?_)
      refine z_istore (lv' := [(7, .int b3), (0, .ref (ad 0)), (1, .int x1), (2, .int x2), (3, .int x3), (4, .int x4), (5, .int x5), (6, .int x6)]) hc dX8_hand_113 (by decide) rfl ?_
      refine z_iload hc dX8_hand_115 0 rfl ?_
      refine z_iload_n hc dX8_hand_117 3 rfl ?_
      refine z_icmp_le (tgt := 127) hc dX8_hand_118 (by decide) ?_ ?_
      · refine z_iinc (v := (x5 + (1 : Int32))) (lv' := [(5, .int (x5 + (1 : Int32))), (7, .int b3), (0, .ref (ad 0)), (1, .int x1), (2, .int x2), (3, .int x3), (4, .int x4), (6, .int x6)]) hc dX8_hand_127 6 rfl rfl (by decide) rfl ?_
        refine z_goto (tgt := 29) hc dX8_hand_130 (by decide) ?_
        refine z_sub [2, 3, 4, 5, 6, 0] rfl ?_
        exact hk29 _ _ _ _ _ _
      · refine z_iload hc dX8_hand_121 6 rfl ?_
        refine z_istore_n (lv' := [(1, .int x5), (7, .int b3), (0, .ref (ad 0)), (2, .int x2), (3, .int x3), (4, .int x4), (5, .int x5), (6, .int x6)]) hc dX8_hand_123 rfl (by decide) rfl ?_
        refine z_iload hc dX8_hand_124 1 rfl ?_
        refine z_istore_n (lv' := [(2, .int b3), (1, .int x5), (7, .int b3), (0, .ref (ad 0)), (3, .int x3), (4, .int x4), (5, .int x5), (6, .int x6)]) hc dX8_hand_126 rfl (by decide) rfl ?_
        refine z_iinc (v := (x5 + (1 : Int32))) (lv' := [(5, .int (x5 + (1 : Int32))), (2, .int b3), (1, .int x5), (7, .int b3), (0, .ref (ad 0)), (3, .int x3), (4, .int x4), (6, .int x6)]) hc dX8_hand_127 6 rfl rfl (by decide) rfl ?_
        refine z_goto (tgt := 29) hc dX8_hand_130 (by decide) ?_
        refine z_sub [4, 2, 1, 5, 6, 0] rfl ?_
        exact hk29 _ _ _ _ _ _
    · refine z_iload hc dX8_hand_51 6 rfl ?_
      refine z_aload_n hc dX8_hand_53 0 rfl ?_
      refine gfX8_19 hc dX8_hand_54 ?_
      refine z_iload hc dX8_hand_57 7 rfl ?_
      refine z_iaload hc 4 (by decide) rfl dX8_hand_59 (fun v5 => ?_)
      refine z_iconst (v := (2 : Int32)) hc dX8_hand_60 (by decide) ?_
      refine z_icmp_ge (tgt := 83) hc dX8_hand_61 (by decide) ?_ ?_
      · refine z_sub [0, 1, 2, 3, 4, 5, 7] rfl ?_
        exact tX8_hand_83 hc hr N _ _ hk29 (ih) _ _ _ _ _ _ _ _
      · refine z_aload_n hc dX8_hand_64 0 rfl ?_
        refine gfX8_22 hc dX8_hand_65 ?_
        refine z_iload hc dX8_hand_68 7 rfl ?_
        refine z_iaload hc 5 (by decide) rfl dX8_hand_70 (fun v6 => ?_)
        refine z_iload hc dX8_hand_71 5 rfl ?_
        refine z_icmp_ne (tgt := 83) hc dX8_hand_73 (by decide) ?_ ?_
        · refine z_iconst (v := (1 : Int32)) hc dX8_hand_76 (by decide) ?_
          refine z_iload hc dX8_hand_77 7 rfl ?_
          refine z_ishl hc dX8_hand_79 ?_
          refine z_goto (tgt := 84) hc dX8_hand_80 (by decide) ?_
          refine z_sub [0, 1, 2, 3, 4, 5, 7] rfl ?_
          exact tX8_hand_84 hc hr N _ _ hk29 (ih) _ _ _ _ _ _ _ _ _
        · refine z_sub [0, 1, 2, 3, 4, 5, 7] rfl ?_
          exact tX8_hand_83 hc hr N _ _ hk29 (ih) _ _ _ _ _ _ _ _
set_option maxRecDepth 100000 in
set_option maxHeartbeats 4000000 in
theorem tX8_hand_29 {p : Program} {l : Launch} {e : Env} {s : State} {m : MethodId} {args : Array Value} {below : List Frame} {meth : Method} {c : Code} {D : va_G} {ca : Nat → ClassId} {xa ad : Nat → Nat} {A : Nat → Prop} (hc : zCx p s m args meth c cX8_hand 8 RX8 D ca xa A (zwM ad ca)) (hr : meth.sig.returnType = (some .int)) (N : Nat)   : ∀ (n : Nat) (x1 : Int32) (x2 : Int32) (x3 : Int32) (x4 : Int32) (x5 : Int32) (σ : zSt), zGO p l e rmX8_hand s m args below meth c 0 0 (zwM ad ca) D A 8 (zQ below D A (zwM ad ca) args s zI) (fX8_hand_29 N n x1 x2 x3 x4 x5 σ) σ 29 [(0, .ref (ad 0)), (1, .int x1), (2, .int x2), (3, .int x3), (4, .int x4), (5, .int x5)] [] := by
  intro n
  induction n with
  | zero =>
    intro x1 x2 x3 x4 x5 σ
    exact z_none
  | succ n ih =>
    intro x1 x2 x3 x4 x5 σ
    unfold fX8_hand_29
    refine z_iload hc dX8_hand_29 5 rfl ?_
    refine z_bipush (v := (10 : Int32)) hc dX8_hand_31 (by decide) ?_
    refine z_icmp_ge (tgt := 133) hc dX8_hand_33 (by decide) ?_ ?_
    · refine z_iload_n hc dX8_hand_133 1 rfl ?_
      exact z_iret hc hr dX8_hand_134
    · refine z_iconst (v := (0 : Int32)) hc dX8_hand_36 (by decide) ?_
      refine z_istore (lv' := [(6, .int (0 : Int32)), (0, .ref (ad 0)), (1, .int x1), (2, .int x2), (3, .int x3), (4, .int x4), (5, .int x5)]) hc dX8_hand_37 (by decide) rfl ?_
      refine z_iconst (v := (0 : Int32)) hc dX8_hand_39 (by decide) ?_
      refine z_istore (lv' := [(7, .int (0 : Int32)), (6, .int (0 : Int32)), (0, .ref (ad 0)), (1, .int x1), (2, .int x2), (3, .int x3), (4, .int x4), (5, .int x5)]) hc dX8_hand_40 (by decide) rfl ?_
      refine z_sub [2, 3, 4, 5, 6, 7, 1, 0] rfl ?_
      exact tX8_hand_42 hc hr N _ (ih) N _ _ _ _ _ _ _ _
set_option maxRecDepth 100000 in
set_option maxHeartbeats 4000000 in
theorem tX8_hand {l : Launch} {D : va_G} {ca : Nat → ClassId} {xa ad : Nat → Nat} {A : Nat → Prop} {N : Nat}  {σ : zSt} {a : Int32} {τ : zSt} (h : fX8_hand N σ = some (a, τ)) : zCt l yX8_hand cX8_hand 8 (some .int) rmX8_hand D ca xa A (zwM ad ca) [.ref (ad 0)] σ (zI a) τ := by
  refine z_met (inj := zI) (lv := [(0, .ref (ad 0))]) (by decide) (Nat.le_of_ble_eq_true rfl) rfl ?_ h
  intro p e s m args below meth c hc hr
  unfold fX8_hand
  refine z_aload_n hc dX8_hand_0 0 rfl ?_
  refine z_iconst (v := (0 : Int32)) hc dX8_hand_1 (by decide) ?_
  refine pfX8_78 hc dX8_hand_2 (fun σ1 => ?_)
  refine z_ldc hc dX8_hand_5 kcX8_114 ?_
  refine z_istore_n (lv' := [(1, .int (-1000000 : Int32)), (0, .ref (ad 0))]) hc dX8_hand_7 rfl (by decide) rfl ?_
  refine z_iconst (v := (0 : Int32)) hc dX8_hand_8 (by decide) ?_
  refine z_istore_n (lv' := [(2, .int (0 : Int32)), (1, .int (-1000000 : Int32)), (0, .ref (ad 0))]) hc dX8_hand_9 rfl (by decide) rfl ?_
  refine z_aload_n hc dX8_hand_10 2 rfl ?_
  refine z_runVi (b0 := ad 0) (As := []) (rest := []) hc dX8_hand_11 (fun _ _ h => tX8_standing h) mpX8_standing miX8_standing kmX8_225 ⟨rfl, rfl, Nat.le_of_ble_eq_true rfl, Nat.le_of_ble_eq_true rfl⟩ ⟨Nat.le_refl _, Nat.le_refl _⟩ zcM_rc0 rfl (Nat.le_of_ble_eq_true rfl) (fun b2 σ3 => ?_)
  refine z_istore_n (lv' := [(3, .int b2), (2, .int (0 : Int32)), (1, .int (-1000000 : Int32)), (0, .ref (ad 0))]) hc dX8_hand_14 rfl (by decide) rfl ?_
  refine z_aload_n hc dX8_hand_15 3 rfl ?_
  refine z_runVi (b0 := ad 0) (As := []) (rest := []) hc dX8_hand_16 (fun _ _ h => tX8_shownNow h) mpX8_shownNow miX8_shownNow kmX8_232 ⟨rfl, rfl, Nat.le_of_ble_eq_true rfl, Nat.le_of_ble_eq_true rfl⟩ ⟨Nat.le_refl _, Nat.le_refl _⟩ zcM_rc0 rfl (Nat.le_of_ble_eq_true rfl) (fun b4 σ5 => ?_)
  refine z_aload_n hc dX8_hand_19 3 rfl ?_
  refine z_runVi (b0 := ad 0) (As := []) (rest := [.int b4]) hc dX8_hand_20 (fun _ _ h => tX8_claims h) mpX8_claims miX8_claims kmX8_235 ⟨rfl, rfl, Nat.le_of_ble_eq_true rfl, Nat.le_of_ble_eq_true rfl⟩ ⟨Nat.le_refl _, Nat.le_refl _⟩ zcM_rc0 rfl (Nat.le_of_ble_eq_true rfl) (fun b6 σ7 => ?_)
  refine z_iand hc dX8_hand_23 ?_
  refine z_nm (fun v8 => ?_)
  refine z_istore (lv' := [(4, .int v8), (3, .int b2), (2, .int (0 : Int32)), (1, .int (-1000000 : Int32)), (0, .ref (ad 0))]) hc dX8_hand_24 (by decide) rfl ?_
  refine z_iconst (v := (0 : Int32)) hc dX8_hand_26 (by decide) ?_
  refine z_istore (lv' := [(5, .int (0 : Int32)), (4, .int v8), (3, .int b2), (2, .int (0 : Int32)), (1, .int (-1000000 : Int32)), (0, .ref (ad 0))]) hc dX8_hand_27 (by decide) rfl ?_
  refine z_sub [5, 4, 3, 2, 1, 0] rfl ?_
  exact tX8_hand_29 hc hr N N _ _ _ _ _ _
set_option maxRecDepth 100000 in
set_option maxHeartbeats 4000000 in
theorem tX7_isSpan {l : Launch} {D : va_G} {ca : Nat → ClassId} {xa ad : Nat → Nat} {A : Nat → Prop} {N : Nat} {x0 : Int32} {x1 : Int32} {σ : zSt} {a : Int32} {τ : zSt} (h : fX7_isSpan N x0 x1 σ = some (a, τ)) : zCt l yX7_isSpan cX7_isSpan 2 (some .boolean) rmX7_isSpan D ca xa A (zwC ad ca) [.int x0, .int x1] σ (zI a) τ := by
  refine z_met (inj := zI) (lv := [(0, .int x0), (1, .int x1)]) (by decide) (Nat.le_of_ble_eq_true rfl) rfl ?_ h
  intro p e s m args below meth c hc hr
  unfold fX7_isSpan
  refine z_iload_n hc dX7_isSpan_0 0 rfl ?_
  refine z_if_lt (tgt := 19) hc dX7_isSpan_1 (by decide) ?_ ?_
  · refine z_iconst (v := (0 : Int32)) hc dX7_isSpan_19 (by decide) ?_
    exact z_zret hc hr dX7_isSpan_20
  · refine z_iload_n hc dX7_isSpan_4 0 rfl ?_
    refine z_iload_n hc dX7_isSpan_5 1 rfl ?_
    refine z_icmp_gt (tgt := 19) hc dX7_isSpan_6 (by decide) ?_ ?_
    · refine z_iconst (v := (0 : Int32)) hc dX7_isSpan_19 (by decide) ?_
      exact z_zret hc hr dX7_isSpan_20
    · refine z_iload_n hc dX7_isSpan_9 1 rfl ?_
      refine z_bipush (v := (100 : Int32)) hc dX7_isSpan_10 (by decide) ?_
      refine z_icmp_gt (tgt := 19) hc dX7_isSpan_12 (by decide) ?_ ?_
      · refine z_iconst (v := (0 : Int32)) hc dX7_isSpan_19 (by decide) ?_
        exact z_zret hc hr dX7_isSpan_20
      · refine z_iconst (v := (1 : Int32)) hc dX7_isSpan_15 (by decide) ?_
        refine z_goto (tgt := 20) hc dX7_isSpan_16 (by decide) ?_
        exact z_zret hc hr dX7_isSpan_20
set_option maxRecDepth 100000 in
set_option maxHeartbeats 4000000 in
theorem tX6_has_2 {p : Program} {l : Launch} {e : Env} {s : State} {m : MethodId} {args : Array Value} {below : List Frame} {meth : Method} {c : Code} {D : va_G} {ca : Nat → ClassId} {xa ad : Nat → Nat} {A : Nat → Prop} (hc : zCx p s m args meth c cX6_has 3 RX6 D ca xa A (zwC ad ca)) (hr : meth.sig.returnType = (some .boolean)) (N : Nat)   : ∀ (n : Nat) (x1 : Int32) (x2 : Int32) (σ : zSt), zGO p l e rmX6_has s m args below meth c 0 0 (zwC ad ca) D A 3 (zQ below D A (zwC ad ca) args s zI) (fX6_has_2 N n x1 x2 σ) σ 2 [(0, .ref (ad 23)), (1, .int x1), (2, .int x2)] [] := by
  intro n
  induction n with
  | zero =>
    intro x1 x2 σ
    exact z_none
  | succ n ih =>
    intro x1 x2 σ
    unfold fX6_has_2
    refine z_iload_n hc dX6_has_2 2 rfl ?_
    refine z_aload_n hc dX6_has_3 0 rfl ?_
    refine gfX6_34 hc dX6_has_4 ?_
    refine z_icmp_ge (tgt := 28) hc dX6_has_7 (by decide) ?_ ?_
    · refine z_iconst (v := (0 : Int32)) hc dX6_has_28 (by decide) ?_
      exact z_zret hc hr dX6_has_29
    · refine z_aload_n hc dX6_has_10 0 rfl ?_
      refine gfX6_11 hc dX6_has_11 ?_
      refine z_iload_n hc dX6_has_14 2 rfl ?_
      refine z_iaload hc 24 (by decide) rfl dX6_has_15 (fun v1 => ?_)
      refine z_iload_n hc dX6_has_16 1 rfl ?_
      refine z_icmp_ne (tgt := 22) hc dX6_has_17 (by decide) ?_ ?_
      · refine z_iconst (v := (1 : Int32)) hc dX6_has_20 (by decide) ?_
        exact z_zret hc hr dX6_has_21
      · refine z_iinc (v := (x2 + (1 : Int32))) (lv' := [(2, .int (x2 + (1 : Int32))), (0, .ref (ad 23)), (1, .int x1)]) hc dX6_has_22 2 rfl rfl (by decide) rfl ?_
        refine z_goto (tgt := 2) hc dX6_has_25 (by decide) ?_
        refine z_sub [1, 2, 0] rfl ?_
        exact ih _ _ _
set_option maxRecDepth 100000 in
set_option maxHeartbeats 4000000 in
theorem tX6_has {l : Launch} {D : va_G} {ca : Nat → ClassId} {xa ad : Nat → Nat} {A : Nat → Prop} {N : Nat} {x1 : Int32} {σ : zSt} {a : Int32} {τ : zSt} (h : fX6_has N x1 σ = some (a, τ)) : zCt l yX6_has cX6_has 3 (some .boolean) rmX6_has D ca xa A (zwC ad ca) [.ref (ad 23), .int x1] σ (zI a) τ := by
  refine z_met (inj := zI) (lv := [(0, .ref (ad 23)), (1, .int x1)]) (by decide) (Nat.le_of_ble_eq_true rfl) rfl ?_ h
  intro p e s m args below meth c hc hr
  unfold fX6_has
  refine z_iconst (v := (0 : Int32)) hc dX6_has_0 (by decide) ?_
  refine z_istore_n (lv' := [(2, .int (0 : Int32)), (0, .ref (ad 23)), (1, .int x1)]) hc dX6_has_1 rfl (by decide) rfl ?_
  refine z_sub [1, 2, 0] rfl ?_
  exact tX6_has_2 hc hr N N _ _ _
set_option maxRecDepth 100000 in
set_option maxHeartbeats 4000000 in
theorem tX6_isFull {l : Launch} {D : va_G} {ca : Nat → ClassId} {xa ad : Nat → Nat} {A : Nat → Prop} {N : Nat}  {σ : zSt} {a : Int32} {τ : zSt} (h : fX6_isFull N σ = some (a, τ)) : zCt l yX6_isFull cX6_isFull 1 (some .boolean) rmX6_isFull D ca xa A (zwC ad ca) [.ref (ad 23)] σ (zI a) τ := by
  refine z_met (inj := zI) (lv := [(0, .ref (ad 23))]) (by decide) (Nat.le_of_ble_eq_true rfl) rfl ?_ h
  intro p e s m args below meth c hc hr
  unfold fX6_isFull
  refine z_aload_n hc dX6_isFull_0 0 rfl ?_
  refine gfX6_34 hc dX6_isFull_1 ?_
  refine z_iconst (v := (3 : Int32)) hc dX6_isFull_4 (by decide) ?_
  refine z_icmp_lt (tgt := 12) hc dX6_isFull_5 (by decide) ?_ ?_
  · refine z_iconst (v := (0 : Int32)) hc dX6_isFull_12 (by decide) ?_
    exact z_zret hc hr dX6_isFull_13
  · refine z_iconst (v := (1 : Int32)) hc dX6_isFull_8 (by decide) ?_
    refine z_goto (tgt := 13) hc dX6_isFull_9 (by decide) ?_
    exact z_zret hc hr dX6_isFull_13
set_option maxRecDepth 100000 in
set_option maxHeartbeats 4000000 in
theorem tX6_add {l : Launch} {D : va_G} {ca : Nat → ClassId} {xa ad : Nat → Nat} {A : Nat → Prop} {N : Nat} {x1 : Int32} {x2 : Int32} {x3 : Int32} {σ : zSt} {a : Int32} {τ : zSt} (h : fX6_add N x1 x2 x3 σ = some (a, τ)) : zCt l yX6_add cX6_add 4 (some .int) rmX6_add D ca xa A (zwC ad ca) [.ref (ad 23), .int x1, .int x2, .int x3] σ (zI a) τ := by
  refine z_met (inj := zI) (lv := [(0, .ref (ad 23)), (1, .int x1), (2, .int x2), (3, .int x3)]) (by decide) (Nat.le_of_ble_eq_true rfl) rfl ?_ h
  intro p e s m args below meth c hc hr
  unfold fX6_add
  refine z_aload_n hc dX6_add_0 0 rfl ?_
  refine gfX6_34 hc dX6_add_1 ?_
  refine z_iconst (v := (3 : Int32)) hc dX6_add_4 (by decide) ?_
  refine z_icmp_lt (tgt := 13) hc dX6_add_5 (by decide) ?_ ?_
  · refine z_aload_n hc dX6_add_13 0 rfl ?_
    refine gfX6_11 hc dX6_add_14 ?_
    refine z_aload_n hc dX6_add_17 0 rfl ?_
    refine gfX6_34 hc dX6_add_18 ?_
    refine z_iload_n hc dX6_add_21 1 rfl ?_
    refine z_iastore hc 24 (by decide) (fun _ _ => rfl) dX6_add_22 (fun σ1 => ?_)
    refine z_aload_n hc dX6_add_23 0 rfl ?_
    refine gfX6_15 hc dX6_add_24 ?_
    refine z_aload_n hc dX6_add_27 0 rfl ?_
    refine gfX6_34 hc dX6_add_28 ?_
    refine z_iload_n hc dX6_add_31 2 rfl ?_
    refine z_iastore hc 25 (by decide) (fun _ _ => rfl) dX6_add_32 (fun σ2 => ?_)
    refine z_aload_n hc dX6_add_33 0 rfl ?_
    refine gfX6_18 hc dX6_add_34 ?_
    refine z_aload_n hc dX6_add_37 0 rfl ?_
    refine gfX6_34 hc dX6_add_38 ?_
    refine z_iload_n hc dX6_add_41 3 rfl ?_
    refine z_iastore hc 26 (by decide) (fun _ _ => rfl) dX6_add_42 (fun σ3 => ?_)
    refine z_aload_n hc dX6_add_43 0 rfl ?_
    refine z_dup hc dX6_add_44 rfl ?_
    refine gfX6_34 hc dX6_add_45 ?_
    refine z_iconst (v := (1 : Int32)) hc dX6_add_48 (by decide) ?_
    refine z_iadd hc dX6_add_49 ?_
    refine pfX6_34 hc dX6_add_50 (fun σ4 => ?_)
    refine z_aload_n hc dX6_add_53 0 rfl ?_
    refine gfX6_34 hc dX6_add_54 ?_
    exact z_iret hc hr dX6_add_57
  · refine z_aload_n hc dX6_add_8 0 rfl ?_
    refine gfX6_34 hc dX6_add_9 ?_
    exact z_iret hc hr dX6_add_12
set_option maxRecDepth 100000 in
set_option maxHeartbeats 4000000 in
theorem tX7_weigh {l : Launch} {D : va_G} {ca : Nat → ClassId} {xa ad : Nat → Nat} {A : Nat → Prop} {N : Nat} {x1 : Int32} {x2 : Int32} {x3 : Int32} {σ : zSt} {a : Int32} {τ : zSt} (h : fX7_weigh N x1 x2 x3 σ = some (a, τ)) : zCt l yX7_weigh cX7_weigh 4 (some .int) rmX7_weigh D ca xa A (zwC ad ca) [.ref (ad 0), .int x1, .int x2, .int x3] σ (zI a) τ := by
  refine z_met (inj := zI) (lv := [(0, .ref (ad 0)), (1, .int x1), (2, .int x2), (3, .int x3)]) (by decide) (Nat.le_of_ble_eq_true rfl) rfl ?_ h
  intro p e s m args below meth c hc hr
  unfold fX7_weigh
  refine z_aload_n hc dX7_weigh_0 0 rfl ?_
  refine gfX7_26 hc dX7_weigh_1 ?_
  refine z_iload_n hc dX7_weigh_4 1 rfl ?_
  refine z_runVNi (b0 := ad 7) (As := [.int x1]) (rest := []) hc dX7_weigh_5 (fun _ _ h => tX2_isGround h) mpX2_isGround miX2_isGround kmX7_192 ⟨rfl, rfl, Nat.le_of_ble_eq_true rfl, Nat.le_of_ble_eq_true rfl⟩ ⟨Nat.le_refl _, Nat.le_refl _⟩ zcC_rc7 rfl (Nat.le_of_ble_eq_true rfl) (fun b1 σ2 => ?_)
  refine z_if_eq (tgt := 19) hc dX7_weigh_8 (by decide) ?_ ?_
  · refine z_ldc hc dX7_weigh_19 kcX7_66 ?_
    exact z_iret hc hr dX7_weigh_21
  · refine z_iload_n hc dX7_weigh_11 2 rfl ?_
    refine z_iload_n hc dX7_weigh_12 3 rfl ?_
    refine z_runSi (As := [.int x2, .int x3]) (rest := []) hc dX7_weigh_13 (fun _ _ h => tX7_isSpan h) mpX7_isSpan miX7_isSpan kmX7_226 ⟨rfl, rfl, Nat.le_of_ble_eq_true rfl, Nat.le_of_ble_eq_true rfl⟩ ⟨Nat.le_refl _, Nat.le_refl _⟩ rfl (Nat.le_of_ble_eq_true rfl) (fun b3 σ4 => ?_)
    refine z_if_ne (tgt := 22) hc dX7_weigh_16 (by decide) ?_ ?_
    · refine z_ldc hc dX7_weigh_19 kcX7_66 ?_
      exact z_iret hc hr dX7_weigh_21
    · refine z_aload_n hc dX7_weigh_22 0 rfl ?_
      refine gfX7_40 hc dX7_weigh_23 ?_
      refine z_iload_n hc dX7_weigh_26 1 rfl ?_
      refine z_runVNi (b0 := ad 23) (As := [.int x1]) (rest := []) hc dX7_weigh_27 (fun _ _ h => tX6_has h) mpX6_has miX6_has kmX7_229 ⟨rfl, rfl, Nat.le_of_ble_eq_true rfl, Nat.le_of_ble_eq_true rfl⟩ ⟨Nat.le_refl _, Nat.le_refl _⟩ zcC_rc23 rfl (Nat.le_of_ble_eq_true rfl) (fun b5 σ6 => ?_)
      refine z_if_eq (tgt := 36) hc dX7_weigh_30 (by decide) ?_ ?_
      · refine z_aload_n hc dX7_weigh_36 0 rfl ?_
        refine gfX7_40 hc dX7_weigh_37 ?_
        refine z_runVNi (b0 := ad 23) (As := []) (rest := []) hc dX7_weigh_40 (fun _ _ h => tX6_isFull h) mpX6_isFull miX6_isFull kmX7_232 ⟨rfl, rfl, Nat.le_of_ble_eq_true rfl, Nat.le_of_ble_eq_true rfl⟩ ⟨Nat.le_refl _, Nat.le_refl _⟩ zcC_rc23 rfl (Nat.le_of_ble_eq_true rfl) (fun b7 σ8 => ?_)
        refine z_if_eq (tgt := 49) hc dX7_weigh_43 (by decide) ?_ ?_
        · refine z_aload_n hc dX7_weigh_49 0 rfl ?_
          refine gfX7_40 hc dX7_weigh_50 ?_
          refine z_iload_n hc dX7_weigh_53 1 rfl ?_
          refine z_iload_n hc dX7_weigh_54 2 rfl ?_
          refine z_iload_n hc dX7_weigh_55 3 rfl ?_
          refine z_runVNi (b0 := ad 23) (As := [.int x1, .int x2, .int x3]) (rest := []) hc dX7_weigh_56 (fun _ _ h => tX6_add h) mpX6_add miX6_add kmX7_236 ⟨rfl, rfl, Nat.le_of_ble_eq_true rfl, Nat.le_of_ble_eq_true rfl⟩ ⟨Nat.le_refl _, Nat.le_refl _⟩ zcC_rc23 rfl (Nat.le_of_ble_eq_true rfl) (fun b9 σ10 => ?_)
          exact z_iret hc hr dX7_weigh_59
        · refine z_ldc hc dX7_weigh_46 kcX7_102 ?_
          exact z_iret hc hr dX7_weigh_48
      · refine z_ldc hc dX7_weigh_33 kcX7_213 ?_
        exact z_iret hc hr dX7_weigh_35
set_option maxRecDepth 100000 in
set_option maxHeartbeats 4000000 in
theorem tX8_weigh_44 {p : Program} {l : Launch} {e : Env} {s : State} {m : MethodId} {args : Array Value} {below : List Frame} {meth : Method} {c : Code} {D : va_G} {ca : Nat → ClassId} {xa ad : Nat → Nat} {A : Nat → Prop} (hc : zCx p s m args meth c cX8_weigh 5 RX8 D ca xa A (zwM ad ca)) (hr : meth.sig.returnType = (some .int)) (N : Nat)   : ∀ (n : Nat) (x1 : Int32) (x2 : Int32) (x3 : Int32) (x4 : Int32) (σ : zSt), zGO p l e rmX8_weigh s m args below meth c 0 0 (zwM ad ca) D A 5 (zQ below D A (zwM ad ca) args s zI) (fX8_weigh_44 N n x1 x2 x3 x4 σ) σ 44 [(0, .ref (ad 0)), (1, .int x1), (2, .int x2), (3, .int x3), (4, .int x4)] [] := by
  intro n
  induction n with
  | zero =>
    intro x1 x2 x3 x4 σ
    exact z_none
  | succ n ih =>
    intro x1 x2 x3 x4 σ
    unfold fX8_weigh_44
    refine z_iload hc dX8_weigh_44 4 rfl ?_
    refine z_aload_n hc dX8_weigh_46 0 rfl ?_
    refine gfX8_270 hc dX8_weigh_47 ?_
    refine z_icmp_ge (tgt := 73) hc dX8_weigh_50 (by decide) ?_ ?_
    · refine z_aload_n hc dX8_weigh_73 0 rfl ?_
      refine gfX8_270 hc dX8_weigh_74 ?_
      refine z_iconst (v := (3 : Int32)) hc dX8_weigh_77 (by decide) ?_
      refine z_icmp_ne (tgt := 84) hc dX8_weigh_78 (by decide) ?_ ?_
      · refine z_ldc hc dX8_weigh_81 kcX8_108 ?_
        exact z_iret hc hr dX8_weigh_83
      · refine z_aload_n hc dX8_weigh_84 0 rfl ?_
        refine gfX8_53 hc dX8_weigh_85 ?_
        refine z_aload_n hc dX8_weigh_88 0 rfl ?_
        refine gfX8_270 hc dX8_weigh_89 ?_
        refine z_iload_n hc dX8_weigh_92 1 rfl ?_
        refine z_iastore hc 15 (by decide) (fun _ _ => rfl) dX8_weigh_93 (fun σ1 => ?_)
        refine z_aload_n hc dX8_weigh_94 0 rfl ?_
        refine gfX8_56 hc dX8_weigh_95 ?_
        refine z_aload_n hc dX8_weigh_98 0 rfl ?_
        refine gfX8_270 hc dX8_weigh_99 ?_
        refine z_iconst (v := (1 : Int32)) hc dX8_weigh_102 (by decide) ?_
        refine z_zastore hc 16 (by decide) (fun _ _ => rfl) dX8_weigh_103 (fun σ2 => ?_)
        refine z_aload_n hc dX8_weigh_104 0 rfl ?_
        refine gfX8_59 hc dX8_weigh_105 ?_
        refine z_aload_n hc dX8_weigh_108 0 rfl ?_
        refine gfX8_270 hc dX8_weigh_109 ?_
        refine z_iload_n hc dX8_weigh_112 2 rfl ?_
        refine z_iastore hc 17 (by decide) (fun _ _ => rfl) dX8_weigh_113 (fun σ3 => ?_)
        refine z_aload_n hc dX8_weigh_114 0 rfl ?_
        refine gfX8_62 hc dX8_weigh_115 ?_
        refine z_aload_n hc dX8_weigh_118 0 rfl ?_
        refine gfX8_270 hc dX8_weigh_119 ?_
        refine z_iload_n hc dX8_weigh_122 3 rfl ?_
        refine z_iastore hc 18 (by decide) (fun _ _ => rfl) dX8_weigh_123 (fun σ4 => ?_)
        refine z_aload_n hc dX8_weigh_124 0 rfl ?_
        refine z_dup hc dX8_weigh_125 rfl ?_
        refine gfX8_270 hc dX8_weigh_126 ?_
        refine z_iconst (v := (1 : Int32)) hc dX8_weigh_129 (by decide) ?_
        refine z_iadd hc dX8_weigh_130 ?_
        refine pfX8_270 hc dX8_weigh_131 (fun σ5 => ?_)
        refine z_aload_n hc dX8_weigh_134 0 rfl ?_
        refine gfX8_270 hc dX8_weigh_135 ?_
        exact z_iret hc hr dX8_weigh_138
    · refine z_aload_n hc dX8_weigh_53 0 rfl ?_
      refine gfX8_53 hc dX8_weigh_54 ?_
      refine z_iload hc dX8_weigh_57 4 rfl ?_
      refine z_iaload hc 15 (by decide) rfl dX8_weigh_59 (fun v6 => ?_)
      refine z_iload_n hc dX8_weigh_60 1 rfl ?_
      refine z_icmp_ne (tgt := 67) hc dX8_weigh_61 (by decide) ?_ ?_
      · refine z_ldc hc dX8_weigh_64 kcX8_247 ?_
        exact z_iret hc hr dX8_weigh_66
      · refine z_iinc (v := (x4 + (1 : Int32))) (lv' := [(4, .int (x4 + (1 : Int32))), (0, .ref (ad 0)), (1, .int x1), (2, .int x2), (3, .int x3)]) hc dX8_weigh_67 4 rfl rfl (by decide) rfl ?_
        refine z_goto (tgt := 44) hc dX8_weigh_70 (by decide) ?_
        refine z_sub [1, 2, 3, 4, 0] rfl ?_
        exact ih _ _ _ _ _
set_option maxRecDepth 100000 in
set_option maxHeartbeats 4000000 in
theorem tX8_weigh {l : Launch} {D : va_G} {ca : Nat → ClassId} {xa ad : Nat → Nat} {A : Nat → Prop} {N : Nat} {x1 : Int32} {x2 : Int32} {x3 : Int32} {σ : zSt} {a : Int32} {τ : zSt} (h : fX8_weigh N x1 x2 x3 σ = some (a, τ)) : zCt l yX8_weigh cX8_weigh 5 (some .int) rmX8_weigh D ca xa A (zwM ad ca) [.ref (ad 0), .int x1, .int x2, .int x3] σ (zI a) τ := by
  refine z_met (inj := zI) (lv := [(0, .ref (ad 0)), (1, .int x1), (2, .int x2), (3, .int x3)]) (by decide) (Nat.le_of_ble_eq_true rfl) rfl ?_ h
  intro p e s m args below meth c hc hr
  unfold fX8_weigh
  refine z_aload_n hc dX8_weigh_0 0 rfl ?_
  refine z_iconst (v := (0 : Int32)) hc dX8_weigh_1 (by decide) ?_
  refine pfX8_78 hc dX8_weigh_2 (fun σ1 => ?_)
  refine z_aload_n hc dX8_weigh_5 0 rfl ?_
  refine z_iload_n hc dX8_weigh_6 1 rfl ?_
  refine z_runVi (b0 := ad 0) (As := [.int x1]) (rest := []) hc dX8_weigh_7 (fun _ _ h => tX8_isLeaf h) mpX8_isLeaf miX8_isLeaf kmX8_263 ⟨rfl, rfl, Nat.le_of_ble_eq_true rfl, Nat.le_of_ble_eq_true rfl⟩ ⟨Nat.le_refl _, Nat.le_refl _⟩ zcM_rc0 rfl (Nat.le_of_ble_eq_true rfl) (fun b2 σ3 => ?_)
  refine z_if_eq (tgt := 38) hc dX8_weigh_10 (by decide) ?_ ?_
  · refine z_ldc hc dX8_weigh_38 kcX8_98 ?_
    exact z_iret hc hr dX8_weigh_40
  · refine z_iload_n hc dX8_weigh_13 2 rfl ?_
    refine z_i2l hc dX8_weigh_14 ?_
    refine z_lconst (v := (0 : Int64)) hc dX8_weigh_15 (by decide) ?_
    refine z_ldc2 hc dX8_weigh_16 kcX8_268 ?_
    refine z_runSi (As := [.long x2.toInt64, .long (0 : Int64), .long (100 : Int64)]) (rest := []) hc dX8_weigh_19 (fun _ _ h => tX8_in h) mpX8_in miX8_in kmX8_88 ⟨rfl, rfl, Nat.le_of_ble_eq_true rfl, Nat.le_of_ble_eq_true rfl⟩ ⟨Nat.le_refl _, Nat.le_refl _⟩ rfl (Nat.le_of_ble_eq_true rfl) (fun b4 σ5 => ?_)
    refine z_if_eq (tgt := 38) hc dX8_weigh_22 (by decide) ?_ ?_
    · refine z_ldc hc dX8_weigh_38 kcX8_98 ?_
      exact z_iret hc hr dX8_weigh_40
    · refine z_iload_n hc dX8_weigh_25 3 rfl ?_
      refine z_i2l hc dX8_weigh_26 ?_
      refine z_iload_n hc dX8_weigh_27 2 rfl ?_
      refine z_i2l hc dX8_weigh_28 ?_
      refine z_ldc2 hc dX8_weigh_29 kcX8_268 ?_
      refine z_runSi (As := [.long x3.toInt64, .long x2.toInt64, .long (100 : Int64)]) (rest := []) hc dX8_weigh_32 (fun _ _ h => tX8_in h) mpX8_in miX8_in kmX8_88 ⟨rfl, rfl, Nat.le_of_ble_eq_true rfl, Nat.le_of_ble_eq_true rfl⟩ ⟨Nat.le_refl _, Nat.le_refl _⟩ rfl (Nat.le_of_ble_eq_true rfl) (fun b6 σ7 => ?_)
      refine z_if_ne (tgt := 41) hc dX8_weigh_35 (by decide) ?_ ?_
      · refine z_ldc hc dX8_weigh_38 kcX8_98 ?_
        exact z_iret hc hr dX8_weigh_40
      · refine z_iconst (v := (0 : Int32)) hc dX8_weigh_41 (by decide) ?_
        refine z_istore (lv' := [(4, .int (0 : Int32)), (0, .ref (ad 0)), (1, .int x1), (2, .int x2), (3, .int x3)]) hc dX8_weigh_42 (by decide) rfl ?_
        refine z_sub [1, 2, 3, 4, 0] rfl ?_
        exact tX8_weigh_44 hc hr N N _ _ _ _ _
set_option maxRecDepth 100000 in
set_option maxHeartbeats 4000000 in
theorem tX6_isPlace {l : Launch} {D : va_G} {ca : Nat → ClassId} {xa ad : Nat → Nat} {A : Nat → Prop} {N : Nat} {x1 : Int32} {σ : zSt} {a : Int32} {τ : zSt} (h : fX6_isPlace N x1 σ = some (a, τ)) : zCt l yX6_isPlace cX6_isPlace 2 (some .boolean) rmX6_isPlace D ca xa A (zwC ad ca) [.ref (ad 23), .int x1] σ (zI a) τ := by
  refine z_met (inj := zI) (lv := [(0, .ref (ad 23)), (1, .int x1)]) (by decide) (Nat.le_of_ble_eq_true rfl) rfl ?_ h
  intro p e s m args below meth c hc hr
  unfold fX6_isPlace
  refine z_iload_n hc dX6_isPlace_0 1 rfl ?_
  refine z_if_lt (tgt := 16) hc dX6_isPlace_1 (by decide) ?_ ?_
  · refine z_iconst (v := (0 : Int32)) hc dX6_isPlace_16 (by decide) ?_
    exact z_zret hc hr dX6_isPlace_17
  · refine z_iload_n hc dX6_isPlace_4 1 rfl ?_
    refine z_aload_n hc dX6_isPlace_5 0 rfl ?_
    refine gfX6_34 hc dX6_isPlace_6 ?_
    refine z_icmp_ge (tgt := 16) hc dX6_isPlace_9 (by decide) ?_ ?_
    · refine z_iconst (v := (0 : Int32)) hc dX6_isPlace_16 (by decide) ?_
      exact z_zret hc hr dX6_isPlace_17
    · refine z_iconst (v := (1 : Int32)) hc dX6_isPlace_12 (by decide) ?_
      refine z_goto (tgt := 17) hc dX6_isPlace_13 (by decide) ?_
      exact z_zret hc hr dX6_isPlace_17
set_option maxRecDepth 100000 in
set_option maxHeartbeats 4000000 in
theorem tX6_tellPair {l : Launch} {D : va_G} {ca : Nat → ClassId} {xa ad : Nat → Nat} {A : Nat → Prop} {N : Nat} {x1 : Int32} {x2 : Int32} {x3 : Int32} {x4 : Int32} {σ : zSt} {a : Unit} {τ : zSt} (h : fX6_tellPair N x1 x2 x3 x4 σ = some (a, τ)) : zCt l yX6_tellPair cX6_tellPair 5 none rmX6_tellPair D ca xa A (zwC ad ca) [.ref (ad 23), .int x1, .int x2, .int x3, .int x4] σ (zV a) τ := by
  refine z_met (inj := zV) (lv := [(0, .ref (ad 23)), (1, .int x1), (2, .int x2), (3, .int x3), (4, .int x4)]) (by decide) (Nat.le_of_ble_eq_true rfl) rfl ?_ h
  intro p e s m args below meth c hc hr
  unfold fX6_tellPair
  refine z_aload_n hc dX6_tellPair_0 0 rfl ?_
  refine gfX6_21 hc dX6_tellPair_1 ?_
  refine z_iload_n hc dX6_tellPair_4 1 rfl ?_
  refine z_iload_n hc dX6_tellPair_5 2 rfl ?_
  refine z_iadd hc dX6_tellPair_6 ?_
  refine z_iconst (v := (1 : Int32)) hc dX6_tellPair_7 (by decide) ?_
  refine z_isub hc dX6_tellPair_8 ?_
  refine z_iload_n hc dX6_tellPair_9 3 rfl ?_
  refine z_iastore hc 27 (by decide) (fun _ _ => rfl) dX6_tellPair_10 (fun σ1 => ?_)
  refine z_aload_n hc dX6_tellPair_11 0 rfl ?_
  refine gfX6_24 hc dX6_tellPair_12 ?_
  refine z_iload_n hc dX6_tellPair_15 1 rfl ?_
  refine z_iload_n hc dX6_tellPair_16 2 rfl ?_
  refine z_iadd hc dX6_tellPair_17 ?_
  refine z_iconst (v := (1 : Int32)) hc dX6_tellPair_18 (by decide) ?_
  refine z_isub hc dX6_tellPair_19 ?_
  refine z_iload hc dX6_tellPair_20 4 rfl ?_
  refine z_iastore hc 28 (by decide) (fun _ _ => rfl) dX6_tellPair_22 (fun σ2 => ?_)
  exact z_vret hc hr dX6_tellPair_23
set_option maxRecDepth 100000 in
set_option maxHeartbeats 4000000 in
theorem tX7_pair {l : Launch} {D : va_G} {ca : Nat → ClassId} {xa ad : Nat → Nat} {A : Nat → Prop} {N : Nat} {x1 : Int32} {x2 : Int32} {x3 : Int32} {x4 : Int32} {σ : zSt} {a : Int32} {τ : zSt} (h : fX7_pair N x1 x2 x3 x4 σ = some (a, τ)) : zCt l yX7_pair cX7_pair 5 (some .int) rmX7_pair D ca xa A (zwC ad ca) [.ref (ad 0), .int x1, .int x2, .int x3, .int x4] σ (zI a) τ := by
  refine z_met (inj := zI) (lv := [(0, .ref (ad 0)), (1, .int x1), (2, .int x2), (3, .int x3), (4, .int x4)]) (by decide) (Nat.le_of_ble_eq_true rfl) rfl ?_ h
  intro p e s m args below meth c hc hr
  unfold fX7_pair
  refine z_aload_n hc dX7_pair_0 0 rfl ?_
  refine gfX7_40 hc dX7_pair_1 ?_
  refine z_iload_n hc dX7_pair_4 1 rfl ?_
  refine z_runVNi (b0 := ad 23) (As := [.int x1]) (rest := []) hc dX7_pair_5 (fun _ _ h => tX6_isPlace h) mpX6_isPlace miX6_isPlace kmX7_239 ⟨rfl, rfl, Nat.le_of_ble_eq_true rfl, Nat.le_of_ble_eq_true rfl⟩ ⟨Nat.le_refl _, Nat.le_refl _⟩ zcC_rc23 rfl (Nat.le_of_ble_eq_true rfl) (fun b1 σ2 => ?_)
  refine z_if_eq (tgt := 36) hc dX7_pair_8 (by decide) ?_ ?_
  · refine z_ldc hc dX7_pair_36 kcX7_66 ?_
    exact z_iret hc hr dX7_pair_38
  · refine z_aload_n hc dX7_pair_11 0 rfl ?_
    refine gfX7_40 hc dX7_pair_12 ?_
    refine z_iload_n hc dX7_pair_15 2 rfl ?_
    refine z_runVNi (b0 := ad 23) (As := [.int x2]) (rest := []) hc dX7_pair_16 (fun _ _ h => tX6_isPlace h) mpX6_isPlace miX6_isPlace kmX7_239 ⟨rfl, rfl, Nat.le_of_ble_eq_true rfl, Nat.le_of_ble_eq_true rfl⟩ ⟨Nat.le_refl _, Nat.le_refl _⟩ zcC_rc23 rfl (Nat.le_of_ble_eq_true rfl) (fun b3 σ4 => ?_)
    refine z_if_eq (tgt := 36) hc dX7_pair_19 (by decide) ?_ ?_
    · refine z_ldc hc dX7_pair_36 kcX7_66 ?_
      exact z_iret hc hr dX7_pair_38
    · refine z_iload_n hc dX7_pair_22 1 rfl ?_
      refine z_iload_n hc dX7_pair_23 2 rfl ?_
      refine z_icmp_eq (tgt := 36) hc dX7_pair_24 (by decide) ?_ ?_
      · refine z_ldc hc dX7_pair_36 kcX7_66 ?_
        exact z_iret hc hr dX7_pair_38
      · refine z_iload_n hc dX7_pair_27 3 rfl ?_
        refine z_iload hc dX7_pair_28 4 rfl ?_
        refine z_runSi (As := [.int x3, .int x4]) (rest := []) hc dX7_pair_30 (fun _ _ h => tX7_isSpan h) mpX7_isSpan miX7_isSpan kmX7_226 ⟨rfl, rfl, Nat.le_of_ble_eq_true rfl, Nat.le_of_ble_eq_true rfl⟩ ⟨Nat.le_refl _, Nat.le_refl _⟩ rfl (Nat.le_of_ble_eq_true rfl) (fun b5 σ6 => ?_)
        refine z_if_ne (tgt := 39) hc dX7_pair_33 (by decide) ?_ ?_
        · refine z_ldc hc dX7_pair_36 kcX7_66 ?_
          exact z_iret hc hr dX7_pair_38
        · refine z_aload_n hc dX7_pair_39 0 rfl ?_
          refine gfX7_40 hc dX7_pair_40 ?_
          refine z_iload_n hc dX7_pair_43 1 rfl ?_
          refine z_iload_n hc dX7_pair_44 2 rfl ?_
          refine z_iload_n hc dX7_pair_45 3 rfl ?_
          refine z_iload hc dX7_pair_46 4 rfl ?_
          refine z_runVNv (b0 := ad 23) (As := [.int x1, .int x2, .int x3, .int x4]) (rest := []) hc dX7_pair_48 (fun _ _ h => tX6_tellPair h) mpX6_tellPair miX6_tellPair kmX7_242 ⟨rfl, rfl, Nat.le_of_ble_eq_true rfl, Nat.le_of_ble_eq_true rfl⟩ ⟨Nat.le_refl _, Nat.le_refl _⟩ zcC_rc23 rfl (Nat.le_of_ble_eq_true rfl) (fun b7 σ8 => ?_)
          refine z_iconst (v := (1 : Int32)) hc dX7_pair_51 (by decide) ?_
          exact z_iret hc hr dX7_pair_52
set_option maxRecDepth 100000 in
set_option maxHeartbeats 4000000 in
theorem tX8_pair {l : Launch} {D : va_G} {ca : Nat → ClassId} {xa ad : Nat → Nat} {A : Nat → Prop} {N : Nat} {x1 : Int32} {x2 : Int32} {x3 : Int32} {x4 : Int32} {σ : zSt} {a : Int32} {τ : zSt} (h : fX8_pair N x1 x2 x3 x4 σ = some (a, τ)) : zCt l yX8_pair cX8_pair 5 (some .int) rmX8_pair D ca xa A (zwM ad ca) [.ref (ad 0), .int x1, .int x2, .int x3, .int x4] σ (zI a) τ := by
  refine z_met (inj := zI) (lv := [(0, .ref (ad 0)), (1, .int x1), (2, .int x2), (3, .int x3), (4, .int x4)]) (by decide) (Nat.le_of_ble_eq_true rfl) rfl ?_ h
  intro p e s m args below meth c hc hr
  unfold fX8_pair
  refine z_aload_n hc dX8_pair_0 0 rfl ?_
  refine z_iconst (v := (0 : Int32)) hc dX8_pair_1 (by decide) ?_
  refine pfX8_78 hc dX8_pair_2 (fun σ1 => ?_)
  refine z_iload_n hc dX8_pair_5 1 rfl ?_
  refine z_i2l hc dX8_pair_6 ?_
  refine z_lconst (v := (0 : Int64)) hc dX8_pair_7 (by decide) ?_
  refine z_aload_n hc dX8_pair_8 0 rfl ?_
  refine gfX8_270 hc dX8_pair_9 ?_
  refine z_iconst (v := (1 : Int32)) hc dX8_pair_12 (by decide) ?_
  refine z_isub hc dX8_pair_13 ?_
  refine z_i2l hc dX8_pair_14 ?_
  refine z_runSi (As := [.long x1.toInt64, .long (0 : Int64), .long ((σ1.1 0 31) - (1 : Int32)).toInt64]) (rest := []) hc dX8_pair_15 (fun _ _ h => tX8_in h) mpX8_in miX8_in kmX8_88 ⟨rfl, rfl, Nat.le_of_ble_eq_true rfl, Nat.le_of_ble_eq_true rfl⟩ ⟨Nat.le_refl _, Nat.le_refl _⟩ rfl (Nat.le_of_ble_eq_true rfl) (fun b2 σ3 => ?_)
  refine z_if_eq (tgt := 68) hc dX8_pair_18 (by decide) ?_ ?_
  · refine z_ldc hc dX8_pair_68 kcX8_98 ?_
    exact z_iret hc hr dX8_pair_70
  · refine z_iload_n hc dX8_pair_21 2 rfl ?_
    refine z_i2l hc dX8_pair_22 ?_
    refine z_lconst (v := (0 : Int64)) hc dX8_pair_23 (by decide) ?_
    refine z_aload_n hc dX8_pair_24 0 rfl ?_
    refine gfX8_270 hc dX8_pair_25 ?_
    refine z_iconst (v := (1 : Int32)) hc dX8_pair_28 (by decide) ?_
    refine z_isub hc dX8_pair_29 ?_
    refine z_i2l hc dX8_pair_30 ?_
    refine z_runSi (As := [.long x2.toInt64, .long (0 : Int64), .long ((σ3.1 0 31) - (1 : Int32)).toInt64]) (rest := []) hc dX8_pair_31 (fun _ _ h => tX8_in h) mpX8_in miX8_in kmX8_88 ⟨rfl, rfl, Nat.le_of_ble_eq_true rfl, Nat.le_of_ble_eq_true rfl⟩ ⟨Nat.le_refl _, Nat.le_refl _⟩ rfl (Nat.le_of_ble_eq_true rfl) (fun b4 σ5 => ?_)
    refine z_if_eq (tgt := 68) hc dX8_pair_34 (by decide) ?_ ?_
    · refine z_ldc hc dX8_pair_68 kcX8_98 ?_
      exact z_iret hc hr dX8_pair_70
    · refine z_iload_n hc dX8_pair_37 1 rfl ?_
      refine z_iload_n hc dX8_pair_38 2 rfl ?_
      refine z_icmp_eq (tgt := 68) hc dX8_pair_39 (by decide) ?_ ?_
      · refine z_ldc hc dX8_pair_68 kcX8_98 ?_
        exact z_iret hc hr dX8_pair_70
      · refine z_iload_n hc dX8_pair_42 3 rfl ?_
        refine z_i2l hc dX8_pair_43 ?_
        refine z_lconst (v := (0 : Int64)) hc dX8_pair_44 (by decide) ?_
        refine z_ldc2 hc dX8_pair_45 kcX8_268 ?_
        refine z_runSi (As := [.long x3.toInt64, .long (0 : Int64), .long (100 : Int64)]) (rest := []) hc dX8_pair_48 (fun _ _ h => tX8_in h) mpX8_in miX8_in kmX8_88 ⟨rfl, rfl, Nat.le_of_ble_eq_true rfl, Nat.le_of_ble_eq_true rfl⟩ ⟨Nat.le_refl _, Nat.le_refl _⟩ rfl (Nat.le_of_ble_eq_true rfl) (fun b6 σ7 => ?_)
        refine z_if_eq (tgt := 68) hc dX8_pair_51 (by decide) ?_ ?_
        · refine z_ldc hc dX8_pair_68 kcX8_98 ?_
          exact z_iret hc hr dX8_pair_70
        · refine z_iload hc dX8_pair_54 4 rfl ?_
          refine z_i2l hc dX8_pair_56 ?_
          refine z_iload_n hc dX8_pair_57 3 rfl ?_
          refine z_i2l hc dX8_pair_58 ?_
          refine z_ldc2 hc dX8_pair_59 kcX8_268 ?_
          refine z_runSi (As := [.long x4.toInt64, .long x3.toInt64, .long (100 : Int64)]) (rest := []) hc dX8_pair_62 (fun _ _ h => tX8_in h) mpX8_in miX8_in kmX8_88 ⟨rfl, rfl, Nat.le_of_ble_eq_true rfl, Nat.le_of_ble_eq_true rfl⟩ ⟨Nat.le_refl _, Nat.le_refl _⟩ rfl (Nat.le_of_ble_eq_true rfl) (fun b8 σ9 => ?_)
          refine z_if_ne (tgt := 71) hc dX8_pair_65 (by decide) ?_ ?_
          · refine z_ldc hc dX8_pair_68 kcX8_98 ?_
            exact z_iret hc hr dX8_pair_70
          · refine z_aload_n hc dX8_pair_71 0 rfl ?_
            refine gfX8_56 hc dX8_pair_72 ?_
            refine z_iconst (v := (2 : Int32)) hc dX8_pair_75 (by decide) ?_
            refine z_iload_n hc dX8_pair_76 1 rfl ?_
            refine z_iadd hc dX8_pair_77 ?_
            refine z_iload_n hc dX8_pair_78 2 rfl ?_
            refine z_iadd hc dX8_pair_79 ?_
            refine z_iconst (v := (1 : Int32)) hc dX8_pair_80 (by decide) ?_
            refine z_zastore hc 16 (by decide) (fun _ _ => rfl) dX8_pair_81 (fun σ10 => ?_)
            refine z_aload_n hc dX8_pair_82 0 rfl ?_
            refine gfX8_59 hc dX8_pair_83 ?_
            refine z_iconst (v := (2 : Int32)) hc dX8_pair_86 (by decide) ?_
            refine z_iload_n hc dX8_pair_87 1 rfl ?_
            refine z_iadd hc dX8_pair_88 ?_
            refine z_iload_n hc dX8_pair_89 2 rfl ?_
            refine z_iadd hc dX8_pair_90 ?_
            refine z_iload_n hc dX8_pair_91 3 rfl ?_
            refine z_iastore hc 17 (by decide) (fun _ _ => rfl) dX8_pair_92 (fun σ11 => ?_)
            refine z_aload_n hc dX8_pair_93 0 rfl ?_
            refine gfX8_62 hc dX8_pair_94 ?_
            refine z_iconst (v := (2 : Int32)) hc dX8_pair_97 (by decide) ?_
            refine z_iload_n hc dX8_pair_98 1 rfl ?_
            refine z_iadd hc dX8_pair_99 ?_
            refine z_iload_n hc dX8_pair_100 2 rfl ?_
            refine z_iadd hc dX8_pair_101 ?_
            refine z_iload hc dX8_pair_102 4 rfl ?_
            refine z_iastore hc 18 (by decide) (fun _ _ => rfl) dX8_pair_104 (fun σ12 => ?_)
            refine z_iconst (v := (1 : Int32)) hc dX8_pair_105 (by decide) ?_
            exact z_iret hc hr dX8_pair_106
set_option maxRecDepth 100000 in
set_option maxHeartbeats 4000000 in
theorem tX6_clear_12 {p : Program} {l : Launch} {e : Env} {s : State} {m : MethodId} {args : Array Value} {below : List Frame} {meth : Method} {c : Code} {D : va_G} {ca : Nat → ClassId} {xa ad : Nat → Nat} {A : Nat → Prop} (hc : zCx p s m args meth c cX6_clear 3 RX6 D ca xa A (zwC ad ca)) (hr : meth.sig.returnType = (some .int)) (N : Nat)   : ∀ (n : Nat) (x1 : Int32) (x2 : Int32) (σ : zSt), zGO p l e rmX6_clear s m args below meth c 0 0 (zwC ad ca) D A 3 (zQ below D A (zwC ad ca) args s zI) (fX6_clear_12 N n x1 x2 σ) σ 12 [(0, .ref (ad 23)), (1, .int x1), (2, .int x2)] [] := by
  intro n
  induction n with
  | zero =>
    intro x1 x2 σ
    exact z_none
  | succ n ih =>
    intro x1 x2 σ
    unfold fX6_clear_12
    refine z_iload_n hc dX6_clear_12 2 rfl ?_
    refine z_iconst (v := (3 : Int32)) hc dX6_clear_13 (by decide) ?_
    refine z_icmp_ge (tgt := 38) hc dX6_clear_14 (by decide) ?_ ?_
    · refine z_iload_n hc dX6_clear_38 1 rfl ?_
      exact z_iret hc hr dX6_clear_39
    · refine z_aload_n hc dX6_clear_17 0 rfl ?_
      refine gfX6_21 hc dX6_clear_18 ?_
      refine z_iload_n hc dX6_clear_21 2 rfl ?_
      refine z_iconst (v := (0 : Int32)) hc dX6_clear_22 (by decide) ?_
      refine z_iastore hc 27 (by decide) (fun _ _ => rfl) dX6_clear_23 (fun σ1 => ?_)
      refine z_aload_n hc dX6_clear_24 0 rfl ?_
      refine gfX6_24 hc dX6_clear_25 ?_
      refine z_iload_n hc dX6_clear_28 2 rfl ?_
      refine z_bipush (v := (100 : Int32)) hc dX6_clear_29 (by decide) ?_
      refine z_iastore hc 28 (by decide) (fun _ _ => rfl) dX6_clear_31 (fun σ2 => ?_)
      refine z_iinc (v := (x2 + (1 : Int32))) (lv' := [(2, .int (x2 + (1 : Int32))), (0, .ref (ad 23)), (1, .int x1)]) hc dX6_clear_32 2 rfl rfl (by decide) rfl ?_
      refine z_goto (tgt := 12) hc dX6_clear_35 (by decide) ?_
      refine z_sub [1, 2, 0] rfl ?_
      exact ih _ _ _
set_option maxRecDepth 100000 in
set_option maxHeartbeats 4000000 in
theorem tX6_clear {l : Launch} {D : va_G} {ca : Nat → ClassId} {xa ad : Nat → Nat} {A : Nat → Prop} {N : Nat}  {σ : zSt} {a : Int32} {τ : zSt} (h : fX6_clear N σ = some (a, τ)) : zCt l yX6_clear cX6_clear 3 (some .int) rmX6_clear D ca xa A (zwC ad ca) [.ref (ad 23)] σ (zI a) τ := by
  refine z_met (inj := zI) (lv := [(0, .ref (ad 23))]) (by decide) (Nat.le_of_ble_eq_true rfl) rfl ?_ h
  intro p e s m args below meth c hc hr
  unfold fX6_clear
  refine z_aload_n hc dX6_clear_0 0 rfl ?_
  refine gfX6_34 hc dX6_clear_1 ?_
  refine z_nm (fun v1 => ?_)
  refine z_istore_n (lv' := [(1, .int v1), (0, .ref (ad 23))]) hc dX6_clear_4 rfl (by decide) rfl ?_
  refine z_aload_n hc dX6_clear_5 1 rfl ?_
  refine z_iconst (v := (0 : Int32)) hc dX6_clear_6 (by decide) ?_
  refine pfX6_34 hc dX6_clear_7 (fun σ2 => ?_)
  refine z_iconst (v := (0 : Int32)) hc dX6_clear_10 (by decide) ?_
  refine z_istore_n (lv' := [(2, .int (0 : Int32)), (1, .int v1), (0, .ref (ad 23))]) hc dX6_clear_11 rfl (by decide) rfl ?_
  refine z_sub [2, 1, 0] rfl ?_
  exact tX6_clear_12 hc hr N N _ _ _
set_option maxRecDepth 100000 in
set_option maxHeartbeats 4000000 in
theorem tX7_unweigh {l : Launch} {D : va_G} {ca : Nat → ClassId} {xa ad : Nat → Nat} {A : Nat → Prop} {N : Nat}  {σ : zSt} {a : Int32} {τ : zSt} (h : fX7_unweigh N σ = some (a, τ)) : zCt l yX7_unweigh cX7_unweigh 1 (some .int) rmX7_unweigh D ca xa A (zwC ad ca) [.ref (ad 0)] σ (zI a) τ := by
  refine z_met (inj := zI) (lv := [(0, .ref (ad 0))]) (by decide) (Nat.le_of_ble_eq_true rfl) rfl ?_ h
  intro p e s m args below meth c hc hr
  unfold fX7_unweigh
  refine z_aload_n hc dX7_unweigh_0 0 rfl ?_
  refine gfX7_40 hc dX7_unweigh_1 ?_
  refine z_runVNi (b0 := ad 23) (As := []) (rest := []) hc dX7_unweigh_4 (fun _ _ h => tX6_clear h) mpX6_clear miX6_clear kmX7_246 ⟨rfl, rfl, Nat.le_of_ble_eq_true rfl, Nat.le_of_ble_eq_true rfl⟩ ⟨Nat.le_refl _, Nat.le_refl _⟩ zcC_rc23 rfl (Nat.le_of_ble_eq_true rfl) (fun b1 σ2 => ?_)
  exact z_iret hc hr dX7_unweigh_7
set_option maxRecDepth 100000 in
set_option maxHeartbeats 4000000 in
theorem tX8_unweigh_17 {p : Program} {l : Launch} {e : Env} {s : State} {m : MethodId} {args : Array Value} {below : List Frame} {meth : Method} {c : Code} {D : va_G} {ca : Nat → ClassId} {xa ad : Nat → Nat} {A : Nat → Prop} (hc : zCx p s m args meth c cX8_unweigh 3 RX8 D ca xa A (zwM ad ca)) (hr : meth.sig.returnType = (some .int)) (N : Nat)   : ∀ (n : Nat) (x1 : Int32) (x2 : Int32) (σ : zSt), zGO p l e rmX8_unweigh s m args below meth c 0 0 (zwM ad ca) D A 3 (zQ below D A (zwM ad ca) args s zI) (fX8_unweigh_17 N n x1 x2 σ) σ 17 [(0, .ref (ad 0)), (1, .int x1), (2, .int x2)] [] := by
  intro n
  induction n with
  | zero =>
    intro x1 x2 σ
    exact z_none
  | succ n ih =>
    intro x1 x2 σ
    unfold fX8_unweigh_17
    refine z_iload_n hc dX8_unweigh_17 2 rfl ?_
    refine z_bipush (v := (6 : Int32)) hc dX8_unweigh_18 (by decide) ?_
    refine z_icmp_ge (tgt := 36) hc dX8_unweigh_20 (by decide) ?_ ?_
    · refine z_iload_n hc dX8_unweigh_36 1 rfl ?_
      exact z_iret hc hr dX8_unweigh_37
    · refine z_aload_n hc dX8_unweigh_23 0 rfl ?_
      refine gfX8_56 hc dX8_unweigh_24 ?_
      refine z_iload_n hc dX8_unweigh_27 2 rfl ?_
      refine z_iconst (v := (0 : Int32)) hc dX8_unweigh_28 (by decide) ?_
      refine z_zastore hc 16 (by decide) (fun _ _ => rfl) dX8_unweigh_29 (fun σ1 => ?_)
      refine z_iinc (v := (x2 + (1 : Int32))) (lv' := [(2, .int (x2 + (1 : Int32))), (0, .ref (ad 0)), (1, .int x1)]) hc dX8_unweigh_30 2 rfl rfl (by decide) rfl ?_
      refine z_goto (tgt := 17) hc dX8_unweigh_33 (by decide) ?_
      refine z_sub [1, 2, 0] rfl ?_
      exact ih _ _ _
set_option maxRecDepth 100000 in
set_option maxHeartbeats 4000000 in
theorem tX8_unweigh {l : Launch} {D : va_G} {ca : Nat → ClassId} {xa ad : Nat → Nat} {A : Nat → Prop} {N : Nat}  {σ : zSt} {a : Int32} {τ : zSt} (h : fX8_unweigh N σ = some (a, τ)) : zCt l yX8_unweigh cX8_unweigh 3 (some .int) rmX8_unweigh D ca xa A (zwM ad ca) [.ref (ad 0)] σ (zI a) τ := by
  refine z_met (inj := zI) (lv := [(0, .ref (ad 0))]) (by decide) (Nat.le_of_ble_eq_true rfl) rfl ?_ h
  intro p e s m args below meth c hc hr
  unfold fX8_unweigh
  refine z_aload_n hc dX8_unweigh_0 0 rfl ?_
  refine z_iconst (v := (0 : Int32)) hc dX8_unweigh_1 (by decide) ?_
  refine pfX8_78 hc dX8_unweigh_2 (fun σ1 => ?_)
  refine z_aload_n hc dX8_unweigh_5 0 rfl ?_
  refine gfX8_270 hc dX8_unweigh_6 ?_
  refine z_nm (fun v2 => ?_)
  refine z_istore_n (lv' := [(1, .int v2), (0, .ref (ad 0))]) hc dX8_unweigh_9 rfl (by decide) rfl ?_
  refine z_aload_n hc dX8_unweigh_10 1 rfl ?_
  refine z_iconst (v := (0 : Int32)) hc dX8_unweigh_11 (by decide) ?_
  refine pfX8_270 hc dX8_unweigh_12 (fun σ3 => ?_)
  refine z_iconst (v := (0 : Int32)) hc dX8_unweigh_15 (by decide) ?_
  refine z_istore_n (lv' := [(2, .int (0 : Int32)), (1, .int v2), (0, .ref (ad 0))]) hc dX8_unweigh_16 rfl (by decide) rfl ?_
  refine z_sub [2, 1, 0] rfl ?_
  exact tX8_unweigh_17 hc hr N N _ _ _
set_option maxRecDepth 100000 in
set_option maxHeartbeats 4000000 in
theorem tX4_addRow_13 {p : Program} {l : Launch} {e : Env} {s : State} {m : MethodId} {args : Array Value} {below : List Frame} {meth : Method} {c : Code} {D : va_G} {ca : Nat → ClassId} {xa ad : Nat → Nat} {A : Nat → Prop} (hc : zCx p s m args meth c cX4_addRow 5 RX4 D ca xa A (zwC ad ca)) (hr : meth.sig.returnType = none) (N : Nat)   : ∀ (n : Nat) (x1 : Int32) (x2 : Int32) (x3 : Int32) (x4 : Int32) (σ : zSt), zGO p l e rmX4_addRow s m args below meth c 0 0 (zwC ad ca) D A 5 (zQ below D A (zwC ad ca) args s zV) (fX4_addRow_13 N n x1 x2 x3 x4 σ) σ 13 [(0, .ref (ad 29)), (1, .int x1), (2, .int x2), (3, .int x3), (4, .int x4)] [] := by
  intro n
  induction n with
  | zero =>
    intro x1 x2 x3 x4 σ
    exact z_none
  | succ n ih =>
    intro x1 x2 x3 x4 σ
    unfold fX4_addRow_13
    refine z_iload hc dX4_addRow_13 4 rfl ?_
    refine z_aload_n hc dX4_addRow_15 0 rfl ?_
    refine gfX4_27 hc dX4_addRow_16 ?_
    refine z_icmp_ge (tgt := 49) hc dX4_addRow_19 (by decide) ?_ ?_
    · refine z_aload_n hc dX4_addRow_49 0 rfl ?_
      refine gfX4_11 hc dX4_addRow_50 ?_
      refine z_aload_n hc dX4_addRow_53 0 rfl ?_
      refine gfX4_35 hc dX4_addRow_54 ?_
      refine z_aaload hc 30 (by decide) (r := fun j => ad (35 + j)) (n0 := 15) rfl dX4_addRow_57 (fun r1 hr1 => ?_)
      refine z_aload_n hc dX4_addRow_58 0 rfl ?_
      refine gfX4_27 hc dX4_addRow_59 ?_
      refine z_iload_n hc dX4_addRow_62 3 rfl ?_
      refine z_i2l hc dX4_addRow_63 ?_
      refine z_lastore hc (35 + r1) (by omega) (zcC_row hr1) dX4_addRow_64 (fun σ2 => ?_)
      refine z_aload_n hc dX4_addRow_65 0 rfl ?_
      refine gfX4_14 hc dX4_addRow_66 ?_
      refine z_aload_n hc dX4_addRow_69 0 rfl ?_
      refine gfX4_35 hc dX4_addRow_70 ?_
      refine z_bipush (v := (8 : Int32)) hc dX4_addRow_73 (by decide) ?_
      refine z_aload_n hc dX4_addRow_75 0 rfl ?_
      refine gfX4_35 hc dX4_addRow_76 ?_
      refine z_iadd hc dX4_addRow_79 ?_
      refine z_iastore hc 31 (by decide) (fun _ _ => rfl) dX4_addRow_80 (fun σ3 => ?_)
      refine z_aload_n hc dX4_addRow_81 0 rfl ?_
      refine z_dup hc dX4_addRow_82 rfl ?_
      refine gfX4_35 hc dX4_addRow_83 ?_
      refine z_iconst (v := (1 : Int32)) hc dX4_addRow_86 (by decide) ?_
      refine z_iadd hc dX4_addRow_87 ?_
      refine pfX4_35 hc dX4_addRow_88 (fun σ4 => ?_)
      exact z_vret hc hr dX4_addRow_91
    · refine z_aload_n hc dX4_addRow_22 0 rfl ?_
      refine gfX4_11 hc dX4_addRow_23 ?_
      refine z_aload_n hc dX4_addRow_26 0 rfl ?_
      refine gfX4_35 hc dX4_addRow_27 ?_
      refine z_aaload hc 30 (by decide) (r := fun j => ad (35 + j)) (n0 := 15) rfl dX4_addRow_30 (fun r5 hr5 => ?_)
      refine z_iload hc dX4_addRow_31 4 rfl ?_
      refine z_iload_n hc dX4_addRow_33 2 rfl ?_
      refine z_iload_n hc dX4_addRow_34 1 rfl ?_
      refine z_iload hc dX4_addRow_35 4 rfl ?_
      refine z_runSNi (As := [.int x1, .int x4]) (rest := [.int x2, .int x4, .ref (ad (35 + r5))]) hc dX4_addRow_37 (fun _ _ h => tX7_bitAt h) mpX7_bitAt miX7_bitAt kmX4_42 ⟨rfl, rfl, Nat.le_of_ble_eq_true rfl, Nat.le_of_ble_eq_true rfl⟩ ⟨Nat.le_refl _, Nat.le_refl _⟩ rfl (Nat.le_of_ble_eq_true rfl) (fun b6 σ7 => ?_)
      refine z_imul hc dX4_addRow_40 ?_
      refine z_i2l hc dX4_addRow_41 ?_
      refine z_lastore hc (35 + r5) (by omega) (zcC_row hr5) dX4_addRow_42 (fun σ8 => ?_)
      refine z_iinc (v := (x4 + (1 : Int32))) (lv' := [(4, .int (x4 + (1 : Int32))), (0, .ref (ad 29)), (1, .int x1), (2, .int x2), (3, .int x3)]) hc dX4_addRow_43 4 rfl rfl (by decide) rfl ?_
      refine z_goto (tgt := 13) hc dX4_addRow_46 (by decide) ?_
      refine z_sub [1, 2, 3, 4, 0] rfl ?_
      exact ih _ _ _ _ _
set_option maxRecDepth 100000 in
set_option maxHeartbeats 4000000 in
theorem tX4_addRow {l : Launch} {D : va_G} {ca : Nat → ClassId} {xa ad : Nat → Nat} {A : Nat → Prop} {N : Nat} {x1 : Int32} {x2 : Int32} {x3 : Int32} {σ : zSt} {a : Unit} {τ : zSt} (h : fX4_addRow N x1 x2 x3 σ = some (a, τ)) : zCt l yX4_addRow cX4_addRow 5 none rmX4_addRow D ca xa A (zwC ad ca) [.ref (ad 29), .int x1, .int x2, .int x3] σ (zV a) τ := by
  refine z_met (inj := zV) (lv := [(0, .ref (ad 29)), (1, .int x1), (2, .int x2), (3, .int x3)]) (by decide) (Nat.le_of_ble_eq_true rfl) rfl ?_ h
  intro p e s m args below meth c hc hr
  unfold fX4_addRow
  refine z_aload_n hc dX4_addRow_0 0 rfl ?_
  refine gfX4_35 hc dX4_addRow_1 ?_
  refine z_bipush (v := (15 : Int32)) hc dX4_addRow_4 (by decide) ?_
  refine z_icmp_lt (tgt := 10) hc dX4_addRow_6 (by decide) ?_ ?_
  · refine z_iconst (v := (0 : Int32)) hc dX4_addRow_10 (by decide) ?_
    refine z_istore (lv' := [(4, .int (0 : Int32)), (0, .ref (ad 29)), (1, .int x1), (2, .int x2), (3, .int x3)]) hc dX4_addRow_11 (by decide) rfl ?_
    refine z_sub [1, 2, 3, 4, 0] rfl ?_
    exact tX4_addRow_13 hc hr N N _ _ _ _ _
  · exact z_vret hc hr dX4_addRow_9
