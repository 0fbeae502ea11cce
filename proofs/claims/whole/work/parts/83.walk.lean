set_option maxRecDepth 100000 in
set_option maxHeartbeats 4000000 in
theorem tX4_begin_12 {p : Program} {l : Launch} {e : Env} {s : State} {m : MethodId} {args : Array Value} {below : List Frame} {meth : Method} {c : Code} {D : va_G} {ca : Nat → ClassId} {xa ad : Nat → Nat} {A : Nat → Prop} (hc : zCx p s m args meth c cX4_begin 4 RX4 D ca xa A (zwC ad ca)) (hr : meth.sig.returnType = none) (N : Nat)   : ∀ (n : Nat) (x2 : Int32) (x3 : Int32) (σ : zSt), zGO p l e rmX4_begin s m args below meth c 0 0 (zwC ad ca) D A 4 (zQ below D A (zwC ad ca) args s zV) (fX4_begin_12 N n x2 x3 σ) σ 12 [(0, .ref (ad 29)), (2, .int x2), (3, .int x3)] [] := by
  intro n
  induction n with
  | zero =>
    intro x2 x3 σ
    exact z_none
  | succ n ih =>
    intro x2 x3 σ
    unfold fX4_begin_12
    refine z_iload_n hc dX4_begin_12 2 rfl ?_
    refine z_aload_n hc dX4_begin_13 0 rfl ?_
    refine gfX4_27 hc dX4_begin_14 ?_
    refine z_icmp_ge (tgt := 33) hc dX4_begin_17 (by decide) ?_ ?_
    · refine z_aload_n hc dX4_begin_33 0 rfl ?_
      refine z_lconst (v := (1 : Int64)) hc dX4_begin_34 (by decide) ?_
      refine pfX4_31 hc dX4_begin_35 (fun σ1 => ?_)
      refine z_aload_n hc dX4_begin_38 0 rfl ?_
      refine z_iconst (v := (0 : Int32)) hc dX4_begin_39 (by decide) ?_
      refine pfX4_35 hc dX4_begin_40 (fun σ2 => ?_)
      refine z_aload_n hc dX4_begin_43 0 rfl ?_
      refine z_iload_n hc dX4_begin_44 1 rfl ?_
      refine z_iconst (v := (1 : Int32)) hc dX4_begin_45 (by decide) ?_
      refine z_iconst (v := (0 : Int32)) hc dX4_begin_46 (by decide) ?_
      refine z_runVv (b0 := ad 29) (As := [.int x2, .int (1 : Int32), .int (0 : Int32)]) (rest := []) hc dX4_begin_47 (fun _ _ h => tX4_addRow h) mpX4_addRow miX4_addRow kmX4_38 ⟨rfl, rfl, Nat.le_of_ble_eq_true rfl, Nat.le_of_ble_eq_true rfl⟩ ⟨Nat.le_refl _, Nat.le_refl _⟩ zcC_rc29 rfl (Nat.le_of_ble_eq_true rfl) (fun b3 σ4 => ?_)
      exact z_vret hc hr dX4_begin_50
    · refine z_aload_n hc dX4_begin_20 0 rfl ?_
      refine gfX4_18 hc dX4_begin_21 ?_
      refine z_iload_n hc dX4_begin_24 2 rfl ?_
      refine z_iload_n hc dX4_begin_25 2 rfl ?_
      refine z_iastore hc 32 (by decide) (fun _ _ => rfl) dX4_begin_26 (fun σ5 => ?_)
      refine z_iinc (v := (x3 + (1 : Int32))) (lv' := [(3, .int (x3 + (1 : Int32))), (0, .ref (ad 29)), (2, .int x2)]) hc dX4_begin_27 2 rfl rfl (by decide) rfl ?_
      refine z_goto (tgt := 12) hc dX4_begin_30 (by decide) ?_
      refine z_sub [1, 2, 0] rfl ?_
      exact ih _ _ _
set_option maxRecDepth 100000 in
set_option maxHeartbeats 4000000 in
theorem tX4_begin {l : Launch} {D : va_G} {ca : Nat → ClassId} {xa ad : Nat → Nat} {A : Nat → Prop} {N : Nat} {x1 : Int32} {x2 : Int32} {σ : zSt} {a : Unit} {τ : zSt} (h : fX4_begin N x1 x2 σ = some (a, τ)) : zCt l yX4_begin cX4_begin 4 none rmX4_begin D ca xa A (zwC ad ca) [.ref (ad 29), .int x1, .int x2] σ (zV a) τ := by
  refine z_met (inj := zV) (lv := [(0, .ref (ad 29)), (1, .int x1), (2, .int x2)]) (by decide) (Nat.le_of_ble_eq_true rfl) rfl ?_ h
  intro p e s m args below meth c hc hr
  unfold fX4_begin
  refine z_aload_n hc dX4_begin_0 0 rfl ?_
  refine z_iload_n hc dX4_begin_1 1 rfl ?_
  refine z_bipush (v := (8 : Int32)) hc dX4_begin_2 (by decide) ?_
  refine z_mmin hc kminX4_21 ⟨Nat.le_of_ble_eq_true rfl, Nat.le_of_ble_eq_true rfl, Nat.le_refl _, Nat.le_refl _⟩ dX4_begin_4 ?_
  refine pfX4_27 hc dX4_begin_7 (fun σ1 => ?_)
  refine z_iconst (v := (0 : Int32)) hc dX4_begin_10 (by decide) ?_
  refine z_istore_n (lv' := [(3, .int (0 : Int32)), (0, .ref (ad 29)), (1, .int x1), (2, .int x2)]) hc dX4_begin_11 rfl (by decide) rfl ?_
  refine z_sub [1, 3, 0] rfl ?_
  exact tX4_begin_12 hc hr N N _ _ _
set_option maxRecDepth 100000 in
set_option maxHeartbeats 4000000 in
theorem tX6_allWorlds {l : Launch} {D : va_G} {ca : Nat → ClassId} {xa ad : Nat → Nat} {A : Nat → Prop} {N : Nat}  {σ : zSt} {a : Int32} {τ : zSt} (h : fX6_allWorlds N σ = some (a, τ)) : zCt l yX6_allWorlds cX6_allWorlds 1 (some .int) rmX6_allWorlds D ca xa A (zwC ad ca) [.ref (ad 23)] σ (zI a) τ := by
  refine z_met (inj := zI) (lv := [(0, .ref (ad 23))]) (by decide) (Nat.le_of_ble_eq_true rfl) rfl ?_ h
  intro p e s m args below meth c hc hr
  unfold fX6_allWorlds
  refine z_iconst (v := (1 : Int32)) hc dX6_allWorlds_0 (by decide) ?_
  refine z_iconst (v := (1 : Int32)) hc dX6_allWorlds_1 (by decide) ?_
  refine z_aload_n hc dX6_allWorlds_2 0 rfl ?_
  refine gfX6_34 hc dX6_allWorlds_3 ?_
  refine z_ishl hc dX6_allWorlds_6 ?_
  refine z_ishl hc dX6_allWorlds_7 ?_
  refine z_iconst (v := (1 : Int32)) hc dX6_allWorlds_8 (by decide) ?_
  refine z_isub hc dX6_allWorlds_9 ?_
  exact z_iret hc hr dX6_allWorlds_10
set_option maxRecDepth 100000 in
set_option maxHeartbeats 4000000 in
theorem tX6_addSpan_16 {p : Program} {l : Launch} {e : Env} {s : State} {m : MethodId} {args : Array Value} {below : List Frame} {meth : Method} {c : Code} {D : va_G} {ca : Nat → ClassId} {xa ad : Nat → Nat} {A : Nat → Prop} (hc : zCx p s m args meth c cX6_addSpan 4 RX6 D ca xa A (zwC ad ca)) (hr : meth.sig.returnType = none) (N : Nat)   (x1 : Int32) (x2 : Int32) (σ : zSt) : zGO p l e rmX6_addSpan s m args below meth c 0 0 (zwC ad ca) D A 4 (zQ below D A (zwC ad ca) args s zV) (fX6_addSpan_16 N x1 x2 σ) σ 16 [(0, .ref (ad 23)), (1, .int x1), (2, .int x2)] [] := by
  unfold fX6_addSpan_16
  refine z_iload_n hc dX6_addSpan_16 2 rfl ?_
  refine z_if_le (tgt := 31) hc dX6_addSpan_17 (by decide) ?_ ?_
  · exact z_vret hc hr dX6_addSpan_31
  · refine z_aload_n hc dX6_addSpan_20 0 rfl ?_
    refine gfX6_30 hc dX6_addSpan_21 ?_
    refine z_iload_n hc dX6_addSpan_24 1 rfl ?_
    refine z_iconst (v := (-1 : Int32)) hc dX6_addSpan_25 (by decide) ?_
    refine z_iload_n hc dX6_addSpan_26 2 rfl ?_
    refine z_ineg hc dX6_addSpan_27 ?_
    refine z_runVNv (b0 := ad 29) (As := [.int x1, .int (-1 : Int32), .int (-x2)]) (rest := []) hc dX6_addSpan_28 (fun _ _ h => tX4_addRow h) mpX4_addRow miX4_addRow kmX6_58 ⟨rfl, rfl, Nat.le_of_ble_eq_true rfl, Nat.le_of_ble_eq_true rfl⟩ ⟨Nat.le_refl _, Nat.le_refl _⟩ zcC_rc29 rfl (Nat.le_of_ble_eq_true rfl) (fun b1 σ2 => ?_)
    exact z_vret hc hr dX6_addSpan_31
set_option maxRecDepth 100000 in
set_option maxHeartbeats 4000000 in
theorem tX6_addSpan {l : Launch} {D : va_G} {ca : Nat → ClassId} {xa ad : Nat → Nat} {A : Nat → Prop} {N : Nat} {x1 : Int32} {x2 : Int32} {x3 : Int32} {σ : zSt} {a : Unit} {τ : zSt} (h : fX6_addSpan N x1 x2 x3 σ = some (a, τ)) : zCt l yX6_addSpan cX6_addSpan 4 none rmX6_addSpan D ca xa A (zwC ad ca) [.ref (ad 23), .int x1, .int x2, .int x3] σ (zV a) τ := by
  refine z_met (inj := zV) (lv := [(0, .ref (ad 23)), (1, .int x1), (2, .int x2), (3, .int x3)]) (by decide) (Nat.le_of_ble_eq_true rfl) rfl ?_ h
  intro p e s m args below meth c hc hr
  unfold fX6_addSpan
  refine z_iload_n hc dX6_addSpan_0 3 rfl ?_
  refine z_bipush (v := (100 : Int32)) hc dX6_addSpan_1 (by decide) ?_
  refine z_icmp_ge (tgt := 16) hc dX6_addSpan_3 (by decide) ?_ ?_
  · refine z_sub [0, 1, 2] rfl ?_
    exact tX6_addSpan_16 hc hr N _ _ _
  · refine z_aload_n hc dX6_addSpan_6 0 rfl ?_
    refine gfX6_30 hc dX6_addSpan_7 ?_
    refine z_iload_n hc dX6_addSpan_10 1 rfl ?_
    refine z_iconst (v := (1 : Int32)) hc dX6_addSpan_11 (by decide) ?_
    refine z_iload_n hc dX6_addSpan_12 3 rfl ?_
    refine z_runVNv (b0 := ad 29) (As := [.int x1, .int (1 : Int32), .int x3]) (rest := []) hc dX6_addSpan_13 (fun _ _ h => tX4_addRow h) mpX4_addRow miX4_addRow kmX6_58 ⟨rfl, rfl, Nat.le_of_ble_eq_true rfl, Nat.le_of_ble_eq_true rfl⟩ ⟨Nat.le_refl _, Nat.le_refl _⟩ zcC_rc29 rfl (Nat.le_of_ble_eq_true rfl) (fun b1 σ2 => ?_)
    refine z_sub [0, 1, 2] rfl ?_
    exact tX6_addSpan_16 hc hr N _ _ _
set_option maxRecDepth 100000 in
set_option maxHeartbeats 4000000 in
theorem tX4_brokenRow_47 {p : Program} {l : Launch} {e : Env} {s : State} {m : MethodId} {args : Array Value} {below : List Frame} {meth : Method} {c : Code} {D : va_G} {ca : Nat → ClassId} {xa ad : Nat → Nat} {A : Nat → Prop} (hc : zCx p s m args meth c cX4_brokenRow 3 RX4 D ca xa A (zwC ad ca)) (hr : meth.sig.returnType = (some .int)) (N : Nat) (k4 : Int32 → Int32 → zSt → Option (Int32 × zSt)) (hk4 : ∀ (x1 : Int32) (x2 : Int32) (σ : zSt), zGO p l e rmX4_brokenRow s m args below meth c 0 0 (zwC ad ca) D A 3 (zQ below D A (zwC ad ca) args s zI) (k4 x1 x2 σ) σ 4 [(0, .ref (ad 29)), (1, .int x1), (2, .int x2)] []) (x2 : Int32) (σ : zSt) : zGO p l e rmX4_brokenRow s m args below meth c 0 0 (zwC ad ca) D A 3 (zQ below D A (zwC ad ca) args s zI) (fX4_brokenRow_47 N k4 x2 σ) σ 47 [(0, .ref (ad 29)), (2, .int x2)] [] := by
  unfold fX4_brokenRow_47
  refine z_iload_n hc dX4_brokenRow_47 1 rfl ?_
  refine z_istore_n (lv' := [(1, .int x2), (0, .ref (ad 29)), (2, .int x2)]) hc dX4_brokenRow_48 rfl (by decide) rfl ?_
  refine z_iinc (v := (x2 + (1 : Int32))) (lv' := [(2, .int (x2 + (1 : Int32))), (1, .int x2), (0, .ref (ad 29))]) hc dX4_brokenRow_49 2 rfl rfl (by decide) rfl ?_
  refine z_goto (tgt := 4) hc dX4_brokenRow_52 (by decide) ?_
  refine z_sub [2, 1, 0] rfl ?_
  exact hk4 _ _ _
set_option maxRecDepth 100000 in
set_option maxHeartbeats 4000000 in
theorem tX4_brokenRow_4 {p : Program} {l : Launch} {e : Env} {s : State} {m : MethodId} {args : Array Value} {below : List Frame} {meth : Method} {c : Code} {D : va_G} {ca : Nat → ClassId} {xa ad : Nat → Nat} {A : Nat → Prop} (hc : zCx p s m args meth c cX4_brokenRow 3 RX4 D ca xa A (zwC ad ca)) (hr : meth.sig.returnType = (some .int)) (N : Nat)   : ∀ (n : Nat) (x1 : Int32) (x2 : Int32) (σ : zSt), zGO p l e rmX4_brokenRow s m args below meth c 0 0 (zwC ad ca) D A 3 (zQ below D A (zwC ad ca) args s zI) (fX4_brokenRow_4 N n x1 x2 σ) σ 4 [(0, .ref (ad 29)), (1, .int x1), (2, .int x2)] [] := by
  intro n
  induction n with
  | zero =>
    intro x1 x2 σ
    exact z_none
  | succ n ih =>
    intro x1 x2 σ
    unfold fX4_brokenRow_4
    refine z_iload_n hc dX4_brokenRow_4 2 rfl ?_
    refine z_aload_n hc dX4_brokenRow_5 0 rfl ?_
    refine gfX4_35 hc dX4_brokenRow_6 ?_
    refine z_icmp_ge (tgt := 55) hc dX4_brokenRow_9 (by decide) ?_ ?_
    · refine z_iload_n hc dX4_brokenRow_55 1 rfl ?_
      exact z_iret hc hr dX4_brokenRow_56
    · refine z_aload_n hc dX4_brokenRow_12 0 rfl ?_
      refine gfX4_11 hc dX4_brokenRow_13 ?_
      refine z_iload_n hc dX4_brokenRow_16 2 rfl ?_
      refine z_aaload hc 30 (by decide) (r := fun j => ad (35 + j)) (n0 := 15) rfl dX4_brokenRow_17 (fun r1 hr1 => ?_)
      refine z_aload_n hc dX4_brokenRow_18 0 rfl ?_
      refine gfX4_27 hc dX4_brokenRow_19 ?_
      refine z_laload hc (35 + r1) (by omega) (zcC_row hr1 _ _) dX4_brokenRow_22 (fun v2 => ?_)
      refine z_lconst (v := (0 : Int64)) hc dX4_brokenRow_23 (by decide) ?_
      refine z_lcmp_ge (tgt := 49) hc dX4_brokenRow_24 dX4_brokenRow_25 (by decide) ?_ ?_
      · refine z_iinc (v := (x2 + (1 : Int32))) (lv' := [(2, .int (x2 + (1 : Int32))), (0, .ref (ad 29)), (1, .int x1)]) hc dX4_brokenRow_49 2 rfl rfl (by decide) rfl ?_
        refine z_goto (tgt := 4) hc dX4_brokenRow_52 (by decide) ?_
        refine z_sub [1, 2, 0] rfl ?_
        exact ih _ _ _
      · refine z_iload_n hc dX4_brokenRow_28 1 rfl ?_
        refine z_if_lt (tgt := 47) hc dX4_brokenRow_29 (by decide) ?_ ?_
        · refine z_sub [0, 2] rfl ?_
          exact tX4_brokenRow_47 hc hr N _ (ih) _ _
        · refine z_aload_n hc dX4_brokenRow_32 0 rfl ?_
          refine gfX4_14 hc dX4_brokenRow_33 ?_
          refine z_iload_n hc dX4_brokenRow_36 2 rfl ?_
          refine z_iaload hc 31 (by decide) rfl dX4_brokenRow_37 (fun v3 => ?_)
          refine z_aload_n hc dX4_brokenRow_38 0 rfl ?_
          refine gfX4_14 hc dX4_brokenRow_39 ?_
          refine z_iload_n hc dX4_brokenRow_42 1 rfl ?_
          refine z_iaload hc 31 (by decide) rfl dX4_brokenRow_43 (fun v4 => ?_)
          refine z_icmp_ge (tgt := 49) hc dX4_brokenRow_44 (by decide) ?_ ?_
          · refine z_iinc (v := (x2 + (1 : Int32))) (lv' := [(2, .int (x2 + (1 : Int32))), (0, .ref (ad 29)), (1, .int x1)]) hc dX4_brokenRow_49 2 rfl rfl (by decide) rfl ?_
            refine z_goto (tgt := 4) hc dX4_brokenRow_52 (by decide) ?_
            refine z_sub [1, 2, 0] rfl ?_
            exact ih _ _ _
          · refine z_sub [0, 2] rfl ?_
            exact tX4_brokenRow_47 hc hr N _ (ih) _ _
set_option maxRecDepth 100000 in
set_option maxHeartbeats 4000000 in
theorem tX4_brokenRow {l : Launch} {D : va_G} {ca : Nat → ClassId} {xa ad : Nat → Nat} {A : Nat → Prop} {N : Nat}  {σ : zSt} {a : Int32} {τ : zSt} (h : fX4_brokenRow N σ = some (a, τ)) : zCt l yX4_brokenRow cX4_brokenRow 3 (some .int) rmX4_brokenRow D ca xa A (zwC ad ca) [.ref (ad 29)] σ (zI a) τ := by
  refine z_met (inj := zI) (lv := [(0, .ref (ad 29))]) (by decide) (Nat.le_of_ble_eq_true rfl) rfl ?_ h
  intro p e s m args below meth c hc hr
  unfold fX4_brokenRow
  refine z_iconst (v := (-1 : Int32)) hc dX4_brokenRow_0 (by decide) ?_
  refine z_istore_n (lv' := [(1, .int (-1 : Int32)), (0, .ref (ad 29))]) hc dX4_brokenRow_1 rfl (by decide) rfl ?_
  refine z_iconst (v := (1 : Int32)) hc dX4_brokenRow_2 (by decide) ?_
  refine z_istore_n (lv' := [(2, .int (1 : Int32)), (1, .int (-1 : Int32)), (0, .ref (ad 29))]) hc dX4_brokenRow_3 rfl (by decide) rfl ?_
  refine z_sub [2, 1, 0] rfl ?_
  exact tX4_brokenRow_4 hc hr N N _ _ _
set_option maxRecDepth 100000 in
set_option maxHeartbeats 4000000 in
theorem tX4_isCheaper_71 {p : Program} {l : Launch} {e : Env} {s : State} {m : MethodId} {args : Array Value} {below : List Frame} {meth : Method} {c : Code} {D : va_G} {ca : Nat → ClassId} {xa ad : Nat → Nat} {A : Nat → Prop} (hc : zCx p s m args meth c cX4_isCheaper 8 RX4 D ca xa A (zwC ad ca)) (hr : meth.sig.returnType = (some .boolean)) (N : Nat)    (σ : zSt) : zGO p l e rmX4_isCheaper s m args below meth c 0 0 (zwC ad ca) D A 8 (zQ below D A (zwC ad ca) args s zI) (fX4_isCheaper_71 N σ) σ 71 [] [] := by
  unfold fX4_isCheaper_71
  refine z_iconst (v := (1 : Int32)) hc dX4_isCheaper_71 (by decide) ?_
  refine z_goto (tgt := 76) hc dX4_isCheaper_72 (by decide) ?_
  exact z_zret hc hr dX4_isCheaper_76
set_option maxRecDepth 100000 in
set_option maxHeartbeats 4000000 in
theorem tX4_isCheaper {l : Launch} {D : va_G} {ca : Nat → ClassId} {xa ad : Nat → Nat} {A : Nat → Prop} {N : Nat} {x1 : Int32} {x2 : Int32} {x3 : Int32} {σ : zSt} {a : Int32} {τ : zSt} (h : fX4_isCheaper N x1 x2 x3 σ = some (a, τ)) : zCt l yX4_isCheaper cX4_isCheaper 8 (some .boolean) rmX4_isCheaper D ca xa A (zwC ad ca) [.ref (ad 29), .int x1, .int x2, .int x3] σ (zI a) τ := by
  refine z_met (inj := zI) (lv := [(0, .ref (ad 29)), (1, .int x1), (2, .int x2), (3, .int x3)]) (by decide) (Nat.le_of_ble_eq_true rfl) rfl ?_ h
  intro p e s m args below meth c hc hr
  unfold fX4_isCheaper
  refine z_aload_n hc dX4_isCheaper_0 0 rfl ?_
  refine gfX4_11 hc dX4_isCheaper_1 ?_
  refine z_iconst (v := (0 : Int32)) hc dX4_isCheaper_4 (by decide) ?_
  refine z_aaload hc 30 (by decide) (r := fun j => ad (35 + j)) (n0 := 15) rfl dX4_isCheaper_5 (fun r1 hr1 => ?_)
  refine z_iload_n hc dX4_isCheaper_6 2 rfl ?_
  refine z_laload hc (35 + r1) (by omega) (zcC_row hr1 _ _) dX4_isCheaper_7 (fun v2 => ?_)
  refine z_aload_n hc dX4_isCheaper_8 0 rfl ?_
  refine gfX4_11 hc dX4_isCheaper_9 ?_
  refine z_iload_n hc dX4_isCheaper_12 1 rfl ?_
  refine z_aaload hc 30 (by decide) (r := fun j => ad (35 + j)) (n0 := 15) rfl dX4_isCheaper_13 (fun r3 hr3 => ?_)
  refine z_iload_n hc dX4_isCheaper_14 3 rfl ?_
  refine z_laload hc (35 + r3) (by omega) (zcC_row hr3 _ _) dX4_isCheaper_15 (fun v4 => ?_)
  refine z_lneg hc dX4_isCheaper_16 ?_
  refine z_lmul hc dX4_isCheaper_17 ?_
  refine z_nmL (fun v5 => ?_)
  refine z_lstore (lv' := [(4, .long v5), (0, .ref (ad 29)), (1, .int x1), (2, .int x2), (3, .int x3)]) hc dX4_isCheaper_18 (by decide) rfl ?_
  refine z_aload_n hc dX4_isCheaper_20 1 rfl ?_
  refine gfX4_11 hc dX4_isCheaper_21 ?_
  refine z_iconst (v := (0 : Int32)) hc dX4_isCheaper_24 (by decide) ?_
  refine z_aaload hc 30 (by decide) (r := fun j => ad (35 + j)) (n0 := 15) rfl dX4_isCheaper_25 (fun r6 hr6 => ?_)
  refine z_iload_n hc dX4_isCheaper_26 4 rfl ?_
  refine z_laload hc (35 + r6) (by omega) (zcC_row hr6 _ _) dX4_isCheaper_27 (fun v7 => ?_)
  refine z_aload_n hc dX4_isCheaper_28 1 rfl ?_
  refine gfX4_11 hc dX4_isCheaper_29 ?_
  refine z_iload_n hc dX4_isCheaper_32 2 rfl ?_
  refine z_aaload hc 30 (by decide) (r := fun j => ad (35 + j)) (n0 := 15) rfl dX4_isCheaper_33 (fun r8 hr8 => ?_)
  refine z_iload_n hc dX4_isCheaper_34 3 rfl ?_
  refine z_laload hc (35 + r8) (by omega) (zcC_row hr8 _ _) dX4_isCheaper_35 (fun v9 => ?_)
  refine z_lneg hc dX4_isCheaper_36 ?_
  refine z_lmul hc dX4_isCheaper_37 ?_
  refine z_nmL (fun v10 => ?_)
  refine z_lstore (lv' := [(6, .long v10), (4, .long v5), (0, .ref (ad 29)), (1, .int x1), (2, .int x2), (3, .int x3)]) hc dX4_isCheaper_38 (by decide) rfl ?_
  refine z_lload hc dX4_isCheaper_40 1 rfl ?_
  refine z_lload hc dX4_isCheaper_42 0 rfl ?_
  refine z_lcmp_lt (tgt := 71) hc dX4_isCheaper_44 dX4_isCheaper_45 (by decide) ?_ ?_
  · refine z_sub [] rfl ?_
    exact tX4_isCheaper_71 hc hr N _
  · refine z_lload hc dX4_isCheaper_48 1 rfl ?_
    refine z_lload hc dX4_isCheaper_50 0 rfl ?_
    refine z_lcmp_ne (tgt := 75) hc dX4_isCheaper_52 dX4_isCheaper_53 (by decide) ?_ ?_
    · refine z_aload_n hc dX4_isCheaper_56 2 rfl ?_
      refine gfX4_18 hc dX4_isCheaper_57 ?_
      refine z_iload_n hc dX4_isCheaper_60 4 rfl ?_
      refine z_iaload hc 32 (by decide) rfl dX4_isCheaper_61 (fun v11 => ?_)
      refine z_aload_n hc dX4_isCheaper_62 2 rfl ?_
      refine gfX4_18 hc dX4_isCheaper_63 ?_
      refine z_iload_n hc dX4_isCheaper_66 5 rfl ?_
      refine z_iaload hc 32 (by decide) rfl dX4_isCheaper_67 (fun v12 => ?_)
      refine z_icmp_ge (tgt := 75) hc dX4_isCheaper_68 (by decide) ?_ ?_
      · refine z_iconst (v := (0 : Int32)) hc dX4_isCheaper_75 (by decide) ?_
        exact z_zret hc hr dX4_isCheaper_76
      · refine z_sub [] rfl ?_
        exact tX4_isCheaper_71 hc hr N _
    · refine z_iconst (v := (0 : Int32)) hc dX4_isCheaper_75 (by decide) ?_
      exact z_zret hc hr dX4_isCheaper_76
set_option maxRecDepth 100000 in
set_option maxHeartbeats 4000000 in
theorem tX4_mendingColumn_39 {p : Program} {l : Launch} {e : Env} {s : State} {m : MethodId} {args : Array Value} {below : List Frame} {meth : Method} {c : Code} {D : va_G} {ca : Nat → ClassId} {xa ad : Nat → Nat} {A : Nat → Prop} (hc : zCx p s m args meth c cX4_mendingColumn 4 RX4 D ca xa A (zwC ad ca)) (hr : meth.sig.returnType = (some .int)) (N : Nat) (k4 : Int32 → Int32 → Int32 → zSt → Option (Int32 × zSt)) (hk4 : ∀ (x1 : Int32) (x2 : Int32) (x3 : Int32) (σ : zSt), zGO p l e rmX4_mendingColumn s m args below meth c 0 0 (zwC ad ca) D A 4 (zQ below D A (zwC ad ca) args s zI) (k4 x1 x2 x3 σ) σ 4 [(0, .ref (ad 29)), (1, .int x1), (2, .int x2), (3, .int x3)] []) (x1 : Int32) (x3 : Int32) (σ : zSt) : zGO p l e rmX4_mendingColumn s m args below meth c 0 0 (zwC ad ca) D A 4 (zQ below D A (zwC ad ca) args s zI) (fX4_mendingColumn_39 N k4 x1 x3 σ) σ 39 [(0, .ref (ad 29)), (1, .int x1), (3, .int x3)] [] := by
  unfold fX4_mendingColumn_39
  refine z_iload_n hc dX4_mendingColumn_39 2 rfl ?_
  refine z_istore_n (lv' := [(2, .int x3), (0, .ref (ad 29)), (1, .int x1), (3, .int x3)]) hc dX4_mendingColumn_40 rfl (by decide) rfl ?_
  refine z_iinc (v := (x3 + (1 : Int32))) (lv' := [(3, .int (x3 + (1 : Int32))), (2, .int x3), (0, .ref (ad 29)), (1, .int x1)]) hc dX4_mendingColumn_41 3 rfl rfl (by decide) rfl ?_
  refine z_goto (tgt := 4) hc dX4_mendingColumn_44 (by decide) ?_
  refine z_sub [2, 3, 1, 0] rfl ?_
  exact hk4 _ _ _ _
set_option maxRecDepth 100000 in
set_option maxHeartbeats 4000000 in
theorem tX4_mendingColumn_4 {p : Program} {l : Launch} {e : Env} {s : State} {m : MethodId} {args : Array Value} {below : List Frame} {meth : Method} {c : Code} {D : va_G} {ca : Nat → ClassId} {xa ad : Nat → Nat} {A : Nat → Prop} (hc : zCx p s m args meth c cX4_mendingColumn 4 RX4 D ca xa A (zwC ad ca)) (hr : meth.sig.returnType = (some .int)) (N : Nat)   : ∀ (n : Nat) (x1 : Int32) (x2 : Int32) (x3 : Int32) (σ : zSt), zGO p l e rmX4_mendingColumn s m args below meth c 0 0 (zwC ad ca) D A 4 (zQ below D A (zwC ad ca) args s zI) (fX4_mendingColumn_4 N n x1 x2 x3 σ) σ 4 [(0, .ref (ad 29)), (1, .int x1), (2, .int x2), (3, .int x3)] [] := by
  intro n
  induction n with
  | zero =>
    intro x1 x2 x3 σ
    exact z_none
  | succ n ih =>
    intro x1 x2 x3 σ
    unfold fX4_mendingColumn_4
    refine z_iload_n hc dX4_mendingColumn_4 3 rfl ?_
    refine z_aload_n hc dX4_mendingColumn_5 0 rfl ?_
    refine gfX4_27 hc dX4_mendingColumn_6 ?_
    refine z_icmp_ge (tgt := 47) hc dX4_mendingColumn_9 (by decide) ?_ ?_
    · refine z_iload_n hc dX4_mendingColumn_47 2 rfl ?_
      exact z_iret hc hr dX4_mendingColumn_48
    · refine z_aload_n hc dX4_mendingColumn_12 0 rfl ?_
      refine gfX4_11 hc dX4_mendingColumn_13 ?_
      refine z_iload_n hc dX4_mendingColumn_16 1 rfl ?_
      refine z_aaload hc 30 (by decide) (r := fun j => ad (35 + j)) (n0 := 15) rfl dX4_mendingColumn_17 (fun r1 hr1 => ?_)
      refine z_iload_n hc dX4_mendingColumn_18 3 rfl ?_
      refine z_laload hc (35 + r1) (by omega) (zcC_row hr1 _ _) dX4_mendingColumn_19 (fun v2 => ?_)
      refine z_lconst (v := (0 : Int64)) hc dX4_mendingColumn_20 (by decide) ?_
      refine z_lcmp_ge (tgt := 41) hc dX4_mendingColumn_21 dX4_mendingColumn_22 (by decide) ?_ ?_
      · refine z_iinc (v := (x3 + (1 : Int32))) (lv' := [(3, .int (x3 + (1 : Int32))), (0, .ref (ad 29)), (1, .int x1), (2, .int x2)]) hc dX4_mendingColumn_41 3 rfl rfl (by decide) rfl ?_
        refine z_goto (tgt := 4) hc dX4_mendingColumn_44 (by decide) ?_
        refine z_sub [1, 2, 3, 0] rfl ?_
        exact ih _ _ _ _
      · refine z_iload_n hc dX4_mendingColumn_25 2 rfl ?_
        refine z_if_lt (tgt := 39) hc dX4_mendingColumn_26 (by decide) ?_ ?_
        · refine z_sub [0, 1, 3] rfl ?_
          exact tX4_mendingColumn_39 hc hr N _ (ih) _ _ _
        · refine z_aload_n hc dX4_mendingColumn_29 0 rfl ?_
          refine z_iload_n hc dX4_mendingColumn_30 1 rfl ?_
          refine z_iload_n hc dX4_mendingColumn_31 3 rfl ?_
          refine z_iload_n hc dX4_mendingColumn_32 2 rfl ?_
          refine z_runVi (b0 := ad 29) (As := [.int x1, .int x3, .int x2]) (rest := []) hc dX4_mendingColumn_33 (fun _ _ h => tX4_isCheaper h) mpX4_isCheaper miX4_isCheaper kmX4_60 ⟨rfl, rfl, Nat.le_of_ble_eq_true rfl, Nat.le_of_ble_eq_true rfl⟩ ⟨Nat.le_refl _, Nat.le_refl _⟩ zcC_rc29 rfl (Nat.le_of_ble_eq_true rfl) (fun b3 σ4 => ?_)
          refine z_if_eq (tgt := 41) hc dX4_mendingColumn_36 (by decide) ?_ ?_
          · refine z_iinc (v := (x3 + (1 : Int32))) (lv' := [(3, .int (x3 + (1 : Int32))), (0, .ref (ad 29)), (1, .int x1), (2, .int x2)]) hc dX4_mendingColumn_41 3 rfl rfl (by decide) rfl ?_
            refine z_goto (tgt := 4) hc dX4_mendingColumn_44 (by decide) ?_
            refine z_sub [1, 2, 3, 0] rfl ?_
            exact ih _ _ _ _
          · refine z_sub [0, 1, 3] rfl ?_
            exact tX4_mendingColumn_39 hc hr N _ (ih) _ _ _
set_option maxRecDepth 100000 in
set_option maxHeartbeats 4000000 in
theorem tX4_mendingColumn {l : Launch} {D : va_G} {ca : Nat → ClassId} {xa ad : Nat → Nat} {A : Nat → Prop} {N : Nat} {x1 : Int32} {σ : zSt} {a : Int32} {τ : zSt} (h : fX4_mendingColumn N x1 σ = some (a, τ)) : zCt l yX4_mendingColumn cX4_mendingColumn 4 (some .int) rmX4_mendingColumn D ca xa A (zwC ad ca) [.ref (ad 29), .int x1] σ (zI a) τ := by
  refine z_met (inj := zI) (lv := [(0, .ref (ad 29)), (1, .int x1)]) (by decide) (Nat.le_of_ble_eq_true rfl) rfl ?_ h
  intro p e s m args below meth c hc hr
  unfold fX4_mendingColumn
  refine z_iconst (v := (-1 : Int32)) hc dX4_mendingColumn_0 (by decide) ?_
  refine z_istore_n (lv' := [(2, .int (-1 : Int32)), (0, .ref (ad 29)), (1, .int x1)]) hc dX4_mendingColumn_1 rfl (by decide) rfl ?_
  refine z_iconst (v := (0 : Int32)) hc dX4_mendingColumn_2 (by decide) ?_
  refine z_istore_n (lv' := [(3, .int (0 : Int32)), (2, .int (-1 : Int32)), (0, .ref (ad 29)), (1, .int x1)]) hc dX4_mendingColumn_3 rfl (by decide) rfl ?_
  refine z_sub [2, 3, 1, 0] rfl ?_
  exact tX4_mendingColumn_4 hc hr N N _ _ _ _
set_option maxRecDepth 100000 in
set_option maxHeartbeats 4000000 in
theorem tX4_divide {l : Launch} {D : va_G} {ca : Nat → ClassId} {xa ad : Nat → Nat} {A : Nat → Prop} {N : Nat} {y0 : Int64} {y2 : Int64} {σ : zSt} {a : Int64} {τ : zSt} (h : fX4_divide N y0 y2 σ = some (a, τ)) : zCt l yX4_divide cX4_divide 4 (some .long) rmX4_divide D ca xa A (zwC ad ca) [.long y0, .long y2] σ (zL a) τ := by
  refine z_met (inj := zL) (lv := [(0, .long y0), (2, .long y2)]) (by decide) (Nat.le_of_ble_eq_true rfl) rfl ?_ h
  intro p e s m args below meth c hc hr
  unfold fX4_divide
  refine z_lload_n hc dX4_divide_0 1 rfl ?_
  refine z_lconst (v := (0 : Int64)) hc dX4_divide_1 (by decide) ?_
  refine z_lcmp_ne (tgt := 10) hc dX4_divide_2 dX4_divide_3 (by decide) ?_ ?_
  · refine z_lconst (v := (0 : Int64)) hc dX4_divide_6 (by decide) ?_
    refine z_goto (tgt := 13) hc dX4_divide_7 (by decide) ?_
    exact z_lret hc hr dX4_divide_13
  · refine z_lload_n hc dX4_divide_10 0 rfl ?_
    refine z_lload_n hc dX4_divide_11 1 rfl ?_
    refine z_ldiv hc dX4_divide_12 (fun v1 => ?_)
    exact z_lret hc hr dX4_divide_13
set_option maxRecDepth 100000 in
set_option maxHeartbeats 4000000 in
theorem tX4_clearOf_24 {p : Program} {l : Launch} {e : Env} {s : State} {m : MethodId} {args : Array Value} {below : List Frame} {meth : Method} {c : Code} {D : va_G} {ca : Nat → ClassId} {xa ad : Nat → Nat} {A : Nat → Prop} (hc : zCx p s m args meth c cX4_clearOf 9 RX4 D ca xa A (zwC ad ca)) (hr : meth.sig.returnType = none) (N : Nat)   : ∀ (n : Nat) (x1 : Int32) (x2 : Int32) (x3 : Int32) (y4 : Int64) (y6 : Int64) (x8 : Int32) (σ : zSt), zGO p l e rmX4_clearOf s m args below meth c 0 0 (zwC ad ca) D A 9 (zQ below D A (zwC ad ca) args s zV) (fX4_clearOf_24 N n x1 x2 x3 y4 y6 x8 σ) σ 24 [(0, .ref (ad 29)), (1, .int x1), (2, .int x2), (3, .int x3), (4, .long y4), (6, .long y6), (8, .int x8)] [] := by
  intro n
  induction n with
  | zero =>
    intro x1 x2 x3 y4 y6 x8 σ
    exact z_none
  | succ n ih =>
    intro x1 x2 x3 y4 y6 x8 σ
    unfold fX4_clearOf_24
    refine z_iload hc dX4_clearOf_24 6 rfl ?_
    refine z_aload_n hc dX4_clearOf_26 0 rfl ?_
    refine gfX4_27 hc dX4_clearOf_27 ?_
    refine z_icmp_gt (tgt := 86) hc dX4_clearOf_30 (by decide) ?_ ?_
    · exact z_vret hc hr dX4_clearOf_86
    · refine z_iload hc dX4_clearOf_33 6 rfl ?_
      refine z_iload_n hc dX4_clearOf_35 3 rfl ?_
      refine z_icmp_eq (tgt := 80) hc dX4_clearOf_36 (by decide) ?_ ?_
      · refine z_iinc (v := (x8 + (1 : Int32))) (lv' := [(8, .int (x8 + (1 : Int32))), (0, .ref (ad 29)), (1, .int x1), (2, .int x2), (3, .int x3), (4, .long y4), (6, .long y6)]) hc dX4_clearOf_80 6 rfl rfl (by decide) rfl ?_
        refine z_goto (tgt := 24) hc dX4_clearOf_83 (by decide) ?_
        refine z_sub [1, 2, 3, 4, 5, 6, 0] rfl ?_
        exact ih _ _ _ _ _ _ _
      · refine z_aload_n hc dX4_clearOf_39 0 rfl ?_
        refine gfX4_11 hc dX4_clearOf_40 ?_
        refine z_iload_n hc dX4_clearOf_43 1 rfl ?_
        refine z_aaload hc 30 (by decide) (r := fun j => ad (35 + j)) (n0 := 15) rfl dX4_clearOf_44 (fun r1 hr1 => ?_)
        refine z_iload hc dX4_clearOf_45 6 rfl ?_
        refine z_lload hc dX4_clearOf_47 4 rfl ?_
        refine z_aload_n hc dX4_clearOf_49 0 rfl ?_
        refine gfX4_11 hc dX4_clearOf_50 ?_
        refine z_iload_n hc dX4_clearOf_53 1 rfl ?_
        refine z_aaload hc 30 (by decide) (r := fun j => ad (35 + j)) (n0 := 15) rfl dX4_clearOf_54 (fun r2 hr2 => ?_)
        refine z_iload hc dX4_clearOf_55 6 rfl ?_
        refine z_laload hc (35 + r2) (by omega) (zcC_row hr2 _ _) dX4_clearOf_57 (fun v3 => ?_)
        refine z_lmul hc dX4_clearOf_58 ?_
        refine z_lload hc dX4_clearOf_59 5 rfl ?_
        refine z_aload_n hc dX4_clearOf_61 0 rfl ?_
        refine gfX4_11 hc dX4_clearOf_62 ?_
        refine z_iload_n hc dX4_clearOf_65 2 rfl ?_
        refine z_aaload hc 30 (by decide) (r := fun j => ad (35 + j)) (n0 := 15) rfl dX4_clearOf_66 (fun r4 hr4 => ?_)
        refine z_iload hc dX4_clearOf_67 6 rfl ?_
        refine z_laload hc (35 + r4) (by omega) (zcC_row hr4 _ _) dX4_clearOf_69 (fun v5 => ?_)
        refine z_lmul hc dX4_clearOf_70 ?_
        refine z_ladd hc dX4_clearOf_71 ?_
        refine z_aload_n hc dX4_clearOf_72 0 rfl ?_
        refine gfX4_31 hc dX4_clearOf_73 ?_
        refine z_runSl (As := [.long ((y4 * v3) + (y6 * v5)), .long (σ.2 29 5)]) (rest := [.int x8, .ref (ad (35 + r1))]) hc dX4_clearOf_76 (fun _ _ h => tX4_divide h) mpX4_divide miX4_divide kmX4_67 ⟨rfl, rfl, Nat.le_of_ble_eq_true rfl, Nat.le_of_ble_eq_true rfl⟩ ⟨Nat.le_refl _, Nat.le_refl _⟩ rfl (Nat.le_of_ble_eq_true rfl) (fun b6 σ7 => ?_)
        refine z_lastore hc (35 + r1) (by omega) (zcC_row hr1) dX4_clearOf_79 (fun σ8 => ?_)
        refine z_iinc (v := (x8 + (1 : Int32))) (lv' := [(8, .int (x8 + (1 : Int32))), (0, .ref (ad 29)), (1, .int x1), (2, .int x2), (3, .int x3), (4, .long y4), (6, .long y6)]) hc dX4_clearOf_80 6 rfl rfl (by decide) rfl ?_
        refine z_goto (tgt := 24) hc dX4_clearOf_83 (by decide) ?_
        refine z_sub [1, 2, 3, 4, 5, 6, 0] rfl ?_
        exact ih _ _ _ _ _ _ _
set_option maxRecDepth 100000 in
set_option maxHeartbeats 4000000 in
theorem tX4_clearOf {l : Launch} {D : va_G} {ca : Nat → ClassId} {xa ad : Nat → Nat} {A : Nat → Prop} {N : Nat} {x1 : Int32} {x2 : Int32} {x3 : Int32} {σ : zSt} {a : Unit} {τ : zSt} (h : fX4_clearOf N x1 x2 x3 σ = some (a, τ)) : zCt l yX4_clearOf cX4_clearOf 9 none rmX4_clearOf D ca xa A (zwC ad ca) [.ref (ad 29), .int x1, .int x2, .int x3] σ (zV a) τ := by
  refine z_met (inj := zV) (lv := [(0, .ref (ad 29)), (1, .int x1), (2, .int x2), (3, .int x3)]) (by decide) (Nat.le_of_ble_eq_true rfl) rfl ?_ h
  intro p e s m args below meth c hc hr
  unfold fX4_clearOf
  refine z_aload_n hc dX4_clearOf_0 0 rfl ?_
  refine gfX4_11 hc dX4_clearOf_1 ?_
  refine z_iload_n hc dX4_clearOf_4 2 rfl ?_
  refine z_aaload hc 30 (by decide) (r := fun j => ad (35 + j)) (n0 := 15) rfl dX4_clearOf_5 (fun r1 hr1 => ?_)
  refine z_iload_n hc dX4_clearOf_6 3 rfl ?_
  refine z_laload hc (35 + r1) (by omega) (zcC_row hr1 _ _) dX4_clearOf_7 (fun v2 => ?_)
  refine z_lneg hc dX4_clearOf_8 ?_
  refine z_nmL (fun v3 => ?_)
  refine z_lstore (lv' := [(4, .long v3), (0, .ref (ad 29)), (1, .int x1), (2, .int x2), (3, .int x3)]) hc dX4_clearOf_9 (by decide) rfl ?_
  refine z_aload_n hc dX4_clearOf_11 1 rfl ?_
  refine gfX4_11 hc dX4_clearOf_12 ?_
  refine z_iload_n hc dX4_clearOf_15 2 rfl ?_
  refine z_aaload hc 30 (by decide) (r := fun j => ad (35 + j)) (n0 := 15) rfl dX4_clearOf_16 (fun r4 hr4 => ?_)
  refine z_iload_n hc dX4_clearOf_17 4 rfl ?_
  refine z_laload hc (35 + r4) (by omega) (zcC_row hr4 _ _) dX4_clearOf_18 (fun v5 => ?_)
  refine z_lstore (lv' := [(6, .long v5), (4, .long v3), (0, .ref (ad 29)), (1, .int x1), (2, .int x2), (3, .int x3)]) hc dX4_clearOf_19 (by decide) rfl ?_
  refine z_iconst (v := (0 : Int32)) hc dX4_clearOf_21 (by decide) ?_
  refine z_istore (lv' := [(8, .int (0 : Int32)), (6, .long v5), (4, .long v3), (0, .ref (ad 29)), (1, .int x1), (2, .int x2), (3, .int x3)]) hc dX4_clearOf_22 (by decide) rfl ?_
  refine z_sub [3, 4, 5, 6, 2, 1, 0] rfl ?_
  exact tX4_clearOf_24 hc hr N N _ _ _ _ _ _ _
set_option maxRecDepth 100000 in
set_option maxHeartbeats 4000000 in
theorem tX4_exchange_45 {p : Program} {l : Launch} {e : Env} {s : State} {m : MethodId} {args : Array Value} {below : List Frame} {meth : Method} {c : Code} {D : va_G} {ca : Nat → ClassId} {xa ad : Nat → Nat} {A : Nat → Prop} (hc : zCx p s m args meth c cX4_exchange 6 RX4 D ca xa A (zwC ad ca)) (hr : meth.sig.returnType = none) (N : Nat)   : ∀ (n : Nat) (x1 : Int32) (x2 : Int32) (y3 : Int64) (x5 : Int32) (σ : zSt), zGO p l e rmX4_exchange s m args below meth c 0 0 (zwC ad ca) D A 6 (zQ below D A (zwC ad ca) args s zV) (fX4_exchange_45 N n x1 x2 y3 x5 σ) σ 45 [(0, .ref (ad 29)), (1, .int x1), (2, .int x2), (3, .long y3), (5, .int x5)] [] := by
  intro n
  induction n with
  | zero =>
    intro x1 x2 y3 x5 σ
    exact z_none
  | succ n ih =>
    intro x1 x2 y3 x5 σ
    unfold fX4_exchange_45
    refine z_iload hc dX4_exchange_45 4 rfl ?_
    refine z_aload_n hc dX4_exchange_47 0 rfl ?_
    refine gfX4_27 hc dX4_exchange_48 ?_
    refine z_icmp_gt (tgt := 79) hc dX4_exchange_51 (by decide) ?_ ?_
    · refine z_aload_n hc dX4_exchange_79 0 rfl ?_
      refine gfX4_11 hc dX4_exchange_80 ?_
      refine z_iload_n hc dX4_exchange_83 1 rfl ?_
      refine z_aaload hc 30 (by decide) (r := fun j => ad (35 + j)) (n0 := 15) rfl dX4_exchange_84 (fun r1 hr1 => ?_)
      refine z_iload_n hc dX4_exchange_85 2 rfl ?_
      refine z_aload_n hc dX4_exchange_86 0 rfl ?_
      refine gfX4_31 hc dX4_exchange_87 ?_
      refine z_lneg hc dX4_exchange_90 ?_
      refine z_lastore hc (35 + r1) (by omega) (zcC_row hr1) dX4_exchange_91 (fun σ2 => ?_)
      refine z_aload_n hc dX4_exchange_92 0 rfl ?_
      refine z_lload_n hc dX4_exchange_93 3 rfl ?_
      refine pfX4_31 hc dX4_exchange_94 (fun σ3 => ?_)
      refine z_aload_n hc dX4_exchange_97 0 rfl ?_
      refine gfX4_14 hc dX4_exchange_98 ?_
      refine z_iload_n hc dX4_exchange_101 1 rfl ?_
      refine z_iaload hc 31 (by decide) rfl dX4_exchange_102 (fun v4 => ?_)
      refine z_istore (lv' := [(5, .int v4), (0, .ref (ad 29)), (1, .int x1), (2, .int x2), (3, .long y3)]) hc dX4_exchange_103 (by decide) rfl ?_
      refine z_aload_n hc dX4_exchange_105 1 rfl ?_
      refine gfX4_14 hc dX4_exchange_106 ?_
      refine z_iload_n hc dX4_exchange_109 2 rfl ?_
      refine z_aload_n hc dX4_exchange_110 1 rfl ?_
      refine gfX4_18 hc dX4_exchange_111 ?_
      refine z_iload_n hc dX4_exchange_114 3 rfl ?_
      refine z_iaload hc 32 (by decide) rfl dX4_exchange_115 (fun v5 => ?_)
      refine z_iastore hc 31 (by decide) (fun _ _ => rfl) dX4_exchange_116 (fun σ6 => ?_)
      refine z_aload_n hc dX4_exchange_117 1 rfl ?_
      refine gfX4_18 hc dX4_exchange_118 ?_
      refine z_iload_n hc dX4_exchange_121 3 rfl ?_
      refine z_iload hc dX4_exchange_122 0 rfl ?_
      refine z_iastore hc 32 (by decide) (fun _ _ => rfl) dX4_exchange_124 (fun σ7 => ?_)
      exact z_vret hc hr dX4_exchange_125
    · refine z_aload_n hc dX4_exchange_54 0 rfl ?_
      refine gfX4_11 hc dX4_exchange_55 ?_
      refine z_iload_n hc dX4_exchange_58 1 rfl ?_
      refine z_aaload hc 30 (by decide) (r := fun j => ad (35 + j)) (n0 := 15) rfl dX4_exchange_59 (fun r8 hr8 => ?_)
      refine z_iload hc dX4_exchange_60 4 rfl ?_
      refine z_aload_n hc dX4_exchange_62 0 rfl ?_
      refine gfX4_11 hc dX4_exchange_63 ?_
      refine z_iload_n hc dX4_exchange_66 1 rfl ?_
      refine z_aaload hc 30 (by decide) (r := fun j => ad (35 + j)) (n0 := 15) rfl dX4_exchange_67 (fun r9 hr9 => ?_)
      refine z_iload hc dX4_exchange_68 4 rfl ?_
      refine z_laload hc (35 + r9) (by omega) (zcC_row hr9 _ _) dX4_exchange_70 (fun v10 => ?_)
      refine z_lneg hc dX4_exchange_71 ?_
      refine z_lastore hc (35 + r8) (by omega) (zcC_row hr8) dX4_exchange_72 (fun σ11 => ?_)
      refine z_iinc (v := (x5 + (1 : Int32))) (lv' := [(5, .int (x5 + (1 : Int32))), (0, .ref (ad 29)), (1, .int x1), (2, .int x2), (3, .long y3)]) hc dX4_exchange_73 4 rfl rfl (by decide) rfl ?_
      refine z_goto (tgt := 45) hc dX4_exchange_76 (by decide) ?_
      refine z_sub [1, 2, 3, 4, 0] rfl ?_
      exact ih _ _ _ _ _
set_option maxRecDepth 100000 in
set_option maxHeartbeats 4000000 in
theorem tX4_exchange_13 {p : Program} {l : Launch} {e : Env} {s : State} {m : MethodId} {args : Array Value} {below : List Frame} {meth : Method} {c : Code} {D : va_G} {ca : Nat → ClassId} {xa ad : Nat → Nat} {A : Nat → Prop} (hc : zCx p s m args meth c cX4_exchange 6 RX4 D ca xa A (zwC ad ca)) (hr : meth.sig.returnType = none) (N : Nat)   : ∀ (n : Nat) (x1 : Int32) (x2 : Int32) (y3 : Int64) (x5 : Int32) (σ : zSt), zGO p l e rmX4_exchange s m args below meth c 0 0 (zwC ad ca) D A 6 (zQ below D A (zwC ad ca) args s zV) (fX4_exchange_13 N n x1 x2 y3 x5 σ) σ 13 [(0, .ref (ad 29)), (1, .int x1), (2, .int x2), (3, .long y3), (5, .int x5)] [] := by
  intro n
  induction n with
  | zero =>
    intro x1 x2 y3 x5 σ
    exact z_none
  | succ n ih =>
    intro x1 x2 y3 x5 σ
    unfold fX4_exchange_13
    refine z_iload hc dX4_exchange_13 4 rfl ?_
    refine z_aload_n hc dX4_exchange_15 0 rfl ?_
    refine gfX4_35 hc dX4_exchange_16 ?_
    refine z_icmp_ge (tgt := 42) hc dX4_exchange_19 (by decide) ?_ ?_
    · refine z_iconst (v := (0 : Int32)) hc dX4_exchange_42 (by decide) ?_
      refine z_istore (lv' := [(5, .int (0 : Int32)), (0, .ref (ad 29)), (1, .int x1), (2, .int x2), (3, .long y3)]) hc dX4_exchange_43 (by decide) rfl ?_
      refine z_sub [1, 2, 3, 4, 0] rfl ?_
      exact tX4_exchange_45 hc hr N N _ _ _ _ _
    · refine z_iload hc dX4_exchange_22 4 rfl ?_
      refine z_iload_n hc dX4_exchange_24 1 rfl ?_
      refine z_icmp_eq (tgt := 36) hc dX4_exchange_25 (by decide) ?_ ?_
      · refine z_iinc (v := (x5 + (1 : Int32))) (lv' := [(5, .int (x5 + (1 : Int32))), (0, .ref (ad 29)), (1, .int x1), (2, .int x2), (3, .long y3)]) hc dX4_exchange_36 4 rfl rfl (by decide) rfl ?_
        refine z_goto (tgt := 13) hc dX4_exchange_39 (by decide) ?_
        refine z_sub [1, 2, 3, 4, 0] rfl ?_
        exact ih _ _ _ _ _
      · refine z_aload_n hc dX4_exchange_28 0 rfl ?_
        refine z_iload hc dX4_exchange_29 4 rfl ?_
        refine z_iload_n hc dX4_exchange_31 1 rfl ?_
        refine z_iload_n hc dX4_exchange_32 2 rfl ?_
        refine z_runVv (b0 := ad 29) (As := [.int x5, .int x1, .int x2]) (rest := []) hc dX4_exchange_33 (fun _ _ h => tX4_clearOf h) mpX4_clearOf miX4_clearOf kmX4_64 ⟨rfl, rfl, Nat.le_of_ble_eq_true rfl, Nat.le_of_ble_eq_true rfl⟩ ⟨Nat.le_refl _, Nat.le_refl _⟩ zcC_rc29 rfl (Nat.le_of_ble_eq_true rfl) (fun b1 σ2 => ?_)
        refine z_iinc (v := (x5 + (1 : Int32))) (lv' := [(5, .int (x5 + (1 : Int32))), (0, .ref (ad 29)), (1, .int x1), (2, .int x2), (3, .long y3)]) hc dX4_exchange_36 4 rfl rfl (by decide) rfl ?_
        refine z_goto (tgt := 13) hc dX4_exchange_39 (by decide) ?_
        refine z_sub [1, 2, 3, 4, 0] rfl ?_
        exact ih _ _ _ _ _
set_option maxRecDepth 100000 in
set_option maxHeartbeats 4000000 in
theorem tX4_exchange {l : Launch} {D : va_G} {ca : Nat → ClassId} {xa ad : Nat → Nat} {A : Nat → Prop} {N : Nat} {x1 : Int32} {x2 : Int32} {σ : zSt} {a : Unit} {τ : zSt} (h : fX4_exchange N x1 x2 σ = some (a, τ)) : zCt l yX4_exchange cX4_exchange 6 none rmX4_exchange D ca xa A (zwC ad ca) [.ref (ad 29), .int x1, .int x2] σ (zV a) τ := by
  refine z_met (inj := zV) (lv := [(0, .ref (ad 29)), (1, .int x1), (2, .int x2)]) (by decide) (Nat.le_of_ble_eq_true rfl) rfl ?_ h
  intro p e s m args below meth c hc hr
  unfold fX4_exchange
  refine z_aload_n hc dX4_exchange_0 0 rfl ?_
  refine gfX4_11 hc dX4_exchange_1 ?_
  refine z_iload_n hc dX4_exchange_4 1 rfl ?_
  refine z_aaload hc 30 (by decide) (r := fun j => ad (35 + j)) (n0 := 15) rfl dX4_exchange_5 (fun r1 hr1 => ?_)
  refine z_iload_n hc dX4_exchange_6 2 rfl ?_
  refine z_laload hc (35 + r1) (by omega) (zcC_row hr1 _ _) dX4_exchange_7 (fun v2 => ?_)
  refine z_lneg hc dX4_exchange_8 ?_
  refine z_nmL (fun v3 => ?_)
  refine z_lstore_n (lv' := [(3, .long v3), (0, .ref (ad 29)), (1, .int x1), (2, .int x2)]) hc dX4_exchange_9 rfl (by decide) rfl ?_
  refine z_iconst (v := (0 : Int32)) hc dX4_exchange_10 (by decide) ?_
  refine z_istore (lv' := [(5, .int (0 : Int32)), (3, .long v3), (0, .ref (ad 29)), (1, .int x1), (2, .int x2)]) hc dX4_exchange_11 (by decide) rfl ?_
  refine z_sub [2, 3, 4, 1, 0] rfl ?_
  exact tX4_exchange_13 hc hr N N _ _ _ _ _
set_option maxRecDepth 100000 in
set_option maxHeartbeats 4000000 in
theorem tX4_settle_2 {p : Program} {l : Launch} {e : Env} {s : State} {m : MethodId} {args : Array Value} {below : List Frame} {meth : Method} {c : Code} {D : va_G} {ca : Nat → ClassId} {xa ad : Nat → Nat} {A : Nat → Prop} (hc : zCx p s m args meth c cX4_settle 4 RX4 D ca xa A (zwC ad ca)) (hr : meth.sig.returnType = (some .boolean)) (N : Nat)   : ∀ (n : Nat) (x1 : Int32) (σ : zSt), zGO p l e rmX4_settle s m args below meth c 0 0 (zwC ad ca) D A 4 (zQ below D A (zwC ad ca) args s zI) (fX4_settle_2 N n x1 σ) σ 2 [(0, .ref (ad 29)), (1, .int x1)] [] := by
  intro n
  induction n with
  | zero =>
    intro x1 σ
    exact z_none
  | succ n ih =>
    intro x1 σ
    unfold fX4_settle_2
    refine z_iload_n hc dX4_settle_2 1 rfl ?_
    refine z_ldc hc dX4_settle_3 kcX4_47 ?_
    refine z_icmp_ge (tgt := 43) hc dX4_settle_5 (by decide) ?_ ?_
    · refine z_iconst (v := (0 : Int32)) hc dX4_settle_43 (by decide) ?_
      exact z_zret hc hr dX4_settle_44
    · refine z_aload_n hc dX4_settle_8 0 rfl ?_
      refine z_runVi (b0 := ad 29) (As := []) (rest := []) hc dX4_settle_9 (fun _ _ h => tX4_brokenRow h) mpX4_brokenRow miX4_brokenRow kmX4_48 ⟨rfl, rfl, Nat.le_of_ble_eq_true rfl, Nat.le_of_ble_eq_true rfl⟩ ⟨Nat.le_refl _, Nat.le_refl _⟩ zcC_rc29 rfl (Nat.le_of_ble_eq_true rfl) (fun b1 σ2 => ?_)
      refine z_istore_n (lv' := [(2, .int b1), (0, .ref (ad 29)), (1, .int x1)]) hc dX4_settle_12 rfl (by decide) rfl ?_
      refine z_iload_n hc dX4_settle_13 0 rfl ?_
      refine z_if_ge (tgt := 19) hc dX4_settle_14 (by decide) ?_ ?_
      · refine z_aload_n hc dX4_settle_19 1 rfl ?_
        refine z_iload_n hc dX4_settle_20 0 rfl ?_
        refine z_runVi (b0 := ad 29) (As := [.int b1]) (rest := []) hc dX4_settle_21 (fun _ _ h => tX4_mendingColumn h) mpX4_mendingColumn miX4_mendingColumn kmX4_52 ⟨rfl, rfl, Nat.le_of_ble_eq_true rfl, Nat.le_of_ble_eq_true rfl⟩ ⟨Nat.le_refl _, Nat.le_refl _⟩ zcC_rc29 rfl (Nat.le_of_ble_eq_true rfl) (fun b3 σ4 => ?_)
        refine z_istore_n (lv' := [(3, .int b3), (2, .int b1), (0, .ref (ad 29)), (1, .int x1)]) hc dX4_settle_24 rfl (by decide) rfl ?_
        refine z_iload_n hc dX4_settle_25 0 rfl ?_
        refine z_if_ge (tgt := 31) hc dX4_settle_26 (by decide) ?_ ?_
        · refine z_aload_n hc dX4_settle_31 2 rfl ?_
          refine z_iload_n hc dX4_settle_32 1 rfl ?_
          refine z_iload_n hc dX4_settle_33 0 rfl ?_
          refine z_runVv (b0 := ad 29) (As := [.int b1, .int b3]) (rest := []) hc dX4_settle_34 (fun _ _ h => tX4_exchange h) mpX4_exchange miX4_exchange kmX4_56 ⟨rfl, rfl, Nat.le_of_ble_eq_true rfl, Nat.le_of_ble_eq_true rfl⟩ ⟨Nat.le_refl _, Nat.le_refl _⟩ zcC_rc29 rfl (Nat.le_of_ble_eq_true rfl) (fun b5 σ6 => ?_)
          refine z_iinc (v := (x1 + (1 : Int32))) (lv' := [(1, .int (x1 + (1 : Int32))), (3, .int b3), (2, .int b1), (0, .ref (ad 29))]) hc dX4_settle_37 3 rfl rfl (by decide) rfl ?_
          refine z_goto (tgt := 2) hc dX4_settle_40 (by decide) ?_
          refine z_sub [3, 0] rfl ?_
          exact ih _ _
        · refine z_iconst (v := (0 : Int32)) hc dX4_settle_29 (by decide) ?_
          exact z_zret hc hr dX4_settle_30
      · refine z_iconst (v := (1 : Int32)) hc dX4_settle_17 (by decide) ?_
        exact z_zret hc hr dX4_settle_18
set_option maxRecDepth 100000 in
set_option maxHeartbeats 4000000 in
theorem tX4_settle {l : Launch} {D : va_G} {ca : Nat → ClassId} {xa ad : Nat → Nat} {A : Nat → Prop} {N : Nat}  {σ : zSt} {a : Int32} {τ : zSt} (h : fX4_settle N σ = some (a, τ)) : zCt l yX4_settle cX4_settle 4 (some .boolean) rmX4_settle D ca xa A (zwC ad ca) [.ref (ad 29)] σ (zI a) τ := by
  refine z_met (inj := zI) (lv := [(0, .ref (ad 29))]) (by decide) (Nat.le_of_ble_eq_true rfl) rfl ?_ h
  intro p e s m args below meth c hc hr
  unfold fX4_settle
  refine z_iconst (v := (0 : Int32)) hc dX4_settle_0 (by decide) ?_
  refine z_istore_n (lv' := [(1, .int (0 : Int32)), (0, .ref (ad 29))]) hc dX4_settle_1 rfl (by decide) rfl ?_
  refine z_sub [1, 0] rfl ?_
  exact tX4_settle_2 hc hr N N _ _
set_option maxRecDepth 100000 in
set_option maxHeartbeats 4000000 in
theorem tX4_least {l : Launch} {D : va_G} {ca : Nat → ClassId} {xa ad : Nat → Nat} {A : Nat → Prop} {N : Nat}  {σ : zSt} {a : Int64} {τ : zSt} (h : fX4_least N σ = some (a, τ)) : zCt l yX4_least cX4_least 1 (some .long) rmX4_least D ca xa A (zwC ad ca) [.ref (ad 29)] σ (zL a) τ := by
  refine z_met (inj := zL) (lv := [(0, .ref (ad 29))]) (by decide) (Nat.le_of_ble_eq_true rfl) rfl ?_ h
  intro p e s m args below meth c hc hr
  unfold fX4_least
  refine z_aload_n hc dX4_least_0 0 rfl ?_
  refine gfX4_11 hc dX4_least_1 ?_
  refine z_iconst (v := (0 : Int32)) hc dX4_least_4 (by decide) ?_
  refine z_aaload hc 30 (by decide) (r := fun j => ad (35 + j)) (n0 := 15) rfl dX4_least_5 (fun r1 hr1 => ?_)
  refine z_aload_n hc dX4_least_6 0 rfl ?_
  refine gfX4_27 hc dX4_least_7 ?_
  refine z_laload hc (35 + r1) (by omega) (zcC_row hr1 _ _) dX4_least_10 (fun v2 => ?_)
  refine z_lneg hc dX4_least_11 ?_
  exact z_lret hc hr dX4_least_12
set_option maxRecDepth 100000 in
set_option maxHeartbeats 4000000 in
theorem tX6_reduce_44 {p : Program} {l : Launch} {e : Env} {s : State} {m : MethodId} {args : Array Value} {below : List Frame} {meth : Method} {c : Code} {D : va_G} {ca : Nat → ClassId} {xa ad : Nat → Nat} {A : Nat → Prop} (hc : zCx p s m args meth c cX6_reduce 12 RX6 D ca xa A (zwC ad ca)) (hr : meth.sig.returnType = none) (N : Nat)   (y1 : Int64) (y3 : Int64) (y5 : Int64) (σ : zSt) : zGO p l e rmX6_reduce s m args below meth c 0 0 (zwC ad ca) D A 12 (zQ below D A (zwC ad ca) args s zV) (fX6_reduce_44 N y1 y3 y5 σ) σ 44 [(0, .ref (ad 23)), (1, .long y1), (3, .long y3), (5, .long y5)] [] := by
  unfold fX6_reduce_44
  refine z_aload_n hc dX6_reduce_44 0 rfl ?_
  refine z_lload_n hc dX6_reduce_45 1 rfl ?_
  refine z_lload hc dX6_reduce_46 3 rfl ?_
  refine z_runSNl (As := [.long y1, .long y5]) (rest := [.ref (ad 23)]) hc dX6_reduce_48 (fun _ _ h => tX4_divide h) mpX4_divide miX4_divide kmX6_100 ⟨rfl, rfl, Nat.le_of_ble_eq_true rfl, Nat.le_of_ble_eq_true rfl⟩ ⟨Nat.le_refl _, Nat.le_refl _⟩ rfl (Nat.le_of_ble_eq_true rfl) (fun b1 σ2 => ?_)
  refine pfX6_93 hc dX6_reduce_51 (fun σ3 => ?_)
  refine z_aload_n hc dX6_reduce_54 0 rfl ?_
  refine z_lload_n hc dX6_reduce_55 2 rfl ?_
  refine z_lload hc dX6_reduce_56 3 rfl ?_
  refine z_runSNl (As := [.long y3, .long y5]) (rest := [.ref (ad 23)]) hc dX6_reduce_58 (fun _ _ h => tX4_divide h) mpX4_divide miX4_divide kmX6_100 ⟨rfl, rfl, Nat.le_of_ble_eq_true rfl, Nat.le_of_ble_eq_true rfl⟩ ⟨Nat.le_refl _, Nat.le_refl _⟩ rfl (Nat.le_of_ble_eq_true rfl) (fun b4 σ5 => ?_)
  refine pfX6_90 hc dX6_reduce_61 (fun σ6 => ?_)
  exact z_vret hc hr dX6_reduce_64
set_option maxRecDepth 100000 in
set_option maxHeartbeats 4000000 in
theorem tX6_reduce_9 {p : Program} {l : Launch} {e : Env} {s : State} {m : MethodId} {args : Array Value} {below : List Frame} {meth : Method} {c : Code} {D : va_G} {ca : Nat → ClassId} {xa ad : Nat → Nat} {A : Nat → Prop} (hc : zCx p s m args meth c cX6_reduce 12 RX6 D ca xa A (zwC ad ca)) (hr : meth.sig.returnType = none) (N : Nat)   : ∀ (n : Nat) (y1 : Int64) (y3 : Int64) (y5 : Int64) (y7 : Int64) (x9 : Int32) (σ : zSt), zGO p l e rmX6_reduce s m args below meth c 0 0 (zwC ad ca) D A 12 (zQ below D A (zwC ad ca) args s zV) (fX6_reduce_9 N n y1 y3 y5 y7 x9 σ) σ 9 [(0, .ref (ad 23)), (1, .long y1), (3, .long y3), (5, .long y5), (7, .long y7), (9, .int x9)] [] := by
  intro n
  induction n with
  | zero =>
    intro y1 y3 y5 y7 x9 σ
    exact z_none
  | succ n ih =>
    intro y1 y3 y5 y7 x9 σ
    unfold fX6_reduce_9
    refine z_iload hc dX6_reduce_9 5 rfl ?_
    refine z_bipush (v := (100 : Int32)) hc dX6_reduce_11 (by decide) ?_
    refine z_icmp_ge (tgt := 44) hc dX6_reduce_13 (by decide) ?_ ?_
    · refine z_sub [0, 1, 2, 3] rfl ?_
      exact tX6_reduce_44 hc hr N _ _ _ _
    · refine z_lload hc dX6_reduce_16 4 rfl ?_
      refine z_lconst (v := (0 : Int64)) hc dX6_reduce_18 (by decide) ?_
      refine z_lcmp_eq (tgt := 44) hc dX6_reduce_19 dX6_reduce_20 (by decide) ?_ ?_
      · refine z_sub [0, 1, 2, 3] rfl ?_
        exact tX6_reduce_44 hc hr N _ _ _ _
      · refine z_lload hc dX6_reduce_23 3 rfl ?_
        refine z_lload hc dX6_reduce_25 4 rfl ?_
        refine z_lrem hc dX6_reduce_27 (fun v1 => ?_)
        refine z_lstore (lv' := [(10, .long v1), (0, .ref (ad 23)), (1, .long y1), (3, .long y3), (5, .long y5), (7, .long y7), (9, .int x9)]) hc dX6_reduce_28 (by decide) rfl ?_
        refine z_lload hc dX6_reduce_30 5 rfl ?_
        refine z_lstore (lv' := [(5, .long y7), (10, .long v1), (0, .ref (ad 23)), (1, .long y1), (3, .long y3), (7, .long y7), (9, .int x9)]) hc dX6_reduce_32 (by decide) rfl ?_
        refine z_lload hc dX6_reduce_34 1 rfl ?_
        refine z_lstore (lv' := [(7, .long v1), (5, .long y7), (10, .long v1), (0, .ref (ad 23)), (1, .long y1), (3, .long y3), (9, .int x9)]) hc dX6_reduce_36 (by decide) rfl ?_
        refine z_iinc (v := (x9 + (1 : Int32))) (lv' := [(9, .int (x9 + (1 : Int32))), (7, .long v1), (5, .long y7), (10, .long v1), (0, .ref (ad 23)), (1, .long y1), (3, .long y3)]) hc dX6_reduce_38 6 rfl rfl (by decide) rfl ?_
        refine z_goto (tgt := 9) hc dX6_reduce_41 (by decide) ?_
        refine z_sub [4, 5, 6, 2, 1, 0] rfl ?_
        exact ih _ _ _ _ _ _
set_option maxRecDepth 100000 in
set_option maxHeartbeats 4000000 in
theorem tX6_reduce {l : Launch} {D : va_G} {ca : Nat → ClassId} {xa ad : Nat → Nat} {A : Nat → Prop} {N : Nat} {y1 : Int64} {y3 : Int64} {σ : zSt} {a : Unit} {τ : zSt} (h : fX6_reduce N y1 y3 σ = some (a, τ)) : zCt l yX6_reduce cX6_reduce 12 none rmX6_reduce D ca xa A (zwC ad ca) [.ref (ad 23), .long y1, .long y3] σ (zV a) τ := by
  refine z_met (inj := zV) (lv := [(0, .ref (ad 23)), (1, .long y1), (3, .long y3)]) (by decide) (Nat.le_of_ble_eq_true rfl) rfl ?_ h
  intro p e s m args below meth c hc hr
  unfold fX6_reduce
  refine z_lload_n hc dX6_reduce_0 2 rfl ?_
  refine z_lstore (lv' := [(5, .long y3), (0, .ref (ad 23)), (1, .long y1), (3, .long y3)]) hc dX6_reduce_1 (by decide) rfl ?_
  refine z_lload_n hc dX6_reduce_3 2 rfl ?_
  refine z_lstore (lv' := [(7, .long y1), (5, .long y3), (0, .ref (ad 23)), (1, .long y1), (3, .long y3)]) hc dX6_reduce_4 (by decide) rfl ?_
  refine z_iconst (v := (0 : Int32)) hc dX6_reduce_6 (by decide) ?_
  refine z_istore (lv' := [(9, .int (0 : Int32)), (7, .long y1), (5, .long y3), (0, .ref (ad 23)), (1, .long y1), (3, .long y3)]) hc dX6_reduce_7 (by decide) rfl ?_
  refine z_sub [3, 4, 5, 2, 1, 0] rfl ?_
  exact tX6_reduce_9 hc hr N N _ _ _ _ _ _
set_option maxRecDepth 100000 in
set_option maxHeartbeats 4000000 in
theorem tX6_findLeast_75 {p : Program} {l : Launch} {e : Env} {s : State} {m : MethodId} {args : Array Value} {below : List Frame} {meth : Method} {c : Code} {D : va_G} {ca : Nat → ClassId} {xa ad : Nat → Nat} {A : Nat → Prop} (hc : zCx p s m args meth c cX6_findLeast 4 RX6 D ca xa A (zwC ad ca)) (hr : meth.sig.returnType = (some .boolean)) (N : Nat) (k44 : Int32 → zSt → Option (Int32 × zSt)) (hk44 : ∀ (x2 : Int32) (σ : zSt), zGO p l e rmX6_findLeast s m args below meth c 0 0 (zwC ad ca) D A 4 (zQ below D A (zwC ad ca) args s zI) (k44 x2 σ) σ 44 [(0, .ref (ad 23)), (2, .int x2)] []) : ∀ (n : Nat) (x2 : Int32) (x3 : Int32) (σ : zSt), zGO p l e rmX6_findLeast s m args below meth c 0 0 (zwC ad ca) D A 4 (zQ below D A (zwC ad ca) args s zI) (fX6_findLeast_75 N k44 n x2 x3 σ) σ 75 [(0, .ref (ad 23)), (2, .int x2), (3, .int x3)] [] := by
  intro n
  induction n with
  | zero =>
    intro x2 x3 σ
    exact z_none
  | succ n ih =>
    intro x2 x3 σ
    unfold fX6_findLeast_75
    refine z_iload_n hc dX6_findLeast_75 2 rfl ?_
    refine z_iload_n hc dX6_findLeast_76 1 rfl ?_
    refine z_icmp_ge (tgt := 121) hc dX6_findLeast_77 (by decide) ?_ ?_
    · refine z_iinc (v := (x2 + (1 : Int32))) (lv' := [(2, .int (x2 + (1 : Int32))), (0, .ref (ad 23)), (3, .int x3)]) hc dX6_findLeast_121 1 rfl rfl (by decide) rfl ?_
      refine z_goto (tgt := 44) hc dX6_findLeast_124 (by decide) ?_
      refine z_sub [1, 0] rfl ?_
      exact hk44 _ _
    · refine z_aload_n hc dX6_findLeast_80 0 rfl ?_
      refine z_tab (N := 0) (f := zTW) (ref := "") hc (zexZ0 hc) kfX6_62 dX6_findLeast_81 ?_
      refine z_iload_n hc dX6_findLeast_84 1 rfl ?_
      refine z_tabld hc (zexT0 hc) dX6_findLeast_85 (fun v1 => ?_)
      refine z_tab (N := 0) (f := zTW) (ref := "") hc (zexZ0 hc) kfX6_62 dX6_findLeast_86 ?_
      refine z_iload_n hc dX6_findLeast_89 2 rfl ?_
      refine z_tabld hc (zexT0 hc) dX6_findLeast_90 (fun v2 => ?_)
      refine z_iand hc dX6_findLeast_91 ?_
      refine z_aload_n hc dX6_findLeast_92 0 rfl ?_
      refine gfX6_21 hc dX6_findLeast_93 ?_
      refine z_iload_n hc dX6_findLeast_96 1 rfl ?_
      refine z_iload_n hc dX6_findLeast_97 2 rfl ?_
      refine z_iadd hc dX6_findLeast_98 ?_
      refine z_iconst (v := (1 : Int32)) hc dX6_findLeast_99 (by decide) ?_
      refine z_isub hc dX6_findLeast_100 ?_
      refine z_iaload hc 27 (by decide) rfl dX6_findLeast_101 (fun v3 => ?_)
      refine z_aload_n hc dX6_findLeast_102 0 rfl ?_
      refine gfX6_24 hc dX6_findLeast_103 ?_
      refine z_iload_n hc dX6_findLeast_106 1 rfl ?_
      refine z_iload_n hc dX6_findLeast_107 2 rfl ?_
      refine z_iadd hc dX6_findLeast_108 ?_
      refine z_iconst (v := (1 : Int32)) hc dX6_findLeast_109 (by decide) ?_
      refine z_isub hc dX6_findLeast_110 ?_
      refine z_iaload hc 28 (by decide) rfl dX6_findLeast_111 (fun v4 => ?_)
      refine z_runVv (b0 := ad 23) (As := [.int (v1 &&& v2), .int v3, .int v4]) (rest := []) hc dX6_findLeast_112 (fun _ _ h => tX6_addSpan h) mpX6_addSpan miX6_addSpan kmX6_65 ⟨rfl, rfl, Nat.le_of_ble_eq_true rfl, Nat.le_of_ble_eq_true rfl⟩ ⟨Nat.le_refl _, Nat.le_refl _⟩ zcC_rc23 rfl (Nat.le_of_ble_eq_true rfl) (fun b5 σ6 => ?_)
      refine z_iinc (v := (x3 + (1 : Int32))) (lv' := [(3, .int (x3 + (1 : Int32))), (0, .ref (ad 23)), (2, .int x2)]) hc dX6_findLeast_115 2 rfl rfl (by decide) rfl ?_
      refine z_goto (tgt := 75) hc dX6_findLeast_118 (by decide) ?_
      refine z_sub [1, 2, 0] rfl ?_
      exact ih _ _ _
set_option maxRecDepth 100000 in
set_option maxHeartbeats 4000000 in
theorem tX6_findLeast_44 {p : Program} {l : Launch} {e : Env} {s : State} {m : MethodId} {args : Array Value} {below : List Frame} {meth : Method} {c : Code} {D : va_G} {ca : Nat → ClassId} {xa ad : Nat → Nat} {A : Nat → Prop} (hc : zCx p s m args meth c cX6_findLeast 4 RX6 D ca xa A (zwC ad ca)) (hr : meth.sig.returnType = (some .boolean)) (N : Nat)   : ∀ (n : Nat) (x2 : Int32) (σ : zSt), zGO p l e rmX6_findLeast s m args below meth c 0 0 (zwC ad ca) D A 4 (zQ below D A (zwC ad ca) args s zI) (fX6_findLeast_44 N n x2 σ) σ 44 [(0, .ref (ad 23)), (2, .int x2)] [] := by
  intro n
  induction n with
  | zero =>
    intro x2 σ
    exact z_none
  | succ n ih =>
    intro x2 σ
    unfold fX6_findLeast_44
    refine z_iload_n hc dX6_findLeast_44 1 rfl ?_
    refine z_aload_n hc dX6_findLeast_45 0 rfl ?_
    refine gfX6_34 hc dX6_findLeast_46 ?_
    refine z_icmp_ge (tgt := 127) hc dX6_findLeast_49 (by decide) ?_ ?_
    · refine z_aload_n hc dX6_findLeast_127 0 rfl ?_
      refine gfX6_30 hc dX6_findLeast_128 ?_
      refine z_runVNi (b0 := ad 29) (As := []) (rest := []) hc dX6_findLeast_131 (fun _ _ h => tX4_settle h) mpX4_settle miX4_settle kmX6_68 ⟨rfl, rfl, Nat.le_of_ble_eq_true rfl, Nat.le_of_ble_eq_true rfl⟩ ⟨Nat.le_refl _, Nat.le_refl _⟩ zcC_rc29 rfl (Nat.le_of_ble_eq_true rfl) (fun b1 σ2 => ?_)
      refine z_if_ne (tgt := 139) hc dX6_findLeast_134 (by decide) ?_ ?_
      · refine z_iconst (v := (0 : Int32)) hc dX6_findLeast_137 (by decide) ?_
        exact z_zret hc hr dX6_findLeast_138
      · refine z_aload_n hc dX6_findLeast_139 0 rfl ?_
        refine z_aload_n hc dX6_findLeast_140 0 rfl ?_
        refine gfX6_30 hc dX6_findLeast_141 ?_
        refine z_runVNl (b0 := ad 29) (As := []) (rest := [.ref (ad 23)]) hc dX6_findLeast_144 (fun _ _ h => tX4_least h) mpX4_least miX4_least kmX6_72 ⟨rfl, rfl, Nat.le_of_ble_eq_true rfl, Nat.le_of_ble_eq_true rfl⟩ ⟨Nat.le_refl _, Nat.le_refl _⟩ zcC_rc29 rfl (Nat.le_of_ble_eq_true rfl) (fun b3 σ4 => ?_)
        refine z_ldc2 hc dX6_findLeast_147 kcX6_76 ?_
        refine z_aload_n hc dX6_findLeast_150 0 rfl ?_
        refine gfX6_30 hc dX6_findLeast_151 ?_
        refine gfX6_78 hc dX6_findLeast_154 ?_
        refine z_lmul hc dX6_findLeast_157 ?_
        refine z_runVv (b0 := ad 23) (As := [.long b3, .long ((100 : Int64) * (σ4.2 29 5))]) (rest := []) hc dX6_findLeast_158 (fun _ _ h => tX6_reduce h) mpX6_reduce miX6_reduce kmX6_82 ⟨rfl, rfl, Nat.le_of_ble_eq_true rfl, Nat.le_of_ble_eq_true rfl⟩ ⟨Nat.le_refl _, Nat.le_refl _⟩ zcC_rc23 rfl (Nat.le_of_ble_eq_true rfl) (fun b5 σ6 => ?_)
        refine z_iconst (v := (1 : Int32)) hc dX6_findLeast_161 (by decide) ?_
        exact z_zret hc hr dX6_findLeast_162
    · refine z_aload_n hc dX6_findLeast_52 0 rfl ?_
      refine z_tab (N := 0) (f := zTW) (ref := "") hc (zexZ0 hc) kfX6_62 dX6_findLeast_53 ?_
      refine z_iload_n hc dX6_findLeast_56 1 rfl ?_
      refine z_tabld hc (zexT0 hc) dX6_findLeast_57 (fun v7 => ?_)
      refine z_aload_n hc dX6_findLeast_58 0 rfl ?_
      refine gfX6_15 hc dX6_findLeast_59 ?_
      refine z_iload_n hc dX6_findLeast_62 1 rfl ?_
      refine z_iaload hc 25 (by decide) rfl dX6_findLeast_63 (fun v8 => ?_)
      refine z_aload_n hc dX6_findLeast_64 0 rfl ?_
      refine gfX6_18 hc dX6_findLeast_65 ?_
      refine z_iload_n hc dX6_findLeast_68 1 rfl ?_
      refine z_iaload hc 26 (by decide) rfl dX6_findLeast_69 (fun v9 => ?_)
      refine z_runVv (b0 := ad 23) (As := [.int v7, .int v8, .int v9]) (rest := []) hc dX6_findLeast_70 (fun _ _ h => tX6_addSpan h) mpX6_addSpan miX6_addSpan kmX6_65 ⟨rfl, rfl, Nat.le_of_ble_eq_true rfl, Nat.le_of_ble_eq_true rfl⟩ ⟨Nat.le_refl _, Nat.le_refl _⟩ zcC_rc23 rfl (Nat.le_of_ble_eq_true rfl) (fun b10 σ11 => ?_)
      refine z_iconst (v := (0 : Int32)) hc dX6_findLeast_73 (by decide) ?_
      refine z_istore_n (lv' := [(3, .int (0 : Int32)), (0, .ref (ad 23)), (2, .int x2)]) hc dX6_findLeast_74 rfl (by decide) rfl ?_
      refine z_sub [1, 2, 0] rfl ?_
      exact tX6_findLeast_75 hc hr N _ (ih) N _ _ _
set_option maxRecDepth 100000 in
set_option maxHeartbeats 4000000 in
theorem tX6_findLeast {l : Launch} {D : va_G} {ca : Nat → ClassId} {xa ad : Nat → Nat} {A : Nat → Prop} {N : Nat} {x1 : Int32} {σ : zSt} {a : Int32} {τ : zSt} (h : fX6_findLeast N x1 σ = some (a, τ)) : zCt l yX6_findLeast cX6_findLeast 4 (some .boolean) rmX6_findLeast D ca xa A (zwC ad ca) [.ref (ad 23), .int x1] σ (zI a) τ := by
  refine z_met (inj := zI) (lv := [(0, .ref (ad 23)), (1, .int x1)]) (by decide) (Nat.le_of_ble_eq_true rfl) rfl ?_ h
  intro p e s m args below meth c hc hr
  unfold fX6_findLeast
  refine z_aload_n hc dX6_findLeast_0 0 rfl ?_
  refine gfX6_30 hc dX6_findLeast_1 ?_
  refine z_iconst (v := (1 : Int32)) hc dX6_findLeast_4 (by decide) ?_
  refine z_aload_n hc dX6_findLeast_5 0 rfl ?_
  refine gfX6_34 hc dX6_findLeast_6 ?_
  refine z_ishl hc dX6_findLeast_9 ?_
  refine z_iload_n hc dX6_findLeast_10 1 rfl ?_
  refine z_runVNv (b0 := ad 29) (As := [.int ((1 : Int32) <<< ((σ.1 23 0) &&& 31)), .int x1]) (rest := []) hc dX6_findLeast_11 (fun _ _ h => tX4_begin h) mpX4_begin miX4_begin kmX6_51 ⟨rfl, rfl, Nat.le_of_ble_eq_true rfl, Nat.le_of_ble_eq_true rfl⟩ ⟨Nat.le_refl _, Nat.le_refl _⟩ zcC_rc29 rfl (Nat.le_of_ble_eq_true rfl) (fun b1 σ2 => ?_)
  refine z_aload_n hc dX6_findLeast_14 0 rfl ?_
  refine gfX6_30 hc dX6_findLeast_15 ?_
  refine z_aload_n hc dX6_findLeast_18 0 rfl ?_
  refine z_runVi (b0 := ad 23) (As := []) (rest := [.ref (ad 29)]) hc dX6_findLeast_19 (fun _ _ h => tX6_allWorlds h) mpX6_allWorlds miX6_allWorlds kmX6_55 ⟨rfl, rfl, Nat.le_of_ble_eq_true rfl, Nat.le_of_ble_eq_true rfl⟩ ⟨Nat.le_refl _, Nat.le_refl _⟩ zcC_rc23 rfl (Nat.le_of_ble_eq_true rfl) (fun b3 σ4 => ?_)
  refine z_iconst (v := (1 : Int32)) hc dX6_findLeast_22 (by decide) ?_
  refine z_bipush (v := (100 : Int32)) hc dX6_findLeast_23 (by decide) ?_
  refine z_runVNv (b0 := ad 29) (As := [.int b3, .int (1 : Int32), .int (100 : Int32)]) (rest := []) hc dX6_findLeast_25 (fun _ _ h => tX4_addRow h) mpX4_addRow miX4_addRow kmX6_58 ⟨rfl, rfl, Nat.le_of_ble_eq_true rfl, Nat.le_of_ble_eq_true rfl⟩ ⟨Nat.le_refl _, Nat.le_refl _⟩ zcC_rc29 rfl (Nat.le_of_ble_eq_true rfl) (fun b5 σ6 => ?_)
  refine z_aload_n hc dX6_findLeast_28 0 rfl ?_
  refine gfX6_30 hc dX6_findLeast_29 ?_
  refine z_aload_n hc dX6_findLeast_32 0 rfl ?_
  refine z_runVi (b0 := ad 23) (As := []) (rest := [.ref (ad 29)]) hc dX6_findLeast_33 (fun _ _ h => tX6_allWorlds h) mpX6_allWorlds miX6_allWorlds kmX6_55 ⟨rfl, rfl, Nat.le_of_ble_eq_true rfl, Nat.le_of_ble_eq_true rfl⟩ ⟨Nat.le_refl _, Nat.le_refl _⟩ zcC_rc23 rfl (Nat.le_of_ble_eq_true rfl) (fun b7 σ8 => ?_)
  refine z_iconst (v := (-1 : Int32)) hc dX6_findLeast_36 (by decide) ?_
  refine z_bipush (v := (-100 : Int32)) hc dX6_findLeast_37 (by decide) ?_
  refine z_runVNv (b0 := ad 29) (As := [.int b7, .int (-1 : Int32), .int (-100 : Int32)]) (rest := []) hc dX6_findLeast_39 (fun _ _ h => tX4_addRow h) mpX4_addRow miX4_addRow kmX6_58 ⟨rfl, rfl, Nat.le_of_ble_eq_true rfl, Nat.le_of_ble_eq_true rfl⟩ ⟨Nat.le_refl _, Nat.le_refl _⟩ zcC_rc29 rfl (Nat.le_of_ble_eq_true rfl) (fun b9 σ10 => ?_)
  refine z_iconst (v := (0 : Int32)) hc dX6_findLeast_42 (by decide) ?_
  refine z_istore_n (lv' := [(2, .int (0 : Int32)), (0, .ref (ad 23)), (1, .int x1)]) hc dX6_findLeast_43 rfl (by decide) rfl ?_
  refine z_sub [1, 0] rfl ?_
  exact tX6_findLeast_44 hc hr N N _ _
set_option maxRecDepth 100000 in
set_option maxHeartbeats 4000000 in
theorem tX7_agree {l : Launch} {D : va_G} {ca : Nat → ClassId} {xa ad : Nat → Nat} {A : Nat → Prop} {N : Nat}  {σ : zSt} {a : Int32} {τ : zSt} (h : fX7_agree N σ = some (a, τ)) : zCt l yX7_agree cX7_agree 1 (some .int) rmX7_agree D ca xa A (zwC ad ca) [.ref (ad 0)] σ (zI a) τ := by
  refine z_met (inj := zI) (lv := [(0, .ref (ad 0))]) (by decide) (Nat.le_of_ble_eq_true rfl) rfl ?_ h
  intro p e s m args below meth c hc hr
  unfold fX7_agree
  refine z_aload_n hc dX7_agree_0 0 rfl ?_
  refine gfX7_40 hc dX7_agree_1 ?_
  refine z_iconst (v := (0 : Int32)) hc dX7_agree_4 (by decide) ?_
  refine z_runVNi (b0 := ad 23) (As := [.int (0 : Int32)]) (rest := []) hc dX7_agree_5 (fun _ _ h => tX6_findLeast h) mpX6_findLeast miX6_findLeast kmX7_249 ⟨rfl, rfl, Nat.le_of_ble_eq_true rfl, Nat.le_of_ble_eq_true rfl⟩ ⟨Nat.le_refl _, Nat.le_refl _⟩ zcC_rc23 rfl (Nat.le_of_ble_eq_true rfl) (fun b1 σ2 => ?_)
  refine z_if_eq (tgt := 15) hc dX7_agree_8 (by decide) ?_ ?_
  · refine z_iconst (v := (0 : Int32)) hc dX7_agree_15 (by decide) ?_
    exact z_iret hc hr dX7_agree_16
  · refine z_iconst (v := (1 : Int32)) hc dX7_agree_11 (by decide) ?_
    refine z_goto (tgt := 16) hc dX7_agree_12 (by decide) ?_
    exact z_iret hc hr dX7_agree_16
set_option maxRecDepth 100000 in
set_option maxHeartbeats 4000000 in
theorem tX8_isOfWorld_31 {p : Program} {l : Launch} {e : Env} {s : State} {m : MethodId} {args : Array Value} {below : List Frame} {meth : Method} {c : Code} {D : va_G} {ca : Nat → ClassId} {xa ad : Nat → Nat} {A : Nat → Prop} (hc : zCx p s m args meth c cX8_isOfWorld 3 RX8 D ca xa A (zwM ad ca)) (hr : meth.sig.returnType = (some .boolean)) (N : Nat)   (x1 : Int32) (s0 : Int32) (σ : zSt) : zGO p l e rmX8_isOfWorld s m args below meth c 0 0 (zwM ad ca) D A 3 (zQ below D A (zwM ad ca) args s zI) (fX8_isOfWorld_31 N x1 s0 σ) σ 31 [(1, .int x1)] [.int s0] := by
  unfold fX8_isOfWorld_31
  refine z_istore_n (lv' := [(2, .int s0), (1, .int x1)]) hc dX8_isOfWorld_31 rfl (by decide) rfl ?_
  refine z_iload_n hc dX8_isOfWorld_32 1 rfl ?_
  refine z_iload_n hc dX8_isOfWorld_33 0 rfl ?_
  refine z_iand hc dX8_isOfWorld_34 ?_
  refine z_iload_n hc dX8_isOfWorld_35 0 rfl ?_
  refine z_icmp_ne (tgt := 43) hc dX8_isOfWorld_36 (by decide) ?_ ?_
  · refine z_iconst (v := (1 : Int32)) hc dX8_isOfWorld_39 (by decide) ?_
    refine z_goto (tgt := 44) hc dX8_isOfWorld_40 (by decide) ?_
    exact z_zret hc hr dX8_isOfWorld_44
  · refine z_iconst (v := (0 : Int32)) hc dX8_isOfWorld_43 (by decide) ?_
    exact z_zret hc hr dX8_isOfWorld_44
set_option maxRecDepth 100000 in
set_option maxHeartbeats 4000000 in
theorem tX8_isOfWorld {l : Launch} {D : va_G} {ca : Nat → ClassId} {xa ad : Nat → Nat} {A : Nat → Prop} {N : Nat} {x0 : Int32} {x1 : Int32} {σ : zSt} {a : Int32} {τ : zSt} (h : fX8_isOfWorld N x0 x1 σ = some (a, τ)) : zCt l yX8_isOfWorld cX8_isOfWorld 3 (some .boolean) rmX8_isOfWorld D ca xa A (zwM ad ca) [.int x0, .int x1] σ (zI a) τ := by
  refine z_met (inj := zI) (lv := [(0, .int x0), (1, .int x1)]) (by decide) (Nat.le_of_ble_eq_true rfl) rfl ?_ h
  intro p e s m args below meth c hc hr
  unfold fX8_isOfWorld
  refine z_iload_n hc dX8_isOfWorld_0 0 rfl ?_
  refine z_iconst (v := (3 : Int32)) hc dX8_isOfWorld_1 (by decide) ?_
  refine z_icmp_ge (tgt := 11) hc dX8_isOfWorld_2 (by decide) ?_ ?_
  · refine z_iload_n hc dX8_isOfWorld_11 0 rfl ?_
    refine z_iconst (v := (3 : Int32)) hc dX8_isOfWorld_12 (by decide) ?_
    refine z_icmp_ne (tgt := 20) hc dX8_isOfWorld_13 (by decide) ?_ ?_
    · refine z_iconst (v := (3 : Int32)) hc dX8_isOfWorld_16 (by decide) ?_
      refine z_goto (tgt := 31) hc dX8_isOfWorld_17 (by decide) ?_
      refine z_sub [1] rfl ?_
      exact tX8_isOfWorld_31 hc hr N _ _ _
    · refine z_iload_n hc dX8_isOfWorld_20 0 rfl ?_
      refine z_iconst (v := (4 : Int32)) hc dX8_isOfWorld_21 (by decide) ?_
      refine z_icmp_ne (tgt := 29) hc dX8_isOfWorld_22 (by decide) ?_ ?_
      · refine z_iconst (v := (5 : Int32)) hc dX8_isOfWorld_25 (by decide) ?_
        refine z_goto (tgt := 31) hc dX8_isOfWorld_26 (by decide) ?_
        refine z_sub [1] rfl ?_
        exact tX8_isOfWorld_31 hc hr N _ _ _
      · refine z_bipush (v := (6 : Int32)) hc dX8_isOfWorld_29 (by decide) ?_
        refine z_sub [1] rfl ?_
        exact tX8_isOfWorld_31 hc hr N _ _ _
  · refine z_iconst (v := (1 : Int32)) hc dX8_isOfWorld_5 (by decide) ?_
    refine z_iload_n hc dX8_isOfWorld_6 0 rfl ?_
    refine z_ishl hc dX8_isOfWorld_7 ?_
    refine z_goto (tgt := 31) hc dX8_isOfWorld_8 (by decide) ?_
    refine z_sub [1] rfl ?_
    exact tX8_isOfWorld_31 hc hr N _ _ _
set_option maxRecDepth 100000 in
set_option maxHeartbeats 4000000 in
theorem tX8_put {l : Launch} {D : va_G} {ca : Nat → ClassId} {xa ad : Nat → Nat} {A : Nat → Prop} {N : Nat} {x1 : Int32} {x2 : Int32} {y3 : Int64} {σ : zSt} {a : Unit} {τ : zSt} (h : fX8_put N x1 x2 y3 σ = some (a, τ)) : zCt l yX8_put cX8_put 5 none rmX8_put D ca xa A (zwM ad ca) [.ref (ad 0), .int x1, .int x2, .long y3] σ (zV a) τ := by
  refine z_met (inj := zV) (lv := [(0, .ref (ad 0)), (1, .int x1), (2, .int x2), (3, .long y3)]) (by decide) (Nat.le_of_ble_eq_true rfl) rfl ?_ h
  intro p e s m args below meth c hc hr
  unfold fX8_put
  refine z_aload_n hc dX8_put_0 0 rfl ?_
  refine gfX8_65 hc dX8_put_1 ?_
  refine z_bipush (v := (8 : Int32)) hc dX8_put_4 (by decide) ?_
  refine z_iload_n hc dX8_put_6 1 rfl ?_
  refine z_imul hc dX8_put_7 ?_
  refine z_iload_n hc dX8_put_8 2 rfl ?_
  refine z_iadd hc dX8_put_9 ?_
  refine z_lload_n hc dX8_put_10 3 rfl ?_
  refine z_lastore hc 19 (by decide) (fun _ _ => rfl) dX8_put_11 (fun σ1 => ?_)
  exact z_vret hc hr dX8_put_12
set_option maxRecDepth 100000 in
set_option maxHeartbeats 4000000 in
theorem tX8_addRow_42 {p : Program} {l : Launch} {e : Env} {s : State} {m : MethodId} {args : Array Value} {below : List Frame} {meth : Method} {c : Code} {D : va_G} {ca : Nat → ClassId} {xa ad : Nat → Nat} {A : Nat → Prop} (hc : zCx p s m args meth c cX8_addRow 5 RX8 D ca xa A (zwM ad ca)) (hr : meth.sig.returnType = none) (N : Nat) (k3 : Int32 → Int32 → Int32 → Int32 → zSt → Option (Unit × zSt)) (hk3 : ∀ (x1 : Int32) (x2 : Int32) (x3 : Int32) (x4 : Int32) (σ : zSt), zGO p l e rmX8_addRow s m args below meth c 0 0 (zwM ad ca) D A 5 (zQ below D A (zwM ad ca) args s zV) (k3 x1 x2 x3 x4 σ) σ 3 [(0, .ref (ad 0)), (1, .int x1), (2, .int x2), (3, .int x3), (4, .int x4)] []) (x1 : Int32) (x2 : Int32) (x3 : Int32) (x4 : Int32) (t0 : Int64) (s1 : Int32) (s2 : Int32) (σ : zSt) : zGO p l e rmX8_addRow s m args below meth c 0 0 (zwM ad ca) D A 5 (zQ below D A (zwM ad ca) args s zV) (fX8_addRow_42 N k3 x1 x2 x3 x4 t0 s1 s2 σ) σ 42 [(0, .ref (ad 0)), (1, .int x1), (2, .int x2), (3, .int x3), (4, .int x4)] [.long t0, .int s1, .int s2, .ref (ad 0)] := by
  unfold fX8_addRow_42
  refine z_runVv (b0 := ad 0) (As := [.int s2, .int s1, .long t0]) (rest := []) hc dX8_addRow_42 (fun _ _ h => tX8_put h) mpX8_put miX8_put kmX8_287 ⟨rfl, rfl, Nat.le_of_ble_eq_true rfl, Nat.le_of_ble_eq_true rfl⟩ ⟨Nat.le_refl _, Nat.le_refl _⟩ zcM_rc0 rfl (Nat.le_of_ble_eq_true rfl) (fun b1 σ2 => ?_)
  refine z_iinc (v := (x4 + (1 : Int32))) (lv' := [(4, .int (x4 + (1 : Int32))), (0, .ref (ad 0)), (1, .int x1), (2, .int x2), (3, .int x3)]) hc dX8_addRow_45 4 rfl rfl (by decide) rfl ?_
  refine z_goto (tgt := 3) hc dX8_addRow_48 (by decide) ?_
  refine z_sub [1, 2, 3, 4, 0] rfl ?_
  exact hk3 _ _ _ _ _
set_option maxRecDepth 100000 in
set_option maxHeartbeats 4000000 in
theorem tX8_addRow_36 {p : Program} {l : Launch} {e : Env} {s : State} {m : MethodId} {args : Array Value} {below : List Frame} {meth : Method} {c : Code} {D : va_G} {ca : Nat → ClassId} {xa ad : Nat → Nat} {A : Nat → Prop} (hc : zCx p s m args meth c cX8_addRow 5 RX8 D ca xa A (zwM ad ca)) (hr : meth.sig.returnType = none) (N : Nat) (k3 : Int32 → Int32 → Int32 → Int32 → zSt → Option (Unit × zSt)) (hk3 : ∀ (x1 : Int32) (x2 : Int32) (x3 : Int32) (x4 : Int32) (σ : zSt), zGO p l e rmX8_addRow s m args below meth c 0 0 (zwM ad ca) D A 5 (zQ below D A (zwM ad ca) args s zV) (k3 x1 x2 x3 x4 σ) σ 3 [(0, .ref (ad 0)), (1, .int x1), (2, .int x2), (3, .int x3), (4, .int x4)] []) (x1 : Int32) (x2 : Int32) (x3 : Int32) (x4 : Int32) (s0 : Int32) (s1 : Int32) (σ : zSt) : zGO p l e rmX8_addRow s m args below meth c 0 0 (zwM ad ca) D A 5 (zQ below D A (zwM ad ca) args s zV) (fX8_addRow_36 N k3 x1 x2 x3 x4 s0 s1 σ) σ 36 [(0, .ref (ad 0)), (1, .int x1), (2, .int x2), (3, .int x3), (4, .int x4)] [.int s0, .int s1, .ref (ad 0)] := by
  unfold fX8_addRow_36
  refine z_iload_n hc dX8_addRow_36 2 rfl ?_
  refine z_i2l hc dX8_addRow_37 ?_
  refine z_goto (tgt := 42) hc dX8_addRow_38 (by decide) ?_
  exact tX8_addRow_42 hc hr N _ hk3 _ _ _ _ _ _ _ _
set_option maxRecDepth 100000 in
set_option maxHeartbeats 4000000 in
theorem tX8_addRow_3 {p : Program} {l : Launch} {e : Env} {s : State} {m : MethodId} {args : Array Value} {below : List Frame} {meth : Method} {c : Code} {D : va_G} {ca : Nat → ClassId} {xa ad : Nat → Nat} {A : Nat → Prop} (hc : zCx p s m args meth c cX8_addRow 5 RX8 D ca xa A (zwM ad ca)) (hr : meth.sig.returnType = none) (N : Nat)   : ∀ (n : Nat) (x1 : Int32) (x2 : Int32) (x3 : Int32) (x4 : Int32) (σ : zSt), zGO p l e rmX8_addRow s m args below meth c 0 0 (zwM ad ca) D A 5 (zQ below D A (zwM ad ca) args s zV) (fX8_addRow_3 N n x1 x2 x3 x4 σ) σ 3 [(0, .ref (ad 0)), (1, .int x1), (2, .int x2), (3, .int x3), (4, .int x4)] [] := by
  intro n
  induction n with
  | zero =>
    intro x1 x2 x3 x4 σ
    exact z_none
  | succ n ih =>
    intro x1 x2 x3 x4 σ
    unfold fX8_addRow_3
    refine z_iload hc dX8_addRow_3 4 rfl ?_
    refine z_aload_n hc dX8_addRow_5 0 rfl ?_
    refine gfX8_280 hc dX8_addRow_6 ?_
    refine z_icmp_ge (tgt := 51) hc dX8_addRow_9 (by decide) ?_ ?_
    · refine z_aload_n hc dX8_addRow_51 0 rfl ?_
      refine z_aload_n hc dX8_addRow_52 0 rfl ?_
      refine gfX8_277 hc dX8_addRow_53 ?_
      refine z_aload_n hc dX8_addRow_56 0 rfl ?_
      refine gfX8_280 hc dX8_addRow_57 ?_
      refine z_iload_n hc dX8_addRow_60 2 rfl ?_
      refine z_i2l hc dX8_addRow_61 ?_
      refine z_iload_n hc dX8_addRow_62 3 rfl ?_
      refine z_i2l hc dX8_addRow_63 ?_
      refine z_lmul hc dX8_addRow_64 ?_
      refine z_runVv (b0 := ad 0) (As := [.int (σ.1 0 36), .int (σ.1 0 37), .long (x2.toInt64 * x3.toInt64)]) (rest := []) hc dX8_addRow_65 (fun _ _ h => tX8_put h) mpX8_put miX8_put kmX8_287 ⟨rfl, rfl, Nat.le_of_ble_eq_true rfl, Nat.le_of_ble_eq_true rfl⟩ ⟨Nat.le_refl _, Nat.le_refl _⟩ zcM_rc0 rfl (Nat.le_of_ble_eq_true rfl) (fun b1 σ2 => ?_)
      refine z_aload_n hc dX8_addRow_68 0 rfl ?_
      refine z_dup hc dX8_addRow_69 rfl ?_
      refine gfX8_277 hc dX8_addRow_70 ?_
      refine z_iconst (v := (1 : Int32)) hc dX8_addRow_73 (by decide) ?_
      refine z_iadd hc dX8_addRow_74 ?_
      refine pfX8_277 hc dX8_addRow_75 (fun σ3 => ?_)
      exact z_vret hc hr dX8_addRow_78
    · refine z_aload_n hc dX8_addRow_12 0 rfl ?_
      refine z_aload_n hc dX8_addRow_13 0 rfl ?_
      refine gfX8_277 hc dX8_addRow_14 ?_
      refine z_iload hc dX8_addRow_17 4 rfl ?_
      refine z_iload_n hc dX8_addRow_19 1 rfl ?_
      refine z_ldc hc dX8_addRow_20 kcX8_114 ?_
      refine z_icmp_eq (tgt := 36) hc dX8_addRow_22 (by decide) ?_ ?_
      · exact tX8_addRow_36 hc hr N _ (ih) _ _ _ _ _ _ _
      · refine z_iload_n hc dX8_addRow_25 1 rfl ?_
        refine z_iload hc dX8_addRow_26 4 rfl ?_
        refine z_iconst (v := (1 : Int32)) hc dX8_addRow_28 (by decide) ?_
        refine z_iadd hc dX8_addRow_29 ?_
        refine z_runSi (As := [.int x1, .int (x4 + (1 : Int32))]) (rest := [.int x4, .int (σ.1 0 36), .ref (ad 0)]) hc dX8_addRow_30 (fun _ _ h => tX8_isOfWorld h) mpX8_isOfWorld miX8_isOfWorld kmX8_301 ⟨rfl, rfl, Nat.le_of_ble_eq_true rfl, Nat.le_of_ble_eq_true rfl⟩ ⟨Nat.le_refl _, Nat.le_refl _⟩ rfl (Nat.le_of_ble_eq_true rfl) (fun b4 σ5 => ?_)
        refine z_if_eq (tgt := 41) hc dX8_addRow_33 (by decide) ?_ ?_
        · refine z_lconst (v := (0 : Int64)) hc dX8_addRow_41 (by decide) ?_
          exact tX8_addRow_42 hc hr N _ (ih) _ _ _ _ _ _ _ _
        · exact tX8_addRow_36 hc hr N _ (ih) _ _ _ _ _ _ _
set_option maxRecDepth 100000 in
set_option maxHeartbeats 4000000 in
theorem tX8_addRow {l : Launch} {D : va_G} {ca : Nat → ClassId} {xa ad : Nat → Nat} {A : Nat → Prop} {N : Nat} {x1 : Int32} {x2 : Int32} {x3 : Int32} {σ : zSt} {a : Unit} {τ : zSt} (h : fX8_addRow N x1 x2 x3 σ = some (a, τ)) : zCt l yX8_addRow cX8_addRow 5 none rmX8_addRow D ca xa A (zwM ad ca) [.ref (ad 0), .int x1, .int x2, .int x3] σ (zV a) τ := by
  refine z_met (inj := zV) (lv := [(0, .ref (ad 0)), (1, .int x1), (2, .int x2), (3, .int x3)]) (by decide) (Nat.le_of_ble_eq_true rfl) rfl ?_ h
  intro p e s m args below meth c hc hr
  unfold fX8_addRow
  refine z_iconst (v := (0 : Int32)) hc dX8_addRow_0 (by decide) ?_
  refine z_istore (lv' := [(4, .int (0 : Int32)), (0, .ref (ad 0)), (1, .int x1), (2, .int x2), (3, .int x3)]) hc dX8_addRow_1 (by decide) rfl ?_
  refine z_sub [1, 2, 3, 4, 0] rfl ?_
  exact tX8_addRow_3 hc hr N N _ _ _ _ _
set_option maxRecDepth 100000 in
set_option maxHeartbeats 4000000 in
theorem tX8_at {l : Launch} {D : va_G} {ca : Nat → ClassId} {xa ad : Nat → Nat} {A : Nat → Prop} {N : Nat} {x1 : Int32} {x2 : Int32} {σ : zSt} {a : Int64} {τ : zSt} (h : fX8_at N x1 x2 σ = some (a, τ)) : zCt l yX8_at cX8_at 3 (some .long) rmX8_at D ca xa A (zwM ad ca) [.ref (ad 0), .int x1, .int x2] σ (zL a) τ := by
  refine z_met (inj := zL) (lv := [(0, .ref (ad 0)), (1, .int x1), (2, .int x2)]) (by decide) (Nat.le_of_ble_eq_true rfl) rfl ?_ h
  intro p e s m args below meth c hc hr
  unfold fX8_at
  refine z_aload_n hc dX8_at_0 0 rfl ?_
  refine gfX8_65 hc dX8_at_1 ?_
  refine z_bipush (v := (8 : Int32)) hc dX8_at_4 (by decide) ?_
  refine z_iload_n hc dX8_at_6 1 rfl ?_
  refine z_imul hc dX8_at_7 ?_
  refine z_iload_n hc dX8_at_8 2 rfl ?_
  refine z_iadd hc dX8_at_9 ?_
  refine z_laload hc 19 (by decide) rfl dX8_at_10 (fun v1 => ?_)
  exact z_lret hc hr dX8_at_11
set_option maxRecDepth 100000 in
set_option maxHeartbeats 4000000 in
theorem tX8_leastRow_48 {p : Program} {l : Launch} {e : Env} {s : State} {m : MethodId} {args : Array Value} {below : List Frame} {meth : Method} {c : Code} {D : va_G} {ca : Nat → ClassId} {xa ad : Nat → Nat} {A : Nat → Prop} (hc : zCx p s m args meth c cX8_leastRow 3 RX8 D ca xa A (zwM ad ca)) (hr : meth.sig.returnType = (some .int)) (N : Nat) (k5 : Int32 → Int32 → zSt → Option (Int32 × zSt)) (hk5 : ∀ (x1 : Int32) (x2 : Int32) (σ : zSt), zGO p l e rmX8_leastRow s m args below meth c 0 0 (zwM ad ca) D A 3 (zQ below D A (zwM ad ca) args s zI) (k5 x1 x2 σ) σ 5 [(0, .ref (ad 0)), (1, .int x1), (2, .int x2)] []) (x2 : Int32) (σ : zSt) : zGO p l e rmX8_leastRow s m args below meth c 0 0 (zwM ad ca) D A 3 (zQ below D A (zwM ad ca) args s zI) (fX8_leastRow_48 N k5 x2 σ) σ 48 [(0, .ref (ad 0)), (2, .int x2)] [] := by
  unfold fX8_leastRow_48
  refine z_iload_n hc dX8_leastRow_48 1 rfl ?_
  refine z_goto (tgt := 53) hc dX8_leastRow_49 (by decide) ?_
  refine z_istore_n (lv' := [(1, .int x2), (0, .ref (ad 0)), (2, .int x2)]) hc dX8_leastRow_53 rfl (by decide) rfl ?_
  refine z_iinc (v := (x2 + (1 : Int32))) (lv' := [(2, .int (x2 + (1 : Int32))), (1, .int x2), (0, .ref (ad 0))]) hc dX8_leastRow_54 2 rfl rfl (by decide) rfl ?_
  refine z_goto (tgt := 5) hc dX8_leastRow_57 (by decide) ?_
  refine z_sub [2, 1, 0] rfl ?_
  exact hk5 _ _ _
set_option maxRecDepth 100000 in
set_option maxHeartbeats 4000000 in
theorem tX8_leastRow_52 {p : Program} {l : Launch} {e : Env} {s : State} {m : MethodId} {args : Array Value} {below : List Frame} {meth : Method} {c : Code} {D : va_G} {ca : Nat → ClassId} {xa ad : Nat → Nat} {A : Nat → Prop} (hc : zCx p s m args meth c cX8_leastRow 3 RX8 D ca xa A (zwM ad ca)) (hr : meth.sig.returnType = (some .int)) (N : Nat) (k5 : Int32 → Int32 → zSt → Option (Int32 × zSt)) (hk5 : ∀ (x1 : Int32) (x2 : Int32) (σ : zSt), zGO p l e rmX8_leastRow s m args below meth c 0 0 (zwM ad ca) D A 3 (zQ below D A (zwM ad ca) args s zI) (k5 x1 x2 σ) σ 5 [(0, .ref (ad 0)), (1, .int x1), (2, .int x2)] []) (x1 : Int32) (x2 : Int32) (σ : zSt) : zGO p l e rmX8_leastRow s m args below meth c 0 0 (zwM ad ca) D A 3 (zQ below D A (zwM ad ca) args s zI) (fX8_leastRow_52 N k5 x1 x2 σ) σ 52 [(0, .ref (ad 0)), (1, .int x1), (2, .int x2)] [] := by
  unfold fX8_leastRow_52
  refine z_iload_n hc dX8_leastRow_52 1 rfl ?_
  refine z_istore_n (lv' := [(1, .int x1), (0, .ref (ad 0)), (2, .int x2)]) hc dX8_leastRow_53 rfl (by decide) rfl ?_
  refine z_iinc (v := (x2 + (1 : Int32))) (lv' := [(2, .int (x2 + (1 : Int32))), (1, .int x1), (0, .ref (ad 0))]) hc dX8_leastRow_54 2 rfl rfl (by decide) rfl ?_
  refine z_goto (tgt := 5) hc dX8_leastRow_57 (by decide) ?_
  refine z_sub [2, 1, 0] rfl ?_
  exact hk5 _ _ _
set_option maxRecDepth 100000 in
set_option maxHeartbeats 4000000 in
theorem tX8_leastRow_5 {p : Program} {l : Launch} {e : Env} {s : State} {m : MethodId} {args : Array Value} {below : List Frame} {meth : Method} {c : Code} {D : va_G} {ca : Nat → ClassId} {xa ad : Nat → Nat} {A : Nat → Prop} (hc : zCx p s m args meth c cX8_leastRow 3 RX8 D ca xa A (zwM ad ca)) (hr : meth.sig.returnType = (some .int)) (N : Nat)   : ∀ (n : Nat) (x1 : Int32) (x2 : Int32) (σ : zSt), zGO p l e rmX8_leastRow s m args below meth c 0 0 (zwM ad ca) D A 3 (zQ below D A (zwM ad ca) args s zI) (fX8_leastRow_5 N n x1 x2 σ) σ 5 [(0, .ref (ad 0)), (1, .int x1), (2, .int x2)] [] := by
  intro n
  induction n with
  | zero =>
    intro x1 x2 σ
    exact z_none
  | succ n ih =>
    intro x1 x2 σ
    unfold fX8_leastRow_5
    refine z_iload_n hc dX8_leastRow_5 2 rfl ?_
    refine z_aload_n hc dX8_leastRow_6 0 rfl ?_
    refine gfX8_277 hc dX8_leastRow_7 ?_
    refine z_icmp_ge (tgt := 60) hc dX8_leastRow_10 (by decide) ?_ ?_
    · refine z_iload_n hc dX8_leastRow_60 1 rfl ?_
      exact z_iret hc hr dX8_leastRow_61
    · refine z_aload_n hc dX8_leastRow_13 0 rfl ?_
      refine z_iload_n hc dX8_leastRow_14 2 rfl ?_
      refine z_aload_n hc dX8_leastRow_15 0 rfl ?_
      refine gfX8_280 hc dX8_leastRow_16 ?_
      refine z_runVl (b0 := ad 0) (As := [.int x2, .int (σ.1 0 37)]) (rest := []) hc dX8_leastRow_19 (fun _ _ h => tX8_at h) mpX8_at miX8_at kmX8_273 ⟨rfl, rfl, Nat.le_of_ble_eq_true rfl, Nat.le_of_ble_eq_true rfl⟩ ⟨Nat.le_refl _, Nat.le_refl _⟩ zcM_rc0 rfl (Nat.le_of_ble_eq_true rfl) (fun b1 σ2 => ?_)
      refine z_lconst (v := (0 : Int64)) hc dX8_leastRow_22 (by decide) ?_
      refine z_lcmp_ge (tgt := 52) hc dX8_leastRow_23 dX8_leastRow_24 (by decide) ?_ ?_
      · exact tX8_leastRow_52 hc hr N _ (ih) _ _ _
      · refine z_iload_n hc dX8_leastRow_27 1 rfl ?_
        refine z_ldc hc dX8_leastRow_28 kcX8_114 ?_
        refine z_icmp_eq (tgt := 48) hc dX8_leastRow_30 (by decide) ?_ ?_
        · refine z_sub [0, 2] rfl ?_
          exact tX8_leastRow_48 hc hr N _ (ih) _ _
        · refine z_aload_n hc dX8_leastRow_33 0 rfl ?_
          refine gfX8_69 hc dX8_leastRow_34 ?_
          refine z_iload_n hc dX8_leastRow_37 2 rfl ?_
          refine z_iaload hc 20 (by decide) rfl dX8_leastRow_38 (fun v3 => ?_)
          refine z_aload_n hc dX8_leastRow_39 0 rfl ?_
          refine gfX8_69 hc dX8_leastRow_40 ?_
          refine z_iload_n hc dX8_leastRow_43 1 rfl ?_
          refine z_iaload hc 20 (by decide) rfl dX8_leastRow_44 (fun v4 => ?_)
          refine z_icmp_ge (tgt := 52) hc dX8_leastRow_45 (by decide) ?_ ?_
          · exact tX8_leastRow_52 hc hr N _ (ih) _ _ _
          · refine z_sub [0, 2] rfl ?_
            exact tX8_leastRow_48 hc hr N _ (ih) _ _
set_option maxRecDepth 100000 in
set_option maxHeartbeats 4000000 in
theorem tX8_leastRow {l : Launch} {D : va_G} {ca : Nat → ClassId} {xa ad : Nat → Nat} {A : Nat → Prop} {N : Nat}  {σ : zSt} {a : Int32} {τ : zSt} (h : fX8_leastRow N σ = some (a, τ)) : zCt l yX8_leastRow cX8_leastRow 3 (some .int) rmX8_leastRow D ca xa A (zwM ad ca) [.ref (ad 0)] σ (zI a) τ := by
  refine z_met (inj := zI) (lv := [(0, .ref (ad 0))]) (by decide) (Nat.le_of_ble_eq_true rfl) rfl ?_ h
  intro p e s m args below meth c hc hr
  unfold fX8_leastRow
  refine z_ldc hc dX8_leastRow_0 kcX8_114 ?_
  refine z_istore_n (lv' := [(1, .int (-1000000 : Int32)), (0, .ref (ad 0))]) hc dX8_leastRow_2 rfl (by decide) rfl ?_
  refine z_iconst (v := (0 : Int32)) hc dX8_leastRow_3 (by decide) ?_
  refine z_istore_n (lv' := [(2, .int (0 : Int32)), (1, .int (-1000000 : Int32)), (0, .ref (ad 0))]) hc dX8_leastRow_4 rfl (by decide) rfl ?_
  refine z_sub [2, 1, 0] rfl ?_
  exact tX8_leastRow_5 hc hr N N _ _ _
set_option maxRecDepth 100000 in
set_option maxHeartbeats 4000000 in
theorem tX8_leastColumn_48 {p : Program} {l : Launch} {e : Env} {s : State} {m : MethodId} {args : Array Value} {below : List Frame} {meth : Method} {c : Code} {D : va_G} {ca : Nat → ClassId} {xa ad : Nat → Nat} {A : Nat → Prop} (hc : zCx p s m args meth c cX8_leastColumn 3 RX8 D ca xa A (zwM ad ca)) (hr : meth.sig.returnType = (some .int)) (N : Nat) (k5 : Int32 → Int32 → zSt → Option (Int32 × zSt)) (hk5 : ∀ (x1 : Int32) (x2 : Int32) (σ : zSt), zGO p l e rmX8_leastColumn s m args below meth c 0 0 (zwM ad ca) D A 3 (zQ below D A (zwM ad ca) args s zI) (k5 x1 x2 σ) σ 5 [(0, .ref (ad 0)), (1, .int x1), (2, .int x2)] []) (x2 : Int32) (σ : zSt) : zGO p l e rmX8_leastColumn s m args below meth c 0 0 (zwM ad ca) D A 3 (zQ below D A (zwM ad ca) args s zI) (fX8_leastColumn_48 N k5 x2 σ) σ 48 [(0, .ref (ad 0)), (2, .int x2)] [] := by
  unfold fX8_leastColumn_48
  refine z_iload_n hc dX8_leastColumn_48 1 rfl ?_
  refine z_goto (tgt := 53) hc dX8_leastColumn_49 (by decide) ?_
  refine z_istore_n (lv' := [(1, .int x2), (0, .ref (ad 0)), (2, .int x2)]) hc dX8_leastColumn_53 rfl (by decide) rfl ?_
  refine z_iinc (v := (x2 + (1 : Int32))) (lv' := [(2, .int (x2 + (1 : Int32))), (1, .int x2), (0, .ref (ad 0))]) hc dX8_leastColumn_54 2 rfl rfl (by decide) rfl ?_
  refine z_goto (tgt := 5) hc dX8_leastColumn_57 (by decide) ?_
  refine z_sub [2, 1, 0] rfl ?_
  exact hk5 _ _ _
set_option maxRecDepth 100000 in
set_option maxHeartbeats 4000000 in
theorem tX8_leastColumn_52 {p : Program} {l : Launch} {e : Env} {s : State} {m : MethodId} {args : Array Value} {below : List Frame} {meth : Method} {c : Code} {D : va_G} {ca : Nat → ClassId} {xa ad : Nat → Nat} {A : Nat → Prop} (hc : zCx p s m args meth c cX8_leastColumn 3 RX8 D ca xa A (zwM ad ca)) (hr : meth.sig.returnType = (some .int)) (N : Nat) (k5 : Int32 → Int32 → zSt → Option (Int32 × zSt)) (hk5 : ∀ (x1 : Int32) (x2 : Int32) (σ : zSt), zGO p l e rmX8_leastColumn s m args below meth c 0 0 (zwM ad ca) D A 3 (zQ below D A (zwM ad ca) args s zI) (k5 x1 x2 σ) σ 5 [(0, .ref (ad 0)), (1, .int x1), (2, .int x2)] []) (x1 : Int32) (x2 : Int32) (σ : zSt) : zGO p l e rmX8_leastColumn s m args below meth c 0 0 (zwM ad ca) D A 3 (zQ below D A (zwM ad ca) args s zI) (fX8_leastColumn_52 N k5 x1 x2 σ) σ 52 [(0, .ref (ad 0)), (1, .int x1), (2, .int x2)] [] := by
  unfold fX8_leastColumn_52
  refine z_iload_n hc dX8_leastColumn_52 1 rfl ?_
  refine z_istore_n (lv' := [(1, .int x1), (0, .ref (ad 0)), (2, .int x2)]) hc dX8_leastColumn_53 rfl (by decide) rfl ?_
  refine z_iinc (v := (x2 + (1 : Int32))) (lv' := [(2, .int (x2 + (1 : Int32))), (1, .int x1), (0, .ref (ad 0))]) hc dX8_leastColumn_54 2 rfl rfl (by decide) rfl ?_
  refine z_goto (tgt := 5) hc dX8_leastColumn_57 (by decide) ?_
  refine z_sub [2, 1, 0] rfl ?_
  exact hk5 _ _ _
set_option maxRecDepth 100000 in
set_option maxHeartbeats 4000000 in
theorem tX8_leastColumn_5 {p : Program} {l : Launch} {e : Env} {s : State} {m : MethodId} {args : Array Value} {below : List Frame} {meth : Method} {c : Code} {D : va_G} {ca : Nat → ClassId} {xa ad : Nat → Nat} {A : Nat → Prop} (hc : zCx p s m args meth c cX8_leastColumn 3 RX8 D ca xa A (zwM ad ca)) (hr : meth.sig.returnType = (some .int)) (N : Nat)   : ∀ (n : Nat) (x1 : Int32) (x2 : Int32) (σ : zSt), zGO p l e rmX8_leastColumn s m args below meth c 0 0 (zwM ad ca) D A 3 (zQ below D A (zwM ad ca) args s zI) (fX8_leastColumn_5 N n x1 x2 σ) σ 5 [(0, .ref (ad 0)), (1, .int x1), (2, .int x2)] [] := by
  intro n
  induction n with
  | zero =>
    intro x1 x2 σ
    exact z_none
  | succ n ih =>
    intro x1 x2 σ
    unfold fX8_leastColumn_5
    refine z_iload_n hc dX8_leastColumn_5 2 rfl ?_
    refine z_aload_n hc dX8_leastColumn_6 0 rfl ?_
    refine gfX8_280 hc dX8_leastColumn_7 ?_
    refine z_icmp_ge (tgt := 60) hc dX8_leastColumn_10 (by decide) ?_ ?_
    · refine z_iload_n hc dX8_leastColumn_60 1 rfl ?_
      exact z_iret hc hr dX8_leastColumn_61
    · refine z_aload_n hc dX8_leastColumn_13 0 rfl ?_
      refine z_aload_n hc dX8_leastColumn_14 0 rfl ?_
      refine gfX8_277 hc dX8_leastColumn_15 ?_
      refine z_iload_n hc dX8_leastColumn_18 2 rfl ?_
      refine z_runVl (b0 := ad 0) (As := [.int (σ.1 0 36), .int x2]) (rest := []) hc dX8_leastColumn_19 (fun _ _ h => tX8_at h) mpX8_at miX8_at kmX8_273 ⟨rfl, rfl, Nat.le_of_ble_eq_true rfl, Nat.le_of_ble_eq_true rfl⟩ ⟨Nat.le_refl _, Nat.le_refl _⟩ zcM_rc0 rfl (Nat.le_of_ble_eq_true rfl) (fun b1 σ2 => ?_)
      refine z_lconst (v := (0 : Int64)) hc dX8_leastColumn_22 (by decide) ?_
      refine z_lcmp_ge (tgt := 52) hc dX8_leastColumn_23 dX8_leastColumn_24 (by decide) ?_ ?_
      · exact tX8_leastColumn_52 hc hr N _ (ih) _ _ _
      · refine z_iload_n hc dX8_leastColumn_27 1 rfl ?_
        refine z_ldc hc dX8_leastColumn_28 kcX8_114 ?_
        refine z_icmp_eq (tgt := 48) hc dX8_leastColumn_30 (by decide) ?_ ?_
        · refine z_sub [0, 2] rfl ?_
          exact tX8_leastColumn_48 hc hr N _ (ih) _ _
        · refine z_aload_n hc dX8_leastColumn_33 0 rfl ?_
          refine gfX8_72 hc dX8_leastColumn_34 ?_
          refine z_iload_n hc dX8_leastColumn_37 2 rfl ?_
          refine z_iaload hc 21 (by decide) rfl dX8_leastColumn_38 (fun v3 => ?_)
          refine z_aload_n hc dX8_leastColumn_39 0 rfl ?_
          refine gfX8_72 hc dX8_leastColumn_40 ?_
          refine z_iload_n hc dX8_leastColumn_43 1 rfl ?_
          refine z_iaload hc 21 (by decide) rfl dX8_leastColumn_44 (fun v4 => ?_)
          refine z_icmp_ge (tgt := 52) hc dX8_leastColumn_45 (by decide) ?_ ?_
          · exact tX8_leastColumn_52 hc hr N _ (ih) _ _ _
          · refine z_sub [0, 2] rfl ?_
            exact tX8_leastColumn_48 hc hr N _ (ih) _ _
set_option maxRecDepth 100000 in
set_option maxHeartbeats 4000000 in
theorem tX8_leastColumn {l : Launch} {D : va_G} {ca : Nat → ClassId} {xa ad : Nat → Nat} {A : Nat → Prop} {N : Nat}  {σ : zSt} {a : Int32} {τ : zSt} (h : fX8_leastColumn N σ = some (a, τ)) : zCt l yX8_leastColumn cX8_leastColumn 3 (some .int) rmX8_leastColumn D ca xa A (zwM ad ca) [.ref (ad 0)] σ (zI a) τ := by
  refine z_met (inj := zI) (lv := [(0, .ref (ad 0))]) (by decide) (Nat.le_of_ble_eq_true rfl) rfl ?_ h
  intro p e s m args below meth c hc hr
  unfold fX8_leastColumn
  refine z_ldc hc dX8_leastColumn_0 kcX8_114 ?_
  refine z_istore_n (lv' := [(1, .int (-1000000 : Int32)), (0, .ref (ad 0))]) hc dX8_leastColumn_2 rfl (by decide) rfl ?_
  refine z_iconst (v := (0 : Int32)) hc dX8_leastColumn_3 (by decide) ?_
  refine z_istore_n (lv' := [(2, .int (0 : Int32)), (1, .int (-1000000 : Int32)), (0, .ref (ad 0))]) hc dX8_leastColumn_4 rfl (by decide) rfl ?_
  refine z_sub [2, 1, 0] rfl ?_
  exact tX8_leastColumn_5 hc hr N N _ _ _
set_option maxRecDepth 100000 in
set_option maxHeartbeats 4000000 in
theorem tX8_turn_22 {p : Program} {l : Launch} {e : Env} {s : State} {m : MethodId} {args : Array Value} {below : List Frame} {meth : Method} {c : Code} {D : va_G} {ca : Nat → ClassId} {xa ad : Nat → Nat} {A : Nat → Prop} (hc : zCx p s m args meth c cX8_turn 7 RX8 D ca xa A (zwM ad ca)) (hr : meth.sig.returnType = none) (N : Nat) (k10 : Int32 → Int32 → Int64 → Int32 → zSt → Option (Unit × zSt)) (hk10 : ∀ (x1 : Int32) (x2 : Int32) (y3 : Int64) (x5 : Int32) (σ : zSt), zGO p l e rmX8_turn s m args below meth c 0 0 (zwM ad ca) D A 7 (zQ below D A (zwM ad ca) args s zV) (k10 x1 x2 y3 x5 σ) σ 10 [(0, .ref (ad 0)), (1, .int x1), (2, .int x2), (3, .long y3), (5, .int x5)] []) : ∀ (n : Nat) (x1 : Int32) (x2 : Int32) (y3 : Int64) (x5 : Int32) (x6 : Int32) (σ : zSt), zGO p l e rmX8_turn s m args below meth c 0 0 (zwM ad ca) D A 7 (zQ below D A (zwM ad ca) args s zV) (fX8_turn_22 N k10 n x1 x2 y3 x5 x6 σ) σ 22 [(0, .ref (ad 0)), (1, .int x1), (2, .int x2), (3, .long y3), (5, .int x5), (6, .int x6)] [] := by
  intro n
  induction n with
  | zero =>
    intro x1 x2 y3 x5 x6 σ
    exact z_none
  | succ n ih =>
    intro x1 x2 y3 x5 x6 σ
    unfold fX8_turn_22
    refine z_iload hc dX8_turn_22 5 rfl ?_
    refine z_aload_n hc dX8_turn_24 0 rfl ?_
    refine gfX8_280 hc dX8_turn_25 ?_
    refine z_icmp_gt (tgt := 88) hc dX8_turn_28 (by decide) ?_ ?_
    · refine z_iinc (v := (x5 + (1 : Int32))) (lv' := [(5, .int (x5 + (1 : Int32))), (0, .ref (ad 0)), (1, .int x1), (2, .int x2), (3, .long y3), (6, .int x6)]) hc dX8_turn_88 4 rfl rfl (by decide) rfl ?_
      refine z_goto (tgt := 10) hc dX8_turn_91 (by decide) ?_
      refine z_sub [1, 2, 3, 4, 0] rfl ?_
      exact hk10 _ _ _ _ _
    · refine z_iload hc dX8_turn_31 4 rfl ?_
      refine z_iload_n hc dX8_turn_33 1 rfl ?_
      refine z_icmp_eq (tgt := 82) hc dX8_turn_34 (by decide) ?_ ?_
      · refine z_iinc (v := (x6 + (1 : Int32))) (lv' := [(6, .int (x6 + (1 : Int32))), (0, .ref (ad 0)), (1, .int x1), (2, .int x2), (3, .long y3), (5, .int x5)]) hc dX8_turn_82 5 rfl rfl (by decide) rfl ?_
        refine z_goto (tgt := 22) hc dX8_turn_85 (by decide) ?_
        refine z_sub [1, 2, 3, 4, 5, 0] rfl ?_
        exact ih _ _ _ _ _ _
      · refine z_iload hc dX8_turn_37 5 rfl ?_
        refine z_iload_n hc dX8_turn_39 2 rfl ?_
        refine z_icmp_eq (tgt := 82) hc dX8_turn_40 (by decide) ?_ ?_
        · refine z_iinc (v := (x6 + (1 : Int32))) (lv' := [(6, .int (x6 + (1 : Int32))), (0, .ref (ad 0)), (1, .int x1), (2, .int x2), (3, .long y3), (5, .int x5)]) hc dX8_turn_82 5 rfl rfl (by decide) rfl ?_
          refine z_goto (tgt := 22) hc dX8_turn_85 (by decide) ?_
          refine z_sub [1, 2, 3, 4, 5, 0] rfl ?_
          exact ih _ _ _ _ _ _
        · refine z_aload_n hc dX8_turn_43 0 rfl ?_
          refine z_iload hc dX8_turn_44 4 rfl ?_
          refine z_iload hc dX8_turn_46 5 rfl ?_
          refine z_aload_n hc dX8_turn_48 0 rfl ?_
          refine z_iload hc dX8_turn_49 4 rfl ?_
          refine z_iload hc dX8_turn_51 5 rfl ?_
          refine z_runVl (b0 := ad 0) (As := [.int x5, .int x6]) (rest := [.int x6, .int x5, .ref (ad 0)]) hc dX8_turn_53 (fun _ _ h => tX8_at h) mpX8_at miX8_at kmX8_273 ⟨rfl, rfl, Nat.le_of_ble_eq_true rfl, Nat.le_of_ble_eq_true rfl⟩ ⟨Nat.le_refl _, Nat.le_refl _⟩ zcM_rc0 rfl (Nat.le_of_ble_eq_true rfl) (fun b1 σ2 => ?_)
          refine z_lload_n hc dX8_turn_56 3 rfl ?_
          refine z_lmul hc dX8_turn_57 ?_
          refine z_aload_n hc dX8_turn_58 0 rfl ?_
          refine z_iload hc dX8_turn_59 4 rfl ?_
          refine z_iload_n hc dX8_turn_61 2 rfl ?_
          refine z_runVl (b0 := ad 0) (As := [.int x5, .int x2]) (rest := [.long (b1 * y3), .int x6, .int x5, .ref (ad 0)]) hc dX8_turn_62 (fun _ _ h => tX8_at h) mpX8_at miX8_at kmX8_273 ⟨rfl, rfl, Nat.le_of_ble_eq_true rfl, Nat.le_of_ble_eq_true rfl⟩ ⟨Nat.le_refl _, Nat.le_refl _⟩ zcM_rc0 rfl (Nat.le_of_ble_eq_true rfl) (fun b3 σ4 => ?_)
          refine z_aload_n hc dX8_turn_65 0 rfl ?_
          refine z_iload_n hc dX8_turn_66 1 rfl ?_
          refine z_iload hc dX8_turn_67 5 rfl ?_
          refine z_runVl (b0 := ad 0) (As := [.int x1, .int x6]) (rest := [.long b3, .long (b1 * y3), .int x6, .int x5, .ref (ad 0)]) hc dX8_turn_69 (fun _ _ h => tX8_at h) mpX8_at miX8_at kmX8_273 ⟨rfl, rfl, Nat.le_of_ble_eq_true rfl, Nat.le_of_ble_eq_true rfl⟩ ⟨Nat.le_refl _, Nat.le_refl _⟩ zcM_rc0 rfl (Nat.le_of_ble_eq_true rfl) (fun b5 σ6 => ?_)
          refine z_lmul hc dX8_turn_72 ?_
          refine z_lsub hc dX8_turn_73 ?_
          refine z_aload_n hc dX8_turn_74 0 rfl ?_
          refine gfX8_283 hc dX8_turn_75 ?_
          refine z_ldiv hc dX8_turn_78 (fun v7 => ?_)
          refine z_runVv (b0 := ad 0) (As := [.int x5, .int x6, .long v7]) (rest := []) hc dX8_turn_79 (fun _ _ h => tX8_put h) mpX8_put miX8_put kmX8_287 ⟨rfl, rfl, Nat.le_of_ble_eq_true rfl, Nat.le_of_ble_eq_true rfl⟩ ⟨Nat.le_refl _, Nat.le_refl _⟩ zcM_rc0 rfl (Nat.le_of_ble_eq_true rfl) (fun b8 σ9 => ?_)
          refine z_iinc (v := (x6 + (1 : Int32))) (lv' := [(6, .int (x6 + (1 : Int32))), (0, .ref (ad 0)), (1, .int x1), (2, .int x2), (3, .long y3), (5, .int x5)]) hc dX8_turn_82 5 rfl rfl (by decide) rfl ?_
          refine z_goto (tgt := 22) hc dX8_turn_85 (by decide) ?_
          refine z_sub [1, 2, 3, 4, 5, 0] rfl ?_
          exact ih _ _ _ _ _ _
set_option maxRecDepth 100000 in
set_option maxHeartbeats 4000000 in
theorem tX8_turn_131 {p : Program} {l : Launch} {e : Env} {s : State} {m : MethodId} {args : Array Value} {below : List Frame} {meth : Method} {c : Code} {D : va_G} {ca : Nat → ClassId} {xa ad : Nat → Nat} {A : Nat → Prop} (hc : zCx p s m args meth c cX8_turn 7 RX8 D ca xa A (zwM ad ca)) (hr : meth.sig.returnType = none) (N : Nat) (k97 : Int32 → Int32 → Int64 → Int32 → zSt → Option (Unit × zSt)) (hk97 : ∀ (x1 : Int32) (x2 : Int32) (y3 : Int64) (x5 : Int32) (σ : zSt), zGO p l e rmX8_turn s m args below meth c 0 0 (zwM ad ca) D A 7 (zQ below D A (zwM ad ca) args s zV) (k97 x1 x2 y3 x5 σ) σ 97 [(0, .ref (ad 0)), (1, .int x1), (2, .int x2), (3, .long y3), (5, .int x5)] []) (x1 : Int32) (x2 : Int32) (y3 : Int64) (x5 : Int32) (t0 : Int64) (s1 : Int32) (s2 : Int32) (σ : zSt) : zGO p l e rmX8_turn s m args below meth c 0 0 (zwM ad ca) D A 7 (zQ below D A (zwM ad ca) args s zV) (fX8_turn_131 N k97 x1 x2 y3 x5 t0 s1 s2 σ) σ 131 [(0, .ref (ad 0)), (1, .int x1), (2, .int x2), (3, .long y3), (5, .int x5)] [.long t0, .int s1, .int s2, .ref (ad 0)] := by
  unfold fX8_turn_131
  refine z_runVv (b0 := ad 0) (As := [.int s2, .int s1, .long t0]) (rest := []) hc dX8_turn_131 (fun _ _ h => tX8_put h) mpX8_put miX8_put kmX8_287 ⟨rfl, rfl, Nat.le_of_ble_eq_true rfl, Nat.le_of_ble_eq_true rfl⟩ ⟨Nat.le_refl _, Nat.le_refl _⟩ zcM_rc0 rfl (Nat.le_of_ble_eq_true rfl) (fun b1 σ2 => ?_)
  refine z_iinc (v := (x5 + (1 : Int32))) (lv' := [(5, .int (x5 + (1 : Int32))), (0, .ref (ad 0)), (1, .int x1), (2, .int x2), (3, .long y3)]) hc dX8_turn_134 4 rfl rfl (by decide) rfl ?_
  refine z_goto (tgt := 97) hc dX8_turn_137 (by decide) ?_
  refine z_sub [1, 2, 3, 4, 0] rfl ?_
  exact hk97 _ _ _ _ _
set_option maxRecDepth 100000 in
set_option maxHeartbeats 4000000 in
theorem tX8_turn_196 {p : Program} {l : Launch} {e : Env} {s : State} {m : MethodId} {args : Array Value} {below : List Frame} {meth : Method} {c : Code} {D : va_G} {ca : Nat → ClassId} {xa ad : Nat → Nat} {A : Nat → Prop} (hc : zCx p s m args meth c cX8_turn 7 RX8 D ca xa A (zwM ad ca)) (hr : meth.sig.returnType = none) (N : Nat)   (x1 : Int32) (x2 : Int32) (σ : zSt) : zGO p l e rmX8_turn s m args below meth c 0 0 (zwM ad ca) D A 7 (zQ below D A (zwM ad ca) args s zV) (fX8_turn_196 N x1 x2 σ) σ 196 [(0, .ref (ad 0)), (1, .int x1), (2, .int x2)] [] := by
  unfold fX8_turn_196
  refine z_aload_n hc dX8_turn_196 0 rfl ?_
  refine gfX8_69 hc dX8_turn_197 ?_
  refine z_iload_n hc dX8_turn_200 1 rfl ?_
  refine z_iaload hc 20 (by decide) rfl dX8_turn_201 (fun v1 => ?_)
  refine z_istore (lv' := [(5, .int v1), (0, .ref (ad 0)), (1, .int x1), (2, .int x2)]) hc dX8_turn_202 (by decide) rfl ?_
  refine z_aload_n hc dX8_turn_204 1 rfl ?_
  refine gfX8_69 hc dX8_turn_205 ?_
  refine z_iload_n hc dX8_turn_208 2 rfl ?_
  refine z_aload_n hc dX8_turn_209 1 rfl ?_
  refine gfX8_72 hc dX8_turn_210 ?_
  refine z_iload_n hc dX8_turn_213 3 rfl ?_
  refine z_iaload hc 21 (by decide) rfl dX8_turn_214 (fun v2 => ?_)
  refine z_iastore hc 20 (by decide) (fun _ _ => rfl) dX8_turn_215 (fun σ3 => ?_)
  refine z_aload_n hc dX8_turn_216 1 rfl ?_
  refine gfX8_72 hc dX8_turn_217 ?_
  refine z_iload_n hc dX8_turn_220 3 rfl ?_
  refine z_iload hc dX8_turn_221 0 rfl ?_
  refine z_iastore hc 21 (by decide) (fun _ _ => rfl) dX8_turn_223 (fun σ4 => ?_)
  exact z_vret hc hr dX8_turn_224
set_option maxRecDepth 100000 in
set_option maxHeartbeats 4000000 in
theorem tX8_turn_160 {p : Program} {l : Launch} {e : Env} {s : State} {m : MethodId} {args : Array Value} {below : List Frame} {meth : Method} {c : Code} {D : va_G} {ca : Nat → ClassId} {xa ad : Nat → Nat} {A : Nat → Prop} (hc : zCx p s m args meth c cX8_turn 7 RX8 D ca xa A (zwM ad ca)) (hr : meth.sig.returnType = none) (N : Nat)   : ∀ (n : Nat) (x1 : Int32) (x2 : Int32) (x5 : Int32) (σ : zSt), zGO p l e rmX8_turn s m args below meth c 0 0 (zwM ad ca) D A 7 (zQ below D A (zwM ad ca) args s zV) (fX8_turn_160 N n x1 x2 x5 σ) σ 160 [(0, .ref (ad 0)), (1, .int x1), (2, .int x2), (5, .int x5)] [] := by
  intro n
  induction n with
  | zero =>
    intro x1 x2 x5 σ
    exact z_none
  | succ n ih =>
    intro x1 x2 x5 σ
    unfold fX8_turn_160
    refine z_iload hc dX8_turn_160 3 rfl ?_
    refine z_bipush (v := (8 : Int32)) hc dX8_turn_162 (by decide) ?_
    refine z_aload_n hc dX8_turn_164 0 rfl ?_
    refine gfX8_277 hc dX8_turn_165 ?_
    refine z_imul hc dX8_turn_168 ?_
    refine z_bipush (v := (8 : Int32)) hc dX8_turn_169 (by decide) ?_
    refine z_iadd hc dX8_turn_171 ?_
    refine z_icmp_ge (tgt := 196) hc dX8_turn_172 (by decide) ?_ ?_
    · refine z_sub [0, 1, 2] rfl ?_
      exact tX8_turn_196 hc hr N _ _ _
    · refine z_aload_n hc dX8_turn_175 0 rfl ?_
      refine gfX8_65 hc dX8_turn_176 ?_
      refine z_iload hc dX8_turn_179 3 rfl ?_
      refine z_aload_n hc dX8_turn_181 0 rfl ?_
      refine gfX8_65 hc dX8_turn_182 ?_
      refine z_iload hc dX8_turn_185 3 rfl ?_
      refine z_laload hc 19 (by decide) rfl dX8_turn_187 (fun v1 => ?_)
      refine z_lneg hc dX8_turn_188 ?_
      refine z_lastore hc 19 (by decide) (fun _ _ => rfl) dX8_turn_189 (fun σ2 => ?_)
      refine z_iinc (v := (x5 + (1 : Int32))) (lv' := [(5, .int (x5 + (1 : Int32))), (0, .ref (ad 0)), (1, .int x1), (2, .int x2)]) hc dX8_turn_190 3 rfl rfl (by decide) rfl ?_
      refine z_goto (tgt := 160) hc dX8_turn_193 (by decide) ?_
      refine z_sub [1, 2, 3, 0] rfl ?_
      exact ih _ _ _ _
set_option maxRecDepth 100000 in
set_option maxHeartbeats 4000000 in
theorem tX8_turn_97 {p : Program} {l : Launch} {e : Env} {s : State} {m : MethodId} {args : Array Value} {below : List Frame} {meth : Method} {c : Code} {D : va_G} {ca : Nat → ClassId} {xa ad : Nat → Nat} {A : Nat → Prop} (hc : zCx p s m args meth c cX8_turn 7 RX8 D ca xa A (zwM ad ca)) (hr : meth.sig.returnType = none) (N : Nat)   : ∀ (n : Nat) (x1 : Int32) (x2 : Int32) (y3 : Int64) (x5 : Int32) (σ : zSt), zGO p l e rmX8_turn s m args below meth c 0 0 (zwM ad ca) D A 7 (zQ below D A (zwM ad ca) args s zV) (fX8_turn_97 N n x1 x2 y3 x5 σ) σ 97 [(0, .ref (ad 0)), (1, .int x1), (2, .int x2), (3, .long y3), (5, .int x5)] [] := by
  intro n
  induction n with
  | zero =>
    intro x1 x2 y3 x5 σ
    exact z_none
  | succ n ih =>
    intro x1 x2 y3 x5 σ
    unfold fX8_turn_97
    refine z_iload hc dX8_turn_97 4 rfl ?_
    refine z_aload_n hc dX8_turn_99 0 rfl ?_
    refine gfX8_277 hc dX8_turn_100 ?_
    refine z_icmp_gt (tgt := 140) hc dX8_turn_103 (by decide) ?_ ?_
    · refine z_aload_n hc dX8_turn_140 0 rfl ?_
      refine z_lload_n hc dX8_turn_141 3 rfl ?_
      refine pfX8_283 hc dX8_turn_142 (fun σ1 => ?_)
      refine z_lload_n hc dX8_turn_145 3 rfl ?_
      refine z_lconst (v := (0 : Int64)) hc dX8_turn_146 (by decide) ?_
      refine z_lcmp_ge (tgt := 196) hc dX8_turn_147 dX8_turn_148 (by decide) ?_ ?_
      · refine z_sub [0, 1, 2] rfl ?_
        exact tX8_turn_196 hc hr N _ _ _
      · refine z_aload_n hc dX8_turn_151 0 rfl ?_
        refine z_lload_n hc dX8_turn_152 3 rfl ?_
        refine z_lneg hc dX8_turn_153 ?_
        refine pfX8_283 hc dX8_turn_154 (fun σ2 => ?_)
        refine z_iconst (v := (0 : Int32)) hc dX8_turn_157 (by decide) ?_
        refine z_istore (lv' := [(5, .int (0 : Int32)), (0, .ref (ad 0)), (1, .int x1), (2, .int x2), (3, .long y3)]) hc dX8_turn_158 (by decide) rfl ?_
        refine z_sub [1, 2, 3, 0] rfl ?_
        exact tX8_turn_160 hc hr N N _ _ _ _
    · refine z_aload_n hc dX8_turn_106 0 rfl ?_
      refine z_iload hc dX8_turn_107 4 rfl ?_
      refine z_iload_n hc dX8_turn_109 2 rfl ?_
      refine z_iload hc dX8_turn_110 4 rfl ?_
      refine z_iload_n hc dX8_turn_112 1 rfl ?_
      refine z_icmp_ne (tgt := 123) hc dX8_turn_113 (by decide) ?_ ?_
      · refine z_aload_n hc dX8_turn_116 0 rfl ?_
        refine gfX8_283 hc dX8_turn_117 ?_
        refine z_goto (tgt := 131) hc dX8_turn_120 (by decide) ?_
        exact tX8_turn_131 hc hr N _ (ih) _ _ _ _ _ _ _ _
      · refine z_aload_n hc dX8_turn_123 0 rfl ?_
        refine z_iload hc dX8_turn_124 4 rfl ?_
        refine z_iload_n hc dX8_turn_126 2 rfl ?_
        refine z_runVl (b0 := ad 0) (As := [.int x5, .int x2]) (rest := [.int x2, .int x5, .ref (ad 0)]) hc dX8_turn_127 (fun _ _ h => tX8_at h) mpX8_at miX8_at kmX8_273 ⟨rfl, rfl, Nat.le_of_ble_eq_true rfl, Nat.le_of_ble_eq_true rfl⟩ ⟨Nat.le_refl _, Nat.le_refl _⟩ zcM_rc0 rfl (Nat.le_of_ble_eq_true rfl) (fun b3 σ4 => ?_)
        refine z_lneg hc dX8_turn_130 ?_
        exact tX8_turn_131 hc hr N _ (ih) _ _ _ _ _ _ _ _
set_option maxRecDepth 100000 in
set_option maxHeartbeats 4000000 in
theorem tX8_turn_10 {p : Program} {l : Launch} {e : Env} {s : State} {m : MethodId} {args : Array Value} {below : List Frame} {meth : Method} {c : Code} {D : va_G} {ca : Nat → ClassId} {xa ad : Nat → Nat} {A : Nat → Prop} (hc : zCx p s m args meth c cX8_turn 7 RX8 D ca xa A (zwM ad ca)) (hr : meth.sig.returnType = none) (N : Nat)   : ∀ (n : Nat) (x1 : Int32) (x2 : Int32) (y3 : Int64) (x5 : Int32) (σ : zSt), zGO p l e rmX8_turn s m args below meth c 0 0 (zwM ad ca) D A 7 (zQ below D A (zwM ad ca) args s zV) (fX8_turn_10 N n x1 x2 y3 x5 σ) σ 10 [(0, .ref (ad 0)), (1, .int x1), (2, .int x2), (3, .long y3), (5, .int x5)] [] := by
  intro n
  induction n with
  | zero =>
    intro x1 x2 y3 x5 σ
    exact z_none
  | succ n ih =>
    intro x1 x2 y3 x5 σ
    unfold fX8_turn_10
    refine z_iload hc dX8_turn_10 4 rfl ?_
    refine z_aload_n hc dX8_turn_12 0 rfl ?_
    refine gfX8_277 hc dX8_turn_13 ?_
    refine z_icmp_gt (tgt := 94) hc dX8_turn_16 (by decide) ?_ ?_
    · refine z_iconst (v := (0 : Int32)) hc dX8_turn_94 (by decide) ?_
      refine z_istore (lv' := [(5, .int (0 : Int32)), (0, .ref (ad 0)), (1, .int x1), (2, .int x2), (3, .long y3)]) hc dX8_turn_95 (by decide) rfl ?_
      refine z_sub [1, 2, 3, 4, 0] rfl ?_
      exact tX8_turn_97 hc hr N N _ _ _ _ _
    · refine z_iconst (v := (0 : Int32)) hc dX8_turn_19 (by decide) ?_
      refine z_istore (lv' := [(6, .int (0 : Int32)), (0, .ref (ad 0)), (1, .int x1), (2, .int x2), (3, .long y3), (5, .int x5)]) hc dX8_turn_20 (by decide) rfl ?_
      refine z_sub [1, 2, 3, 4, 5, 0] rfl ?_
      exact tX8_turn_22 hc hr N _ (ih) N _ _ _ _ _ _
set_option maxRecDepth 100000 in
set_option maxHeartbeats 4000000 in
theorem tX8_turn {l : Launch} {D : va_G} {ca : Nat → ClassId} {xa ad : Nat → Nat} {A : Nat → Prop} {N : Nat} {x1 : Int32} {x2 : Int32} {σ : zSt} {a : Unit} {τ : zSt} (h : fX8_turn N x1 x2 σ = some (a, τ)) : zCt l yX8_turn cX8_turn 7 none rmX8_turn D ca xa A (zwM ad ca) [.ref (ad 0), .int x1, .int x2] σ (zV a) τ := by
  refine z_met (inj := zV) (lv := [(0, .ref (ad 0)), (1, .int x1), (2, .int x2)]) (by decide) (Nat.le_of_ble_eq_true rfl) rfl ?_ h
  intro p e s m args below meth c hc hr
  unfold fX8_turn
  refine z_aload_n hc dX8_turn_0 0 rfl ?_
  refine z_iload_n hc dX8_turn_1 1 rfl ?_
  refine z_iload_n hc dX8_turn_2 2 rfl ?_
  refine z_runVl (b0 := ad 0) (As := [.int x1, .int x2]) (rest := []) hc dX8_turn_3 (fun _ _ h => tX8_at h) mpX8_at miX8_at kmX8_273 ⟨rfl, rfl, Nat.le_of_ble_eq_true rfl, Nat.le_of_ble_eq_true rfl⟩ ⟨Nat.le_refl _, Nat.le_refl _⟩ zcM_rc0 rfl (Nat.le_of_ble_eq_true rfl) (fun b1 σ2 => ?_)
  refine z_lstore_n (lv' := [(3, .long b1), (0, .ref (ad 0)), (1, .int x1), (2, .int x2)]) hc dX8_turn_6 rfl (by decide) rfl ?_
  refine z_iconst (v := (0 : Int32)) hc dX8_turn_7 (by decide) ?_
  refine z_istore (lv' := [(5, .int (0 : Int32)), (3, .long b1), (0, .ref (ad 0)), (1, .int x1), (2, .int x2)]) hc dX8_turn_8 (by decide) rfl ?_
  refine z_sub [2, 3, 4, 1, 0] rfl ?_
  exact tX8_turn_10 hc hr N N _ _ _ _ _
set_option maxRecDepth 100000 in
set_option maxHeartbeats 4000000 in
theorem tX8_isSolved_98 {p : Program} {l : Launch} {e : Env} {s : State} {m : MethodId} {args : Array Value} {below : List Frame} {meth : Method} {c : Code} {D : va_G} {ca : Nat → ClassId} {xa ad : Nat → Nat} {A : Nat → Prop} (hc : zCx p s m args meth c cX8_isSolved 5 RX8 D ca xa A (zwM ad ca)) (hr : meth.sig.returnType = (some .boolean)) (N : Nat) (k10 : Int32 → Int32 → zSt → Option (Int32 × zSt)) (k55 : Int32 → Int32 → Int32 → zSt → Option (Int32 × zSt)) (hk10 : ∀ (x1 : Int32) (x2 : Int32) (σ : zSt), zGO p l e rmX8_isSolved s m args below meth c 0 0 (zwM ad ca) D A 5 (zQ below D A (zwM ad ca) args s zI) (k10 x1 x2 σ) σ 10 [(0, .ref (ad 0)), (1, .int x1), (2, .int x2)] []) (hk55 : ∀ (x1 : Int32) (x3 : Int32) (x4 : Int32) (σ : zSt), zGO p l e rmX8_isSolved s m args below meth c 0 0 (zwM ad ca) D A 5 (zQ below D A (zwM ad ca) args s zI) (k55 x1 x3 x4 σ) σ 55 [(0, .ref (ad 0)), (1, .int x1), (3, .int x3), (4, .int x4)] []) (x1 : Int32) (x4 : Int32) (σ : zSt) : zGO p l e rmX8_isSolved s m args below meth c 0 0 (zwM ad ca) D A 5 (zQ below D A (zwM ad ca) args s zI) (fX8_isSolved_98 N k10 k55 x1 x4 σ) σ 98 [(0, .ref (ad 0)), (1, .int x1), (4, .int x4)] [] := by
  unfold fX8_isSolved_98
  refine z_iload hc dX8_isSolved_98 2 rfl ?_
  refine z_goto (tgt := 104) hc dX8_isSolved_100 (by decide) ?_
  refine z_istore_n (lv' := [(3, .int x4), (0, .ref (ad 0)), (1, .int x1), (4, .int x4)]) hc dX8_isSolved_104 rfl (by decide) rfl ?_
  refine z_iinc (v := (x4 + (1 : Int32))) (lv' := [(4, .int (x4 + (1 : Int32))), (3, .int x4), (0, .ref (ad 0)), (1, .int x1)]) hc dX8_isSolved_105 3 rfl rfl (by decide) rfl ?_
  refine z_goto (tgt := 55) hc dX8_isSolved_108 (by decide) ?_
  refine z_sub [2, 3, 1, 0] rfl ?_
  exact hk55 _ _ _ _
set_option maxRecDepth 100000 in
set_option maxHeartbeats 4000000 in
theorem tX8_isSolved_103 {p : Program} {l : Launch} {e : Env} {s : State} {m : MethodId} {args : Array Value} {below : List Frame} {meth : Method} {c : Code} {D : va_G} {ca : Nat → ClassId} {xa ad : Nat → Nat} {A : Nat → Prop} (hc : zCx p s m args meth c cX8_isSolved 5 RX8 D ca xa A (zwM ad ca)) (hr : meth.sig.returnType = (some .boolean)) (N : Nat) (k10 : Int32 → Int32 → zSt → Option (Int32 × zSt)) (k55 : Int32 → Int32 → Int32 → zSt → Option (Int32 × zSt)) (hk10 : ∀ (x1 : Int32) (x2 : Int32) (σ : zSt), zGO p l e rmX8_isSolved s m args below meth c 0 0 (zwM ad ca) D A 5 (zQ below D A (zwM ad ca) args s zI) (k10 x1 x2 σ) σ 10 [(0, .ref (ad 0)), (1, .int x1), (2, .int x2)] []) (hk55 : ∀ (x1 : Int32) (x3 : Int32) (x4 : Int32) (σ : zSt), zGO p l e rmX8_isSolved s m args below meth c 0 0 (zwM ad ca) D A 5 (zQ below D A (zwM ad ca) args s zI) (k55 x1 x3 x4 σ) σ 55 [(0, .ref (ad 0)), (1, .int x1), (3, .int x3), (4, .int x4)] []) (x1 : Int32) (x3 : Int32) (x4 : Int32) (σ : zSt) : zGO p l e rmX8_isSolved s m args below meth c 0 0 (zwM ad ca) D A 5 (zQ below D A (zwM ad ca) args s zI) (fX8_isSolved_103 N k10 k55 x1 x3 x4 σ) σ 103 [(0, .ref (ad 0)), (1, .int x1), (3, .int x3), (4, .int x4)] [] := by
  unfold fX8_isSolved_103
  refine z_iload_n hc dX8_isSolved_103 2 rfl ?_
  refine z_istore_n (lv' := [(3, .int x3), (0, .ref (ad 0)), (1, .int x1), (4, .int x4)]) hc dX8_isSolved_104 rfl (by decide) rfl ?_
  refine z_iinc (v := (x4 + (1 : Int32))) (lv' := [(4, .int (x4 + (1 : Int32))), (3, .int x3), (0, .ref (ad 0)), (1, .int x1)]) hc dX8_isSolved_105 3 rfl rfl (by decide) rfl ?_
  refine z_goto (tgt := 55) hc dX8_isSolved_108 (by decide) ?_
  refine z_sub [2, 3, 1, 0] rfl ?_
  exact hk55 _ _ _ _
set_option maxRecDepth 100000 in
set_option maxHeartbeats 4000000 in
theorem tX8_isSolved_201 {p : Program} {l : Launch} {e : Env} {s : State} {m : MethodId} {args : Array Value} {below : List Frame} {meth : Method} {c : Code} {D : va_G} {ca : Nat → ClassId} {xa ad : Nat → Nat} {A : Nat → Prop} (hc : zCx p s m args meth c cX8_isSolved 5 RX8 D ca xa A (zwM ad ca)) (hr : meth.sig.returnType = (some .boolean)) (N : Nat) (k10 : Int32 → Int32 → zSt → Option (Int32 × zSt)) (hk10 : ∀ (x1 : Int32) (x2 : Int32) (σ : zSt), zGO p l e rmX8_isSolved s m args below meth c 0 0 (zwM ad ca) D A 5 (zQ below D A (zwM ad ca) args s zI) (k10 x1 x2 σ) σ 10 [(0, .ref (ad 0)), (1, .int x1), (2, .int x2)] [])  (σ : zSt) : zGO p l e rmX8_isSolved s m args below meth c 0 0 (zwM ad ca) D A 5 (zQ below D A (zwM ad ca) args s zI) (fX8_isSolved_201 N k10 σ) σ 201 [(0, .ref (ad 0))] [] := by
  unfold fX8_isSolved_201
  refine z_aload_n hc dX8_isSolved_201 0 rfl ?_
  refine z_runVi (b0 := ad 0) (As := []) (rest := []) hc dX8_isSolved_202 (fun _ _ h => tX8_leastRow h) mpX8_leastRow miX8_leastRow kmX8_291 ⟨rfl, rfl, Nat.le_of_ble_eq_true rfl, Nat.le_of_ble_eq_true rfl⟩ ⟨Nat.le_refl _, Nat.le_refl _⟩ zcM_rc0 rfl (Nat.le_of_ble_eq_true rfl) (fun b1 σ2 => ?_)
  refine z_istore_n (lv' := [(1, .int b1), (0, .ref (ad 0))]) hc dX8_isSolved_205 rfl (by decide) rfl ?_
  refine z_aload_n hc dX8_isSolved_206 1 rfl ?_
  refine z_runVi (b0 := ad 0) (As := []) (rest := []) hc dX8_isSolved_207 (fun _ _ h => tX8_leastColumn h) mpX8_leastColumn miX8_leastColumn kmX8_294 ⟨rfl, rfl, Nat.le_of_ble_eq_true rfl, Nat.le_of_ble_eq_true rfl⟩ ⟨Nat.le_refl _, Nat.le_refl _⟩ zcM_rc0 rfl (Nat.le_of_ble_eq_true rfl) (fun b3 σ4 => ?_)
  refine z_istore_n (lv' := [(2, .int b3), (1, .int b1), (0, .ref (ad 0))]) hc dX8_isSolved_210 rfl (by decide) rfl ?_
  refine z_goto (tgt := 10) hc dX8_isSolved_211 (by decide) ?_
  refine z_sub [2, 1, 0] rfl ?_
  exact hk10 _ _ _
set_option maxRecDepth 100000 in
set_option maxHeartbeats 4000000 in
theorem tX8_isSolved_55 {p : Program} {l : Launch} {e : Env} {s : State} {m : MethodId} {args : Array Value} {below : List Frame} {meth : Method} {c : Code} {D : va_G} {ca : Nat → ClassId} {xa ad : Nat → Nat} {A : Nat → Prop} (hc : zCx p s m args meth c cX8_isSolved 5 RX8 D ca xa A (zwM ad ca)) (hr : meth.sig.returnType = (some .boolean)) (N : Nat) (k10 : Int32 → Int32 → zSt → Option (Int32 × zSt)) (hk10 : ∀ (x1 : Int32) (x2 : Int32) (σ : zSt), zGO p l e rmX8_isSolved s m args below meth c 0 0 (zwM ad ca) D A 5 (zQ below D A (zwM ad ca) args s zI) (k10 x1 x2 σ) σ 10 [(0, .ref (ad 0)), (1, .int x1), (2, .int x2)] []) : ∀ (n : Nat) (x1 : Int32) (x3 : Int32) (x4 : Int32) (σ : zSt), zGO p l e rmX8_isSolved s m args below meth c 0 0 (zwM ad ca) D A 5 (zQ below D A (zwM ad ca) args s zI) (fX8_isSolved_55 N k10 n x1 x3 x4 σ) σ 55 [(0, .ref (ad 0)), (1, .int x1), (3, .int x3), (4, .int x4)] [] := by
  intro n
  induction n with
  | zero =>
    intro x1 x3 x4 σ
    exact z_none
  | succ n ih =>
    intro x1 x3 x4 σ
    unfold fX8_isSolved_55
    refine z_iload hc dX8_isSolved_55 3 rfl ?_
    refine z_aload_n hc dX8_isSolved_57 0 rfl ?_
    refine gfX8_280 hc dX8_isSolved_58 ?_
    refine z_icmp_ge (tgt := 111) hc dX8_isSolved_61 (by decide) ?_ ?_
    · refine z_iload_n hc dX8_isSolved_111 2 rfl ?_
      refine z_ldc hc dX8_isSolved_112 kcX8_114 ?_
      refine z_icmp_ne (tgt := 119) hc dX8_isSolved_114 (by decide) ?_ ?_
      · refine z_iconst (v := (0 : Int32)) hc dX8_isSolved_117 (by decide) ?_
        exact z_zret hc hr dX8_isSolved_118
      · refine z_aload_n hc dX8_isSolved_119 0 rfl ?_
        refine z_iload_n hc dX8_isSolved_120 1 rfl ?_
        refine z_iload_n hc dX8_isSolved_121 2 rfl ?_
        refine z_runVv (b0 := ad 0) (As := [.int x1, .int x3]) (rest := []) hc dX8_isSolved_122 (fun _ _ h => tX8_turn h) mpX8_turn miX8_turn kmX8_297 ⟨rfl, rfl, Nat.le_of_ble_eq_true rfl, Nat.le_of_ble_eq_true rfl⟩ ⟨Nat.le_refl _, Nat.le_refl _⟩ zcM_rc0 rfl (Nat.le_of_ble_eq_true rfl) (fun b1 σ2 => ?_)
        refine z_goto (tgt := 201) hc dX8_isSolved_125 (by decide) ?_
        refine z_sub [0] rfl ?_
        exact tX8_isSolved_201 hc hr N _ hk10 _
    · refine z_aload_n hc dX8_isSolved_64 0 rfl ?_
      refine z_iload_n hc dX8_isSolved_65 1 rfl ?_
      refine z_iload hc dX8_isSolved_66 3 rfl ?_
      refine z_runVl (b0 := ad 0) (As := [.int x1, .int x4]) (rest := []) hc dX8_isSolved_68 (fun _ _ h => tX8_at h) mpX8_at miX8_at kmX8_273 ⟨rfl, rfl, Nat.le_of_ble_eq_true rfl, Nat.le_of_ble_eq_true rfl⟩ ⟨Nat.le_refl _, Nat.le_refl _⟩ zcM_rc0 rfl (Nat.le_of_ble_eq_true rfl) (fun b3 σ4 => ?_)
      refine z_lconst (v := (0 : Int64)) hc dX8_isSolved_71 (by decide) ?_
      refine z_lcmp_ge (tgt := 103) hc dX8_isSolved_72 dX8_isSolved_73 (by decide) ?_ ?_
      · exact tX8_isSolved_103 hc hr N _ _ hk10 (ih) _ _ _ _
      · refine z_iload_n hc dX8_isSolved_76 2 rfl ?_
        refine z_ldc hc dX8_isSolved_77 kcX8_114 ?_
        refine z_icmp_eq (tgt := 98) hc dX8_isSolved_79 (by decide) ?_ ?_
        · refine z_sub [0, 1, 3] rfl ?_
          exact tX8_isSolved_98 hc hr N _ _ hk10 (ih) _ _ _
        · refine z_aload_n hc dX8_isSolved_82 0 rfl ?_
          refine gfX8_72 hc dX8_isSolved_83 ?_
          refine z_iload hc dX8_isSolved_86 3 rfl ?_
          refine z_iaload hc 21 (by decide) rfl dX8_isSolved_88 (fun v5 => ?_)
          refine z_aload_n hc dX8_isSolved_89 0 rfl ?_
          refine gfX8_72 hc dX8_isSolved_90 ?_
          refine z_iload_n hc dX8_isSolved_93 2 rfl ?_
          refine z_iaload hc 21 (by decide) rfl dX8_isSolved_94 (fun v6 => ?_)
          refine z_icmp_ge (tgt := 103) hc dX8_isSolved_95 (by decide) ?_ ?_
          · exact tX8_isSolved_103 hc hr N _ _ hk10 (ih) _ _ _ _
          · refine z_sub [0, 1, 3] rfl ?_
            exact tX8_isSolved_98 hc hr N _ _ hk10 (ih) _ _ _
set_option maxRecDepth 100000 in
set_option maxHeartbeats 4000000 in
theorem tX8_isSolved_52 {p : Program} {l : Launch} {e : Env} {s : State} {m : MethodId} {args : Array Value} {below : List Frame} {meth : Method} {c : Code} {D : va_G} {ca : Nat → ClassId} {xa ad : Nat → Nat} {A : Nat → Prop} (hc : zCx p s m args meth c cX8_isSolved 5 RX8 D ca xa A (zwM ad ca)) (hr : meth.sig.returnType = (some .boolean)) (N : Nat) (k10 : Int32 → Int32 → zSt → Option (Int32 × zSt)) (hk10 : ∀ (x1 : Int32) (x2 : Int32) (σ : zSt), zGO p l e rmX8_isSolved s m args below meth c 0 0 (zwM ad ca) D A 5 (zQ below D A (zwM ad ca) args s zI) (k10 x1 x2 σ) σ 10 [(0, .ref (ad 0)), (1, .int x1), (2, .int x2)] []) (x1 : Int32) (x3 : Int32) (σ : zSt) : zGO p l e rmX8_isSolved s m args below meth c 0 0 (zwM ad ca) D A 5 (zQ below D A (zwM ad ca) args s zI) (fX8_isSolved_52 N k10 x1 x3 σ) σ 52 [(0, .ref (ad 0)), (1, .int x1), (3, .int x3)] [] := by
  unfold fX8_isSolved_52
  refine z_iconst (v := (0 : Int32)) hc dX8_isSolved_52 (by decide) ?_
  refine z_istore (lv' := [(4, .int (0 : Int32)), (0, .ref (ad 0)), (1, .int x1), (3, .int x3)]) hc dX8_isSolved_53 (by decide) rfl ?_
  refine z_sub [1, 2, 3, 0] rfl ?_
  exact tX8_isSolved_55 hc hr N _ hk10 N _ _ _ _
set_option maxRecDepth 100000 in
set_option maxHeartbeats 4000000 in
theorem tX8_isSolved_174 {p : Program} {l : Launch} {e : Env} {s : State} {m : MethodId} {args : Array Value} {below : List Frame} {meth : Method} {c : Code} {D : va_G} {ca : Nat → ClassId} {xa ad : Nat → Nat} {A : Nat → Prop} (hc : zCx p s m args meth c cX8_isSolved 5 RX8 D ca xa A (zwM ad ca)) (hr : meth.sig.returnType = (some .boolean)) (N : Nat) (k10 : Int32 → Int32 → zSt → Option (Int32 × zSt)) (k131 : Int32 → Int32 → Int32 → zSt → Option (Int32 × zSt)) (hk10 : ∀ (x1 : Int32) (x2 : Int32) (σ : zSt), zGO p l e rmX8_isSolved s m args below meth c 0 0 (zwM ad ca) D A 5 (zQ below D A (zwM ad ca) args s zI) (k10 x1 x2 σ) σ 10 [(0, .ref (ad 0)), (1, .int x1), (2, .int x2)] []) (hk131 : ∀ (x2 : Int32) (x3 : Int32) (x4 : Int32) (σ : zSt), zGO p l e rmX8_isSolved s m args below meth c 0 0 (zwM ad ca) D A 5 (zQ below D A (zwM ad ca) args s zI) (k131 x2 x3 x4 σ) σ 131 [(0, .ref (ad 0)), (2, .int x2), (3, .int x3), (4, .int x4)] []) (x2 : Int32) (x4 : Int32) (σ : zSt) : zGO p l e rmX8_isSolved s m args below meth c 0 0 (zwM ad ca) D A 5 (zQ below D A (zwM ad ca) args s zI) (fX8_isSolved_174 N k10 k131 x2 x4 σ) σ 174 [(0, .ref (ad 0)), (2, .int x2), (4, .int x4)] [] := by
  unfold fX8_isSolved_174
  refine z_iload hc dX8_isSolved_174 2 rfl ?_
  refine z_goto (tgt := 180) hc dX8_isSolved_176 (by decide) ?_
  refine z_istore_n (lv' := [(3, .int x4), (0, .ref (ad 0)), (2, .int x2), (4, .int x4)]) hc dX8_isSolved_180 rfl (by decide) rfl ?_
  refine z_iinc (v := (x4 + (1 : Int32))) (lv' := [(4, .int (x4 + (1 : Int32))), (3, .int x4), (0, .ref (ad 0)), (2, .int x2)]) hc dX8_isSolved_181 3 rfl rfl (by decide) rfl ?_
  refine z_goto (tgt := 131) hc dX8_isSolved_184 (by decide) ?_
  refine z_sub [2, 3, 1, 0] rfl ?_
  exact hk131 _ _ _ _
set_option maxRecDepth 100000 in
set_option maxHeartbeats 4000000 in
theorem tX8_isSolved_179 {p : Program} {l : Launch} {e : Env} {s : State} {m : MethodId} {args : Array Value} {below : List Frame} {meth : Method} {c : Code} {D : va_G} {ca : Nat → ClassId} {xa ad : Nat → Nat} {A : Nat → Prop} (hc : zCx p s m args meth c cX8_isSolved 5 RX8 D ca xa A (zwM ad ca)) (hr : meth.sig.returnType = (some .boolean)) (N : Nat) (k10 : Int32 → Int32 → zSt → Option (Int32 × zSt)) (k131 : Int32 → Int32 → Int32 → zSt → Option (Int32 × zSt)) (hk10 : ∀ (x1 : Int32) (x2 : Int32) (σ : zSt), zGO p l e rmX8_isSolved s m args below meth c 0 0 (zwM ad ca) D A 5 (zQ below D A (zwM ad ca) args s zI) (k10 x1 x2 σ) σ 10 [(0, .ref (ad 0)), (1, .int x1), (2, .int x2)] []) (hk131 : ∀ (x2 : Int32) (x3 : Int32) (x4 : Int32) (σ : zSt), zGO p l e rmX8_isSolved s m args below meth c 0 0 (zwM ad ca) D A 5 (zQ below D A (zwM ad ca) args s zI) (k131 x2 x3 x4 σ) σ 131 [(0, .ref (ad 0)), (2, .int x2), (3, .int x3), (4, .int x4)] []) (x2 : Int32) (x3 : Int32) (x4 : Int32) (σ : zSt) : zGO p l e rmX8_isSolved s m args below meth c 0 0 (zwM ad ca) D A 5 (zQ below D A (zwM ad ca) args s zI) (fX8_isSolved_179 N k10 k131 x2 x3 x4 σ) σ 179 [(0, .ref (ad 0)), (2, .int x2), (3, .int x3), (4, .int x4)] [] := by
  unfold fX8_isSolved_179
  refine z_iload_n hc dX8_isSolved_179 2 rfl ?_
  refine z_istore_n (lv' := [(3, .int x3), (0, .ref (ad 0)), (2, .int x2), (4, .int x4)]) hc dX8_isSolved_180 rfl (by decide) rfl ?_
  refine z_iinc (v := (x4 + (1 : Int32))) (lv' := [(4, .int (x4 + (1 : Int32))), (3, .int x3), (0, .ref (ad 0)), (2, .int x2)]) hc dX8_isSolved_181 3 rfl rfl (by decide) rfl ?_
  refine z_goto (tgt := 131) hc dX8_isSolved_184 (by decide) ?_
  refine z_sub [2, 3, 1, 0] rfl ?_
  exact hk131 _ _ _ _
set_option maxRecDepth 100000 in
set_option maxHeartbeats 4000000 in
theorem tX8_isSolved_131 {p : Program} {l : Launch} {e : Env} {s : State} {m : MethodId} {args : Array Value} {below : List Frame} {meth : Method} {c : Code} {D : va_G} {ca : Nat → ClassId} {xa ad : Nat → Nat} {A : Nat → Prop} (hc : zCx p s m args meth c cX8_isSolved 5 RX8 D ca xa A (zwM ad ca)) (hr : meth.sig.returnType = (some .boolean)) (N : Nat) (k10 : Int32 → Int32 → zSt → Option (Int32 × zSt)) (hk10 : ∀ (x1 : Int32) (x2 : Int32) (σ : zSt), zGO p l e rmX8_isSolved s m args below meth c 0 0 (zwM ad ca) D A 5 (zQ below D A (zwM ad ca) args s zI) (k10 x1 x2 σ) σ 10 [(0, .ref (ad 0)), (1, .int x1), (2, .int x2)] []) : ∀ (n : Nat) (x2 : Int32) (x3 : Int32) (x4 : Int32) (σ : zSt), zGO p l e rmX8_isSolved s m args below meth c 0 0 (zwM ad ca) D A 5 (zQ below D A (zwM ad ca) args s zI) (fX8_isSolved_131 N k10 n x2 x3 x4 σ) σ 131 [(0, .ref (ad 0)), (2, .int x2), (3, .int x3), (4, .int x4)] [] := by
  intro n
  induction n with
  | zero =>
    intro x2 x3 x4 σ
    exact z_none
  | succ n ih =>
    intro x2 x3 x4 σ
    unfold fX8_isSolved_131
    refine z_iload hc dX8_isSolved_131 3 rfl ?_
    refine z_aload_n hc dX8_isSolved_133 0 rfl ?_
    refine gfX8_277 hc dX8_isSolved_134 ?_
    refine z_icmp_ge (tgt := 187) hc dX8_isSolved_137 (by decide) ?_ ?_
    · refine z_iload_n hc dX8_isSolved_187 2 rfl ?_
      refine z_ldc hc dX8_isSolved_188 kcX8_114 ?_
      refine z_icmp_ne (tgt := 195) hc dX8_isSolved_190 (by decide) ?_ ?_
      · refine z_iconst (v := (0 : Int32)) hc dX8_isSolved_193 (by decide) ?_
        exact z_zret hc hr dX8_isSolved_194
      · refine z_aload_n hc dX8_isSolved_195 0 rfl ?_
        refine z_iload_n hc dX8_isSolved_196 2 rfl ?_
        refine z_iload_n hc dX8_isSolved_197 1 rfl ?_
        refine z_runVv (b0 := ad 0) (As := [.int x3, .int x2]) (rest := []) hc dX8_isSolved_198 (fun _ _ h => tX8_turn h) mpX8_turn miX8_turn kmX8_297 ⟨rfl, rfl, Nat.le_of_ble_eq_true rfl, Nat.le_of_ble_eq_true rfl⟩ ⟨Nat.le_refl _, Nat.le_refl _⟩ zcM_rc0 rfl (Nat.le_of_ble_eq_true rfl) (fun b1 σ2 => ?_)
        refine z_sub [0] rfl ?_
        exact tX8_isSolved_201 hc hr N _ hk10 _
    · refine z_aload_n hc dX8_isSolved_140 0 rfl ?_
      refine z_iload hc dX8_isSolved_141 3 rfl ?_
      refine z_iload_n hc dX8_isSolved_143 1 rfl ?_
      refine z_runVl (b0 := ad 0) (As := [.int x4, .int x2]) (rest := []) hc dX8_isSolved_144 (fun _ _ h => tX8_at h) mpX8_at miX8_at kmX8_273 ⟨rfl, rfl, Nat.le_of_ble_eq_true rfl, Nat.le_of_ble_eq_true rfl⟩ ⟨Nat.le_refl _, Nat.le_refl _⟩ zcM_rc0 rfl (Nat.le_of_ble_eq_true rfl) (fun b3 σ4 => ?_)
      refine z_lconst (v := (0 : Int64)) hc dX8_isSolved_147 (by decide) ?_
      refine z_lcmp_le (tgt := 179) hc dX8_isSolved_148 dX8_isSolved_149 (by decide) ?_ ?_
      · exact tX8_isSolved_179 hc hr N _ _ hk10 (ih) _ _ _ _
      · refine z_iload_n hc dX8_isSolved_152 2 rfl ?_
        refine z_ldc hc dX8_isSolved_153 kcX8_114 ?_
        refine z_icmp_eq (tgt := 174) hc dX8_isSolved_155 (by decide) ?_ ?_
        · refine z_sub [0, 1, 3] rfl ?_
          exact tX8_isSolved_174 hc hr N _ _ hk10 (ih) _ _ _
        · refine z_aload_n hc dX8_isSolved_158 0 rfl ?_
          refine gfX8_69 hc dX8_isSolved_159 ?_
          refine z_iload hc dX8_isSolved_162 3 rfl ?_
          refine z_iaload hc 20 (by decide) rfl dX8_isSolved_164 (fun v5 => ?_)
          refine z_aload_n hc dX8_isSolved_165 0 rfl ?_
          refine gfX8_69 hc dX8_isSolved_166 ?_
          refine z_iload_n hc dX8_isSolved_169 2 rfl ?_
          refine z_iaload hc 20 (by decide) rfl dX8_isSolved_170 (fun v6 => ?_)
          refine z_icmp_ge (tgt := 179) hc dX8_isSolved_171 (by decide) ?_ ?_
          · exact tX8_isSolved_179 hc hr N _ _ hk10 (ih) _ _ _ _
          · refine z_sub [0, 1, 3] rfl ?_
            exact tX8_isSolved_174 hc hr N _ _ hk10 (ih) _ _ _
set_option maxRecDepth 100000 in
set_option maxHeartbeats 4000000 in
theorem tX8_isSolved_128 {p : Program} {l : Launch} {e : Env} {s : State} {m : MethodId} {args : Array Value} {below : List Frame} {meth : Method} {c : Code} {D : va_G} {ca : Nat → ClassId} {xa ad : Nat → Nat} {A : Nat → Prop} (hc : zCx p s m args meth c cX8_isSolved 5 RX8 D ca xa A (zwM ad ca)) (hr : meth.sig.returnType = (some .boolean)) (N : Nat) (k10 : Int32 → Int32 → zSt → Option (Int32 × zSt)) (hk10 : ∀ (x1 : Int32) (x2 : Int32) (σ : zSt), zGO p l e rmX8_isSolved s m args below meth c 0 0 (zwM ad ca) D A 5 (zQ below D A (zwM ad ca) args s zI) (k10 x1 x2 σ) σ 10 [(0, .ref (ad 0)), (1, .int x1), (2, .int x2)] []) (x2 : Int32) (x3 : Int32) (σ : zSt) : zGO p l e rmX8_isSolved s m args below meth c 0 0 (zwM ad ca) D A 5 (zQ below D A (zwM ad ca) args s zI) (fX8_isSolved_128 N k10 x2 x3 σ) σ 128 [(0, .ref (ad 0)), (2, .int x2), (3, .int x3)] [] := by
  unfold fX8_isSolved_128
  refine z_iconst (v := (0 : Int32)) hc dX8_isSolved_128 (by decide) ?_
  refine z_istore (lv' := [(4, .int (0 : Int32)), (0, .ref (ad 0)), (2, .int x2), (3, .int x3)]) hc dX8_isSolved_129 (by decide) rfl ?_
  refine z_sub [1, 2, 3, 0] rfl ?_
  exact tX8_isSolved_131 hc hr N _ hk10 N _ _ _ _
set_option maxRecDepth 100000 in
set_option maxHeartbeats 4000000 in
theorem tX8_isSolved_22 {p : Program} {l : Launch} {e : Env} {s : State} {m : MethodId} {args : Array Value} {below : List Frame} {meth : Method} {c : Code} {D : va_G} {ca : Nat → ClassId} {xa ad : Nat → Nat} {A : Nat → Prop} (hc : zCx p s m args meth c cX8_isSolved 5 RX8 D ca xa A (zwM ad ca)) (hr : meth.sig.returnType = (some .boolean)) (N : Nat) (k10 : Int32 → Int32 → zSt → Option (Int32 × zSt)) (hk10 : ∀ (x1 : Int32) (x2 : Int32) (σ : zSt), zGO p l e rmX8_isSolved s m args below meth c 0 0 (zwM ad ca) D A 5 (zQ below D A (zwM ad ca) args s zI) (k10 x1 x2 σ) σ 10 [(0, .ref (ad 0)), (1, .int x1), (2, .int x2)] []) (x1 : Int32) (x2 : Int32) (σ : zSt) : zGO p l e rmX8_isSolved s m args below meth c 0 0 (zwM ad ca) D A 5 (zQ below D A (zwM ad ca) args s zI) (fX8_isSolved_22 N k10 x1 x2 σ) σ 22 [(0, .ref (ad 0)), (1, .int x1), (2, .int x2)] [] := by
  unfold fX8_isSolved_22
  refine z_ldc hc dX8_isSolved_22 kcX8_114 ?_
  refine z_istore_n (lv' := [(3, .int (-1000000 : Int32)), (0, .ref (ad 0)), (1, .int x1), (2, .int x2)]) hc dX8_isSolved_24 rfl (by decide) rfl ?_
  refine z_iload_n hc dX8_isSolved_25 3 rfl ?_
  refine z_ldc hc dX8_isSolved_26 kcX8_114 ?_
  refine z_icmp_eq (tgt := 52) hc dX8_isSolved_28 (by decide) ?_ ?_
  · refine z_sub [1, 2, 0] rfl ?_
    exact tX8_isSolved_52 hc hr N _ hk10 _ _ _
  · refine z_iload_n hc dX8_isSolved_31 2 rfl ?_
    refine z_ldc hc dX8_isSolved_32 kcX8_114 ?_
    refine z_icmp_eq (tgt := 128) hc dX8_isSolved_34 (by decide) ?_ ?_
    · refine z_sub [1, 3, 0] rfl ?_
      exact tX8_isSolved_128 hc hr N _ hk10 _ _ _
    · refine z_aload_n hc dX8_isSolved_37 1 rfl ?_
      refine gfX8_69 hc dX8_isSolved_38 ?_
      refine z_iload_n hc dX8_isSolved_41 2 rfl ?_
      refine z_iaload hc 20 (by decide) rfl dX8_isSolved_42 (fun v1 => ?_)
      refine z_aload_n hc dX8_isSolved_43 1 rfl ?_
      refine gfX8_72 hc dX8_isSolved_44 ?_
      refine z_iload_n hc dX8_isSolved_47 3 rfl ?_
      refine z_iaload hc 21 (by decide) rfl dX8_isSolved_48 (fun v2 => ?_)
      refine z_icmp_ge (tgt := 128) hc dX8_isSolved_49 (by decide) ?_ ?_
      · refine z_sub [1, 3, 0] rfl ?_
        exact tX8_isSolved_128 hc hr N _ hk10 _ _ _
      · refine z_sub [1, 2, 0] rfl ?_
        exact tX8_isSolved_52 hc hr N _ hk10 _ _ _
set_option maxRecDepth 100000 in
set_option maxHeartbeats 4000000 in
theorem tX8_isSolved_10 {p : Program} {l : Launch} {e : Env} {s : State} {m : MethodId} {args : Array Value} {below : List Frame} {meth : Method} {c : Code} {D : va_G} {ca : Nat → ClassId} {xa ad : Nat → Nat} {A : Nat → Prop} (hc : zCx p s m args meth c cX8_isSolved 5 RX8 D ca xa A (zwM ad ca)) (hr : meth.sig.returnType = (some .boolean)) (N : Nat)   : ∀ (n : Nat) (x1 : Int32) (x2 : Int32) (σ : zSt), zGO p l e rmX8_isSolved s m args below meth c 0 0 (zwM ad ca) D A 5 (zQ below D A (zwM ad ca) args s zI) (fX8_isSolved_10 N n x1 x2 σ) σ 10 [(0, .ref (ad 0)), (1, .int x1), (2, .int x2)] [] := by
  intro n
  induction n with
  | zero =>
    intro x1 x2 σ
    exact z_none
  | succ n ih =>
    intro x1 x2 σ
    unfold fX8_isSolved_10
    refine z_iload_n hc dX8_isSolved_10 1 rfl ?_
    refine z_ldc hc dX8_isSolved_11 kcX8_114 ?_
    refine z_icmp_ne (tgt := 22) hc dX8_isSolved_13 (by decide) ?_ ?_
    · refine z_iload_n hc dX8_isSolved_16 2 rfl ?_
      refine z_ldc hc dX8_isSolved_17 kcX8_114 ?_
      refine z_icmp_eq (tgt := 214) hc dX8_isSolved_19 (by decide) ?_ ?_
      · refine z_iconst (v := (1 : Int32)) hc dX8_isSolved_214 (by decide) ?_
        exact z_zret hc hr dX8_isSolved_215
      · exact tX8_isSolved_22 hc hr N _ (ih) _ _ _
    · exact tX8_isSolved_22 hc hr N _ (ih) _ _ _
set_option maxRecDepth 100000 in
set_option maxHeartbeats 4000000 in
theorem tX8_isSolved {l : Launch} {D : va_G} {ca : Nat → ClassId} {xa ad : Nat → Nat} {A : Nat → Prop} {N : Nat}  {σ : zSt} {a : Int32} {τ : zSt} (h : fX8_isSolved N σ = some (a, τ)) : zCt l yX8_isSolved cX8_isSolved 5 (some .boolean) rmX8_isSolved D ca xa A (zwM ad ca) [.ref (ad 0)] σ (zI a) τ := by
  refine z_met (inj := zI) (lv := [(0, .ref (ad 0))]) (by decide) (Nat.le_of_ble_eq_true rfl) rfl ?_ h
  intro p e s m args below meth c hc hr
  unfold fX8_isSolved
  refine z_aload_n hc dX8_isSolved_0 0 rfl ?_
  refine z_runVi (b0 := ad 0) (As := []) (rest := []) hc dX8_isSolved_1 (fun _ _ h => tX8_leastRow h) mpX8_leastRow miX8_leastRow kmX8_291 ⟨rfl, rfl, Nat.le_of_ble_eq_true rfl, Nat.le_of_ble_eq_true rfl⟩ ⟨Nat.le_refl _, Nat.le_refl _⟩ zcM_rc0 rfl (Nat.le_of_ble_eq_true rfl) (fun b1 σ2 => ?_)
  refine z_istore_n (lv' := [(1, .int b1), (0, .ref (ad 0))]) hc dX8_isSolved_4 rfl (by decide) rfl ?_
  refine z_aload_n hc dX8_isSolved_5 1 rfl ?_
  refine z_runVi (b0 := ad 0) (As := []) (rest := []) hc dX8_isSolved_6 (fun _ _ h => tX8_leastColumn h) mpX8_leastColumn miX8_leastColumn kmX8_294 ⟨rfl, rfl, Nat.le_of_ble_eq_true rfl, Nat.le_of_ble_eq_true rfl⟩ ⟨Nat.le_refl _, Nat.le_refl _⟩ zcM_rc0 rfl (Nat.le_of_ble_eq_true rfl) (fun b3 σ4 => ?_)
  refine z_istore_n (lv' := [(2, .int b3), (1, .int b1), (0, .ref (ad 0))]) hc dX8_isSolved_9 rfl (by decide) rfl ?_
  refine z_sub [2, 1, 0] rfl ?_
  exact tX8_isSolved_10 hc hr N N _ _ _
set_option maxRecDepth 100000 in
set_option maxHeartbeats 4000000 in
theorem tX8_find_92 {p : Program} {l : Launch} {e : Env} {s : State} {m : MethodId} {args : Array Value} {below : List Frame} {meth : Method} {c : Code} {D : va_G} {ca : Nat → ClassId} {xa ad : Nat → Nat} {A : Nat → Prop} (hc : zCx p s m args meth c cX8_find 6 RX8 D ca xa A (zwM ad ca)) (hr : meth.sig.returnType = (some .boolean)) (N : Nat) (k34 : Int32 → Int32 → Int32 → Int32 → zSt → Option (Int32 × zSt)) (hk34 : ∀ (x1 : Int32) (x2 : Int32) (x3 : Int32) (x4 : Int32) (σ : zSt), zGO p l e rmX8_find s m args below meth c 0 0 (zwM ad ca) D A 6 (zQ below D A (zwM ad ca) args s zI) (k34 x1 x2 x3 x4 σ) σ 34 [(0, .ref (ad 0)), (1, .int x1), (2, .int x2), (3, .int x3), (4, .int x4)] []) (x1 : Int32) (x2 : Int32) (x3 : Int32) (x4 : Int32) (s0 : Int32) (s1 : Int32) (s2 : Int32) (σ : zSt) : zGO p l e rmX8_find s m args below meth c 0 0 (zwM ad ca) D A 6 (zQ below D A (zwM ad ca) args s zI) (fX8_find_92 N k34 x1 x2 x3 x4 s0 s1 s2 σ) σ 92 [(0, .ref (ad 0)), (1, .int x1), (2, .int x2), (3, .int x3), (4, .int x4)] [.int s0, .int s1, .int s2, .ref (ad 0)] := by
  unfold fX8_find_92
  refine z_runVv (b0 := ad 0) (As := [.int s2, .int s1, .int s0]) (rest := []) hc dX8_find_92 (fun _ _ h => tX8_addRow h) mpX8_addRow miX8_addRow kmX8_304 ⟨rfl, rfl, Nat.le_of_ble_eq_true rfl, Nat.le_of_ble_eq_true rfl⟩ ⟨Nat.le_refl _, Nat.le_refl _⟩ zcM_rc0 rfl (Nat.le_of_ble_eq_true rfl) (fun b1 σ2 => ?_)
  refine z_iinc (v := (x4 + (1 : Int32))) (lv' := [(4, .int (x4 + (1 : Int32))), (0, .ref (ad 0)), (1, .int x1), (2, .int x2), (3, .int x3)]) hc dX8_find_95 4 rfl rfl (by decide) rfl ?_
  refine z_goto (tgt := 34) hc dX8_find_98 (by decide) ?_
  refine z_sub [1, 2, 3, 4, 0] rfl ?_
  exact hk34 _ _ _ _ _
set_option maxRecDepth 100000 in
set_option maxHeartbeats 4000000 in
theorem tX8_find_174 {p : Program} {l : Launch} {e : Env} {s : State} {m : MethodId} {args : Array Value} {below : List Frame} {meth : Method} {c : Code} {D : va_G} {ca : Nat → ClassId} {xa ad : Nat → Nat} {A : Nat → Prop} (hc : zCx p s m args meth c cX8_find 6 RX8 D ca xa A (zwM ad ca)) (hr : meth.sig.returnType = (some .boolean)) (N : Nat)   : ∀ (n : Nat) (x2 : Int32) (x4 : Int32) (x5 : Int32) (σ : zSt), zGO p l e rmX8_find s m args below meth c 0 0 (zwM ad ca) D A 6 (zQ below D A (zwM ad ca) args s zI) (fX8_find_174 N n x2 x4 x5 σ) σ 174 [(0, .ref (ad 0)), (2, .int x2), (4, .int x4), (5, .int x5)] [] := by
  intro n
  induction n with
  | zero =>
    intro x2 x4 x5 σ
    exact z_none
  | succ n ih =>
    intro x2 x4 x5 σ
    unfold fX8_find_174
    refine z_iload hc dX8_find_174 3 rfl ?_
    refine z_aload_n hc dX8_find_176 0 rfl ?_
    refine gfX8_277 hc dX8_find_177 ?_
    refine z_icmp_ge (tgt := 203) hc dX8_find_180 (by decide) ?_ ?_
    · refine z_aload_n hc dX8_find_203 0 rfl ?_
      refine z_runVi (b0 := ad 0) (As := []) (rest := []) hc dX8_find_204 (fun _ _ h => tX8_isSolved h) mpX8_isSolved miX8_isSolved kmX8_308 ⟨rfl, rfl, Nat.le_of_ble_eq_true rfl, Nat.le_of_ble_eq_true rfl⟩ ⟨Nat.le_refl _, Nat.le_refl _⟩ zcM_rc0 rfl (Nat.le_of_ble_eq_true rfl) (fun b1 σ2 => ?_)
      refine z_if_ne (tgt := 212) hc dX8_find_207 (by decide) ?_ ?_
      · refine z_iconst (v := (0 : Int32)) hc dX8_find_210 (by decide) ?_
        exact z_zret hc hr dX8_find_211
      · refine z_aload_n hc dX8_find_212 0 rfl ?_
        refine z_ldc2 hc dX8_find_213 kcX8_268 ?_
        refine z_iload hc dX8_find_216 2 rfl ?_
        refine z_i2l hc dX8_find_218 ?_
        refine z_lmul hc dX8_find_219 ?_
        refine z_aload_n hc dX8_find_220 0 rfl ?_
        refine gfX8_283 hc dX8_find_221 ?_
        refine z_lmul hc dX8_find_224 ?_
        refine z_iload_n hc dX8_find_225 1 rfl ?_
        refine z_i2l hc dX8_find_226 ?_
        refine z_aload_n hc dX8_find_227 0 rfl ?_
        refine z_aload_n hc dX8_find_228 0 rfl ?_
        refine gfX8_277 hc dX8_find_229 ?_
        refine z_aload_n hc dX8_find_232 0 rfl ?_
        refine gfX8_280 hc dX8_find_233 ?_
        refine z_runVl (b0 := ad 0) (As := [.int (σ2.1 0 36), .int (σ2.1 0 37)]) (rest := [.long x2.toInt64, .long (((100 : Int64) * x4.toInt64) * (σ2.2 0 38)), .ref (ad 0)]) hc dX8_find_236 (fun _ _ h => tX8_at h) mpX8_at miX8_at kmX8_273 ⟨rfl, rfl, Nat.le_of_ble_eq_true rfl, Nat.le_of_ble_eq_true rfl⟩ ⟨Nat.le_refl _, Nat.le_refl _⟩ zcM_rc0 rfl (Nat.le_of_ble_eq_true rfl) (fun b3 σ4 => ?_)
        refine z_lmul hc dX8_find_239 ?_
        refine z_ladd hc dX8_find_240 ?_
        refine pfX8_312 hc dX8_find_241 (fun σ5 => ?_)
        refine z_aload_n hc dX8_find_244 0 rfl ?_
        refine z_aload_n hc dX8_find_245 0 rfl ?_
        refine gfX8_283 hc dX8_find_246 ?_
        refine pfX8_315 hc dX8_find_249 (fun σ6 => ?_)
        refine z_iconst (v := (1 : Int32)) hc dX8_find_252 (by decide) ?_
        exact z_zret hc hr dX8_find_253
    · refine z_aload_n hc dX8_find_183 0 rfl ?_
      refine gfX8_69 hc dX8_find_184 ?_
      refine z_iload hc dX8_find_187 3 rfl ?_
      refine z_aload_n hc dX8_find_189 0 rfl ?_
      refine gfX8_280 hc dX8_find_190 ?_
      refine z_iload hc dX8_find_193 3 rfl ?_
      refine z_iadd hc dX8_find_195 ?_
      refine z_iastore hc 20 (by decide) (fun _ _ => rfl) dX8_find_196 (fun σ7 => ?_)
      refine z_iinc (v := (x5 + (1 : Int32))) (lv' := [(5, .int (x5 + (1 : Int32))), (0, .ref (ad 0)), (2, .int x2), (4, .int x4)]) hc dX8_find_197 3 rfl rfl (by decide) rfl ?_
      refine z_goto (tgt := 174) hc dX8_find_200 (by decide) ?_
      refine z_sub [1, 2, 3, 0] rfl ?_
      exact ih _ _ _ _
set_option maxRecDepth 100000 in
set_option maxHeartbeats 4000000 in
theorem tX8_find_109 {p : Program} {l : Launch} {e : Env} {s : State} {m : MethodId} {args : Array Value} {below : List Frame} {meth : Method} {c : Code} {D : va_G} {ca : Nat → ClassId} {xa ad : Nat → Nat} {A : Nat → Prop} (hc : zCx p s m args meth c cX8_find 6 RX8 D ca xa A (zwM ad ca)) (hr : meth.sig.returnType = (some .boolean)) (N : Nat)   : ∀ (n : Nat) (x1 : Int32) (x2 : Int32) (x4 : Int32) (x5 : Int32) (σ : zSt), zGO p l e rmX8_find s m args below meth c 0 0 (zwM ad ca) D A 6 (zQ below D A (zwM ad ca) args s zI) (fX8_find_109 N n x1 x2 x4 x5 σ) σ 109 [(0, .ref (ad 0)), (1, .int x1), (2, .int x2), (4, .int x4), (5, .int x5)] [] := by
  intro n
  induction n with
  | zero =>
    intro x1 x2 x4 x5 σ
    exact z_none
  | succ n ih =>
    intro x1 x2 x4 x5 σ
    unfold fX8_find_109
    refine z_iload hc dX8_find_109 4 rfl ?_
    refine z_aload_n hc dX8_find_111 0 rfl ?_
    refine gfX8_280 hc dX8_find_112 ?_
    refine z_icmp_ge (tgt := 158) hc dX8_find_115 (by decide) ?_ ?_
    · refine z_aload_n hc dX8_find_158 0 rfl ?_
      refine z_aload_n hc dX8_find_159 0 rfl ?_
      refine gfX8_277 hc dX8_find_160 ?_
      refine z_aload_n hc dX8_find_163 0 rfl ?_
      refine gfX8_280 hc dX8_find_164 ?_
      refine z_lconst (v := (0 : Int64)) hc dX8_find_167 (by decide) ?_
      refine z_runVv (b0 := ad 0) (As := [.int (σ.1 0 36), .int (σ.1 0 37), .long (0 : Int64)]) (rest := []) hc dX8_find_168 (fun _ _ h => tX8_put h) mpX8_put miX8_put kmX8_287 ⟨rfl, rfl, Nat.le_of_ble_eq_true rfl, Nat.le_of_ble_eq_true rfl⟩ ⟨Nat.le_refl _, Nat.le_refl _⟩ zcM_rc0 rfl (Nat.le_of_ble_eq_true rfl) (fun b1 σ2 => ?_)
      refine z_iconst (v := (0 : Int32)) hc dX8_find_171 (by decide) ?_
      refine z_istore (lv' := [(5, .int (0 : Int32)), (0, .ref (ad 0)), (1, .int x1), (2, .int x2), (4, .int x4)]) hc dX8_find_172 (by decide) rfl ?_
      refine z_sub [1, 3, 4, 0] rfl ?_
      exact tX8_find_174 hc hr N N _ _ _ _
    · refine z_aload_n hc dX8_find_118 0 rfl ?_
      refine z_aload_n hc dX8_find_119 0 rfl ?_
      refine gfX8_277 hc dX8_find_120 ?_
      refine z_iload hc dX8_find_123 4 rfl ?_
      refine z_iload_n hc dX8_find_125 2 rfl ?_
      refine z_ineg hc dX8_find_126 ?_
      refine z_iload_n hc dX8_find_127 1 rfl ?_
      refine z_iload hc dX8_find_128 4 rfl ?_
      refine z_iconst (v := (1 : Int32)) hc dX8_find_130 (by decide) ?_
      refine z_iadd hc dX8_find_131 ?_
      refine z_ishr hc dX8_find_132 ?_
      refine z_iconst (v := (1 : Int32)) hc dX8_find_133 (by decide) ?_
      refine z_iand hc dX8_find_134 ?_
      refine z_iload hc dX8_find_135 3 rfl ?_
      refine z_isub hc dX8_find_137 ?_
      refine z_imul hc dX8_find_138 ?_
      refine z_i2l hc dX8_find_139 ?_
      refine z_runVv (b0 := ad 0) (As := [.int (σ.1 0 36), .int x5, .long ((-x2) * (((x1 >>> ((x5 + (1 : Int32)) &&& 31)) &&& (1 : Int32)) - x4)).toInt64]) (rest := []) hc dX8_find_140 (fun _ _ h => tX8_put h) mpX8_put miX8_put kmX8_287 ⟨rfl, rfl, Nat.le_of_ble_eq_true rfl, Nat.le_of_ble_eq_true rfl⟩ ⟨Nat.le_refl _, Nat.le_refl _⟩ zcM_rc0 rfl (Nat.le_of_ble_eq_true rfl) (fun b3 σ4 => ?_)
      refine z_aload_n hc dX8_find_143 0 rfl ?_
      refine gfX8_72 hc dX8_find_144 ?_
      refine z_iload hc dX8_find_147 4 rfl ?_
      refine z_iload hc dX8_find_149 4 rfl ?_
      refine z_iastore hc 21 (by decide) (fun _ _ => rfl) dX8_find_151 (fun σ5 => ?_)
      refine z_iinc (v := (x5 + (1 : Int32))) (lv' := [(5, .int (x5 + (1 : Int32))), (0, .ref (ad 0)), (1, .int x1), (2, .int x2), (4, .int x4)]) hc dX8_find_152 4 rfl rfl (by decide) rfl ?_
      refine z_goto (tgt := 109) hc dX8_find_155 (by decide) ?_
      refine z_sub [1, 2, 3, 4, 0] rfl ?_
      exact ih _ _ _ _ _
set_option maxRecDepth 100000 in
set_option maxHeartbeats 4000000 in
theorem tX8_find_34 {p : Program} {l : Launch} {e : Env} {s : State} {m : MethodId} {args : Array Value} {below : List Frame} {meth : Method} {c : Code} {D : va_G} {ca : Nat → ClassId} {xa ad : Nat → Nat} {A : Nat → Prop} (hc : zCx p s m args meth c cX8_find 6 RX8 D ca xa A (zwM ad ca)) (hr : meth.sig.returnType = (some .boolean)) (N : Nat)   : ∀ (n : Nat) (x1 : Int32) (x2 : Int32) (x3 : Int32) (x4 : Int32) (σ : zSt), zGO p l e rmX8_find s m args below meth c 0 0 (zwM ad ca) D A 6 (zQ below D A (zwM ad ca) args s zI) (fX8_find_34 N n x1 x2 x3 x4 σ) σ 34 [(0, .ref (ad 0)), (1, .int x1), (2, .int x2), (3, .int x3), (4, .int x4)] [] := by
  intro n
  induction n with
  | zero =>
    intro x1 x2 x3 x4 σ
    exact z_none
  | succ n ih =>
    intro x1 x2 x3 x4 σ
    unfold fX8_find_34
    refine z_iload hc dX8_find_34 4 rfl ?_
    refine z_bipush (v := (6 : Int32)) hc dX8_find_36 (by decide) ?_
    refine z_icmp_ge (tgt := 101) hc dX8_find_38 (by decide) ?_ ?_
    · refine z_iload_n hc dX8_find_101 1 rfl ?_
      refine z_iconst (v := (1 : Int32)) hc dX8_find_102 (by decide) ?_
      refine z_iand hc dX8_find_103 ?_
      refine z_nm (fun v1 => ?_)
      refine z_istore (lv' := [(4, .int v1), (0, .ref (ad 0)), (1, .int x1), (2, .int x2), (3, .int x3)]) hc dX8_find_104 (by decide) rfl ?_
      refine z_iconst (v := (0 : Int32)) hc dX8_find_106 (by decide) ?_
      refine z_istore (lv' := [(5, .int (0 : Int32)), (4, .int v1), (0, .ref (ad 0)), (1, .int x1), (2, .int x2), (3, .int x3)]) hc dX8_find_107 (by decide) rfl ?_
      refine z_sub [2, 3, 4, 1, 0] rfl ?_
      exact tX8_find_109 hc hr N N _ _ _ _ _
    · refine z_aload_n hc dX8_find_41 0 rfl ?_
      refine gfX8_56 hc dX8_find_42 ?_
      refine z_iload hc dX8_find_45 4 rfl ?_
      refine z_zaload hc 16 (by decide) rfl dX8_find_47 (fun v2 => ?_)
      refine z_if_eq (tgt := 95) hc dX8_find_48 (by decide) ?_ ?_
      · refine z_iinc (v := (x4 + (1 : Int32))) (lv' := [(4, .int (x4 + (1 : Int32))), (0, .ref (ad 0)), (1, .int x1), (2, .int x2), (3, .int x3)]) hc dX8_find_95 4 rfl rfl (by decide) rfl ?_
        refine z_goto (tgt := 34) hc dX8_find_98 (by decide) ?_
        refine z_sub [1, 2, 3, 4, 0] rfl ?_
        exact ih _ _ _ _ _
      · refine z_aload_n hc dX8_find_51 0 rfl ?_
        refine z_iload hc dX8_find_52 4 rfl ?_
        refine z_iconst (v := (1 : Int32)) hc dX8_find_54 (by decide) ?_
        refine z_aload_n hc dX8_find_55 0 rfl ?_
        refine gfX8_62 hc dX8_find_56 ?_
        refine z_iload hc dX8_find_59 4 rfl ?_
        refine z_iaload hc 18 (by decide) rfl dX8_find_61 (fun v3 => ?_)
        refine z_runVv (b0 := ad 0) (As := [.int x4, .int (1 : Int32), .int v3]) (rest := []) hc dX8_find_62 (fun _ _ h => tX8_addRow h) mpX8_addRow miX8_addRow kmX8_304 ⟨rfl, rfl, Nat.le_of_ble_eq_true rfl, Nat.le_of_ble_eq_true rfl⟩ ⟨Nat.le_refl _, Nat.le_refl _⟩ zcM_rc0 rfl (Nat.le_of_ble_eq_true rfl) (fun b4 σ5 => ?_)
        refine z_aload_n hc dX8_find_65 0 rfl ?_
        refine z_iload hc dX8_find_66 4 rfl ?_
        refine z_iconst (v := (-1 : Int32)) hc dX8_find_68 (by decide) ?_
        refine z_iload hc dX8_find_69 4 rfl ?_
        refine z_iload_n hc dX8_find_71 3 rfl ?_
        refine z_icmp_ne (tgt := 85) hc dX8_find_72 (by decide) ?_ ?_
        · refine z_aload_n hc dX8_find_75 0 rfl ?_
          refine gfX8_62 hc dX8_find_76 ?_
          refine z_iload hc dX8_find_79 4 rfl ?_
          refine z_iaload hc 18 (by decide) rfl dX8_find_81 (fun v6 => ?_)
          refine z_goto (tgt := 92) hc dX8_find_82 (by decide) ?_
          exact tX8_find_92 hc hr N _ (ih) _ _ _ _ _ _ _ _
        · refine z_aload_n hc dX8_find_85 0 rfl ?_
          refine gfX8_59 hc dX8_find_86 ?_
          refine z_iload hc dX8_find_89 4 rfl ?_
          refine z_iaload hc 17 (by decide) rfl dX8_find_91 (fun v7 => ?_)
          exact tX8_find_92 hc hr N _ (ih) _ _ _ _ _ _ _ _
set_option maxRecDepth 100000 in
set_option maxHeartbeats 4000000 in
theorem tX8_find {l : Launch} {D : va_G} {ca : Nat → ClassId} {xa ad : Nat → Nat} {A : Nat → Prop} {N : Nat} {x1 : Int32} {x2 : Int32} {x3 : Int32} {σ : zSt} {a : Int32} {τ : zSt} (h : fX8_find N x1 x2 x3 σ = some (a, τ)) : zCt l yX8_find cX8_find 6 (some .boolean) rmX8_find D ca xa A (zwM ad ca) [.ref (ad 0), .int x1, .int x2, .int x3] σ (zI a) τ := by
  refine z_met (inj := zI) (lv := [(0, .ref (ad 0)), (1, .int x1), (2, .int x2), (3, .int x3)]) (by decide) (Nat.le_of_ble_eq_true rfl) rfl ?_ h
  intro p e s m args below meth c hc hr
  unfold fX8_find
  refine z_aload_n hc dX8_find_0 0 rfl ?_
  refine z_iconst (v := (0 : Int32)) hc dX8_find_1 (by decide) ?_
  refine pfX8_277 hc dX8_find_2 (fun σ1 => ?_)
  refine z_aload_n hc dX8_find_5 0 rfl ?_
  refine z_iconst (v := (1 : Int32)) hc dX8_find_6 (by decide) ?_
  refine z_aload_n hc dX8_find_7 0 rfl ?_
  refine gfX8_270 hc dX8_find_8 ?_
  refine z_ishl hc dX8_find_11 ?_
  refine z_iconst (v := (1 : Int32)) hc dX8_find_12 (by decide) ?_
  refine z_isub hc dX8_find_13 ?_
  refine pfX8_280 hc dX8_find_14 (fun σ2 => ?_)
  refine z_aload_n hc dX8_find_17 0 rfl ?_
  refine z_lconst (v := (1 : Int64)) hc dX8_find_18 (by decide) ?_
  refine pfX8_283 hc dX8_find_19 (fun σ3 => ?_)
  refine z_aload_n hc dX8_find_22 0 rfl ?_
  refine z_ldc hc dX8_find_23 kcX8_114 ?_
  refine z_iconst (v := (1 : Int32)) hc dX8_find_25 (by decide) ?_
  refine z_bipush (v := (100 : Int32)) hc dX8_find_26 (by decide) ?_
  refine z_runVv (b0 := ad 0) (As := [.int (-1000000 : Int32), .int (1 : Int32), .int (100 : Int32)]) (rest := []) hc dX8_find_28 (fun _ _ h => tX8_addRow h) mpX8_addRow miX8_addRow kmX8_304 ⟨rfl, rfl, Nat.le_of_ble_eq_true rfl, Nat.le_of_ble_eq_true rfl⟩ ⟨Nat.le_refl _, Nat.le_refl _⟩ zcM_rc0 rfl (Nat.le_of_ble_eq_true rfl) (fun b4 σ5 => ?_)
  refine z_iconst (v := (0 : Int32)) hc dX8_find_31 (by decide) ?_
  refine z_istore (lv' := [(4, .int (0 : Int32)), (0, .ref (ad 0)), (1, .int x1), (2, .int x2), (3, .int x3)]) hc dX8_find_32 (by decide) rfl ?_
  refine z_sub [1, 2, 3, 4, 0] rfl ?_
  exact tX8_find_34 hc hr N N _ _ _ _ _
set_option maxRecDepth 100000 in
set_option maxHeartbeats 4000000 in
theorem tX8_agree {l : Launch} {D : va_G} {ca : Nat → ClassId} {xa ad : Nat → Nat} {A : Nat → Prop} {N : Nat}  {σ : zSt} {a : Int32} {τ : zSt} (h : fX8_agree N σ = some (a, τ)) : zCt l yX8_agree cX8_agree 1 (some .int) rmX8_agree D ca xa A (zwM ad ca) [.ref (ad 0)] σ (zI a) τ := by
  refine z_met (inj := zI) (lv := [(0, .ref (ad 0))]) (by decide) (Nat.le_of_ble_eq_true rfl) rfl ?_ h
  intro p e s m args below meth c hc hr
  unfold fX8_agree
  refine z_aload_n hc dX8_agree_0 0 rfl ?_
  refine z_iconst (v := (0 : Int32)) hc dX8_agree_1 (by decide) ?_
  refine pfX8_78 hc dX8_agree_2 (fun σ1 => ?_)
  refine z_aload_n hc dX8_agree_5 0 rfl ?_
  refine z_iconst (v := (0 : Int32)) hc dX8_agree_6 (by decide) ?_
  refine z_iconst (v := (1 : Int32)) hc dX8_agree_7 (by decide) ?_
  refine z_ldc hc dX8_agree_8 kcX8_114 ?_
  refine z_runVi (b0 := ad 0) (As := [.int (0 : Int32), .int (1 : Int32), .int (-1000000 : Int32)]) (rest := []) hc dX8_agree_10 (fun _ _ h => tX8_find h) mpX8_find miX8_find kmX8_318 ⟨rfl, rfl, Nat.le_of_ble_eq_true rfl, Nat.le_of_ble_eq_true rfl⟩ ⟨Nat.le_refl _, Nat.le_refl _⟩ zcM_rc0 rfl (Nat.le_of_ble_eq_true rfl) (fun b2 σ3 => ?_)
  refine z_if_eq (tgt := 20) hc dX8_agree_13 (by decide) ?_ ?_
  · refine z_iconst (v := (0 : Int32)) hc dX8_agree_20 (by decide) ?_
    exact z_iret hc hr dX8_agree_21
  · refine z_iconst (v := (1 : Int32)) hc dX8_agree_16 (by decide) ?_
    refine z_goto (tgt := 21) hc dX8_agree_17 (by decide) ?_
    exact z_iret hc hr dX8_agree_21
set_option maxRecDepth 100000 in
set_option maxHeartbeats 4000000 in
theorem tX6_worldsShowing_60 {p : Program} {l : Launch} {e : Env} {s : State} {m : MethodId} {args : Array Value} {below : List Frame} {meth : Method} {c : Code} {D : va_G} {ca : Nat → ClassId} {xa ad : Nat → Nat} {A : Nat → Prop} (hc : zCx p s m args meth c cX6_worldsShowing 8 RX6 D ca xa A (zwC ad ca)) (hr : meth.sig.returnType = (some .int)) (N : Nat) (k43 : Int32 → Int32 → Int32 → Int32 → zSt → Option (Int32 × zSt)) (hk43 : ∀ (x2 : Int32) (x3 : Int32) (x4 : Int32) (x5 : Int32) (σ : zSt), zGO p l e rmX6_worldsShowing s m args below meth c 0 0 (zwC ad ca) D A 8 (zQ below D A (zwC ad ca) args s zI) (k43 x2 x3 x4 x5 σ) σ 43 [(0, .ref (ad 23)), (1, .ref (ad 7)), (2, .int x2), (3, .int x3), (4, .int x4), (5, .int x5)] []) : ∀ (n : Nat) (x2 : Int32) (x3 : Int32) (x4 : Int32) (x5 : Int32) (x6 : Int32) (x7 : Int32) (σ : zSt), zGO p l e rmX6_worldsShowing s m args below meth c 0 0 (zwC ad ca) D A 8 (zQ below D A (zwC ad ca) args s zI) (fX6_worldsShowing_60 N k43 n x2 x3 x4 x5 x6 x7 σ) σ 60 [(0, .ref (ad 23)), (1, .ref (ad 7)), (2, .int x2), (3, .int x3), (4, .int x4), (5, .int x5), (6, .int x6), (7, .int x7)] [] := by
  intro n
  induction n with
  | zero =>
    intro x2 x3 x4 x5 x6 x7 σ
    exact z_none
  | succ n ih =>
    intro x2 x3 x4 x5 x6 x7 σ
    unfold fX6_worldsShowing_60
    refine z_iload hc dX6_worldsShowing_60 7 rfl ?_
    refine z_aload_n hc dX6_worldsShowing_62 0 rfl ?_
    refine gfX6_34 hc dX6_worldsShowing_63 ?_
    refine z_icmp_ge (tgt := 95) hc dX6_worldsShowing_66 (by decide) ?_ ?_
    · refine z_iload hc dX6_worldsShowing_95 4 rfl ?_
      refine z_aload_n hc dX6_worldsShowing_97 1 rfl ?_
      refine z_iload hc dX6_worldsShowing_98 6 rfl ?_
      refine z_iconst (v := (0 : Int32)) hc dX6_worldsShowing_100 (by decide) ?_
      refine z_runVNi (b0 := ad 7) (As := [.int x6, .int (0 : Int32)]) (rest := [.int x4]) hc dX6_worldsShowing_101 (fun _ _ h => tX2_spread h) mpX2_spread miX2_spread kmX6_48 ⟨rfl, rfl, Nat.le_of_ble_eq_true rfl, Nat.le_of_ble_eq_true rfl⟩ ⟨Nat.le_refl _, Nat.le_refl _⟩ zcC_rc7 rfl (Nat.le_of_ble_eq_true rfl) (fun b1 σ2 => ?_)
      refine z_iload_n hc dX6_worldsShowing_104 2 rfl ?_
      refine z_runSNi (As := [.int b1, .int x2]) (rest := [.int x4]) hc dX6_worldsShowing_105 (fun _ _ h => tX7_bitAt h) mpX7_bitAt miX7_bitAt kmX6_44 ⟨rfl, rfl, Nat.le_of_ble_eq_true rfl, Nat.le_of_ble_eq_true rfl⟩ ⟨Nat.le_refl _, Nat.le_refl _⟩ rfl (Nat.le_of_ble_eq_true rfl) (fun b3 σ4 => ?_)
      refine z_iload hc dX6_worldsShowing_108 5 rfl ?_
      refine z_ishl hc dX6_worldsShowing_110 ?_
      refine z_ior hc dX6_worldsShowing_111 ?_
      refine z_nm (fun v5 => ?_)
      refine z_istore (lv' := [(4, .int v5), (0, .ref (ad 23)), (1, .ref (ad 7)), (2, .int x2), (3, .int x3), (5, .int x5), (6, .int x6), (7, .int x7)]) hc dX6_worldsShowing_112 (by decide) rfl ?_
      refine z_iinc (v := (x5 + (1 : Int32))) (lv' := [(5, .int (x5 + (1 : Int32))), (4, .int v5), (0, .ref (ad 23)), (1, .ref (ad 7)), (2, .int x2), (3, .int x3), (6, .int x6), (7, .int x7)]) hc dX6_worldsShowing_114 5 rfl rfl (by decide) rfl ?_
      refine z_goto (tgt := 43) hc dX6_worldsShowing_117 (by decide) ?_
      refine z_sub [2, 3, 4, 5, 1, 0] rfl ?_
      exact hk43 _ _ _ _ _
    · refine z_iload hc dX6_worldsShowing_69 6 rfl ?_
      refine z_iload hc dX6_worldsShowing_71 5 rfl ?_
      refine z_iload hc dX6_worldsShowing_73 7 rfl ?_
      refine z_runSNi (As := [.int x5, .int x7]) (rest := [.int x6]) hc dX6_worldsShowing_75 (fun _ _ h => tX7_bitAt h) mpX7_bitAt miX7_bitAt kmX6_44 ⟨rfl, rfl, Nat.le_of_ble_eq_true rfl, Nat.le_of_ble_eq_true rfl⟩ ⟨Nat.le_refl _, Nat.le_refl _⟩ rfl (Nat.le_of_ble_eq_true rfl) (fun b6 σ7 => ?_)
      refine z_aload_n hc dX6_worldsShowing_78 0 rfl ?_
      refine gfX6_11 hc dX6_worldsShowing_79 ?_
      refine z_iload hc dX6_worldsShowing_82 7 rfl ?_
      refine z_iaload hc 24 (by decide) rfl dX6_worldsShowing_84 (fun v8 => ?_)
      refine z_ishl hc dX6_worldsShowing_85 ?_
      refine z_ior hc dX6_worldsShowing_86 ?_
      refine z_nm (fun v9 => ?_)
      refine z_istore (lv' := [(6, .int v9), (0, .ref (ad 23)), (1, .ref (ad 7)), (2, .int x2), (3, .int x3), (4, .int x4), (5, .int x5), (7, .int x7)]) hc dX6_worldsShowing_87 (by decide) rfl ?_
      refine z_iinc (v := (x7 + (1 : Int32))) (lv' := [(7, .int (x7 + (1 : Int32))), (6, .int v9), (0, .ref (ad 23)), (1, .ref (ad 7)), (2, .int x2), (3, .int x3), (4, .int x4), (5, .int x5)]) hc dX6_worldsShowing_89 7 rfl rfl (by decide) rfl ?_
      refine z_goto (tgt := 60) hc dX6_worldsShowing_92 (by decide) ?_
      refine z_sub [2, 3, 4, 5, 6, 7, 1, 0] rfl ?_
      exact ih _ _ _ _ _ _ _
set_option maxRecDepth 100000 in
set_option maxHeartbeats 4000000 in
theorem tX6_worldsShowing_43 {p : Program} {l : Launch} {e : Env} {s : State} {m : MethodId} {args : Array Value} {below : List Frame} {meth : Method} {c : Code} {D : va_G} {ca : Nat → ClassId} {xa ad : Nat → Nat} {A : Nat → Prop} (hc : zCx p s m args meth c cX6_worldsShowing 8 RX6 D ca xa A (zwC ad ca)) (hr : meth.sig.returnType = (some .int)) (N : Nat)   : ∀ (n : Nat) (x2 : Int32) (x3 : Int32) (x4 : Int32) (x5 : Int32) (σ : zSt), zGO p l e rmX6_worldsShowing s m args below meth c 0 0 (zwC ad ca) D A 8 (zQ below D A (zwC ad ca) args s zI) (fX6_worldsShowing_43 N n x2 x3 x4 x5 σ) σ 43 [(0, .ref (ad 23)), (1, .ref (ad 7)), (2, .int x2), (3, .int x3), (4, .int x4), (5, .int x5)] [] := by
  intro n
  induction n with
  | zero =>
    intro x2 x3 x4 x5 σ
    exact z_none
  | succ n ih =>
    intro x2 x3 x4 x5 σ
    unfold fX6_worldsShowing_43
    refine z_iload hc dX6_worldsShowing_43 5 rfl ?_
    refine z_iconst (v := (1 : Int32)) hc dX6_worldsShowing_45 (by decide) ?_
    refine z_aload_n hc dX6_worldsShowing_46 0 rfl ?_
    refine gfX6_34 hc dX6_worldsShowing_47 ?_
    refine z_ishl hc dX6_worldsShowing_50 ?_
    refine z_icmp_ge (tgt := 120) hc dX6_worldsShowing_51 (by decide) ?_ ?_
    · refine z_iload hc dX6_worldsShowing_120 4 rfl ?_
      exact z_iret hc hr dX6_worldsShowing_122
    · refine z_iload_n hc dX6_worldsShowing_54 3 rfl ?_
      refine z_istore (lv' := [(6, .int x3), (0, .ref (ad 23)), (1, .ref (ad 7)), (2, .int x2), (3, .int x3), (4, .int x4), (5, .int x5)]) hc dX6_worldsShowing_55 (by decide) rfl ?_
      refine z_iconst (v := (0 : Int32)) hc dX6_worldsShowing_57 (by decide) ?_
      refine z_istore (lv' := [(7, .int (0 : Int32)), (6, .int x3), (0, .ref (ad 23)), (1, .ref (ad 7)), (2, .int x2), (3, .int x3), (4, .int x4), (5, .int x5)]) hc dX6_worldsShowing_58 (by decide) rfl ?_
      refine z_sub [2, 3, 4, 5, 6, 7, 1, 0] rfl ?_
      exact tX6_worldsShowing_60 hc hr N _ (ih) N _ _ _ _ _ _ _
set_option maxRecDepth 100000 in
set_option maxHeartbeats 4000000 in
theorem tX6_worldsShowing_8 {p : Program} {l : Launch} {e : Env} {s : State} {m : MethodId} {args : Array Value} {below : List Frame} {meth : Method} {c : Code} {D : va_G} {ca : Nat → ClassId} {xa ad : Nat → Nat} {A : Nat → Prop} (hc : zCx p s m args meth c cX6_worldsShowing 8 RX6 D ca xa A (zwC ad ca)) (hr : meth.sig.returnType = (some .int)) (N : Nat)   : ∀ (n : Nat) (x2 : Int32) (x3 : Int32) (x4 : Int32) (σ : zSt), zGO p l e rmX6_worldsShowing s m args below meth c 0 0 (zwC ad ca) D A 8 (zQ below D A (zwC ad ca) args s zI) (fX6_worldsShowing_8 N n x2 x3 x4 σ) σ 8 [(0, .ref (ad 23)), (1, .ref (ad 7)), (2, .int x2), (3, .int x3), (4, .int x4)] [] := by
  intro n
  induction n with
  | zero =>
    intro x2 x3 x4 σ
    exact z_none
  | succ n ih =>
    intro x2 x3 x4 σ
    unfold fX6_worldsShowing_8
    refine z_iload hc dX6_worldsShowing_8 4 rfl ?_
    refine z_aload_n hc dX6_worldsShowing_10 0 rfl ?_
    refine gfX6_34 hc dX6_worldsShowing_11 ?_
    refine z_icmp_ge (tgt := 37) hc dX6_worldsShowing_14 (by decide) ?_ ?_
    · refine z_iconst (v := (0 : Int32)) hc dX6_worldsShowing_37 (by decide) ?_
      refine z_istore (lv' := [(4, .int (0 : Int32)), (0, .ref (ad 23)), (1, .ref (ad 7)), (2, .int x2), (3, .int x3)]) hc dX6_worldsShowing_38 (by decide) rfl ?_
      refine z_iconst (v := (0 : Int32)) hc dX6_worldsShowing_40 (by decide) ?_
      refine z_istore (lv' := [(5, .int (0 : Int32)), (4, .int (0 : Int32)), (0, .ref (ad 23)), (1, .ref (ad 7)), (2, .int x2), (3, .int x3)]) hc dX6_worldsShowing_41 (by decide) rfl ?_
      refine z_sub [2, 3, 4, 5, 1, 0] rfl ?_
      exact tX6_worldsShowing_43 hc hr N N _ _ _ _ _
    · refine z_iload_n hc dX6_worldsShowing_17 3 rfl ?_
      refine z_iconst (v := (1 : Int32)) hc dX6_worldsShowing_18 (by decide) ?_
      refine z_aload_n hc dX6_worldsShowing_19 0 rfl ?_
      refine gfX6_11 hc dX6_worldsShowing_20 ?_
      refine z_iload hc dX6_worldsShowing_23 4 rfl ?_
      refine z_iaload hc 24 (by decide) rfl dX6_worldsShowing_25 (fun v1 => ?_)
      refine z_ishl hc dX6_worldsShowing_26 ?_
      refine z_iconst (v := (-1 : Int32)) hc dX6_worldsShowing_27 (by decide) ?_
      refine z_ixor hc dX6_worldsShowing_28 ?_
      refine z_iand hc dX6_worldsShowing_29 ?_
      refine z_nm (fun v2 => ?_)
      refine z_istore_n (lv' := [(3, .int v2), (0, .ref (ad 23)), (1, .ref (ad 7)), (2, .int x2), (4, .int x4)]) hc dX6_worldsShowing_30 rfl (by decide) rfl ?_
      refine z_iinc (v := (x4 + (1 : Int32))) (lv' := [(4, .int (x4 + (1 : Int32))), (3, .int v2), (0, .ref (ad 23)), (1, .ref (ad 7)), (2, .int x2)]) hc dX6_worldsShowing_31 4 rfl rfl (by decide) rfl ?_
      refine z_goto (tgt := 8) hc dX6_worldsShowing_34 (by decide) ?_
      refine z_sub [2, 3, 4, 1, 0] rfl ?_
      exact ih _ _ _ _
set_option maxRecDepth 100000 in
set_option maxHeartbeats 4000000 in
theorem tX6_worldsShowing {l : Launch} {D : va_G} {ca : Nat → ClassId} {xa ad : Nat → Nat} {A : Nat → Prop} {N : Nat} {x2 : Int32} {σ : zSt} {a : Int32} {τ : zSt} (h : fX6_worldsShowing N x2 σ = some (a, τ)) : zCt l yX6_worldsShowing cX6_worldsShowing 8 (some .int) rmX6_worldsShowing D ca xa A (zwC ad ca) [.ref (ad 23), .ref (ad 7), .int x2] σ (zI a) τ := by
  refine z_met (inj := zI) (lv := [(0, .ref (ad 23)), (1, .ref (ad 7)), (2, .int x2)]) (by decide) (Nat.le_of_ble_eq_true rfl) rfl ?_ h
  intro p e s m args below meth c hc hr
  unfold fX6_worldsShowing
  refine z_aload_n hc dX6_worldsShowing_0 1 rfl ?_
  refine z_runVNi (b0 := ad 7) (As := []) (rest := []) hc dX6_worldsShowing_1 (fun _ _ h => tX2_standing h) mpX2_standing miX2_standing kmX6_38 ⟨rfl, rfl, Nat.le_of_ble_eq_true rfl, Nat.le_of_ble_eq_true rfl⟩ ⟨Nat.le_refl _, Nat.le_refl _⟩ zcC_rc7 rfl (Nat.le_of_ble_eq_true rfl) (fun b1 σ2 => ?_)
  refine z_istore_n (lv' := [(3, .int b1), (0, .ref (ad 23)), (1, .ref (ad 7)), (2, .int x2)]) hc dX6_worldsShowing_4 rfl (by decide) rfl ?_
  refine z_iconst (v := (0 : Int32)) hc dX6_worldsShowing_5 (by decide) ?_
  refine z_istore (lv' := [(4, .int (0 : Int32)), (3, .int b1), (0, .ref (ad 23)), (1, .ref (ad 7)), (2, .int x2)]) hc dX6_worldsShowing_6 (by decide) rfl ?_
  refine z_sub [2, 3, 4, 1, 0] rfl ?_
  exact tX6_worldsShowing_8 hc hr N N _ _ _ _
set_option maxRecDepth 100000 in
set_option maxHeartbeats 4000000 in
theorem tX6_findMost {l : Launch} {D : va_G} {ca : Nat → ClassId} {xa ad : Nat → Nat} {A : Nat → Prop} {N : Nat} {x1 : Int32} {σ : zSt} {a : Int32} {τ : zSt} (h : fX6_findMost N x1 σ = some (a, τ)) : zCt l yX6_findMost cX6_findMost 2 (some .boolean) rmX6_findMost D ca xa A (zwC ad ca) [.ref (ad 23), .int x1] σ (zI a) τ := by
  refine z_met (inj := zI) (lv := [(0, .ref (ad 23)), (1, .int x1)]) (by decide) (Nat.le_of_ble_eq_true rfl) rfl ?_ h
  intro p e s m args below meth c hc hr
  unfold fX6_findMost
  refine z_aload_n hc dX6_findMost_0 0 rfl ?_
  refine z_aload_n hc dX6_findMost_1 0 rfl ?_
  refine z_runVi (b0 := ad 23) (As := []) (rest := [.ref (ad 23)]) hc dX6_findMost_2 (fun _ _ h => tX6_allWorlds h) mpX6_allWorlds miX6_allWorlds kmX6_55 ⟨rfl, rfl, Nat.le_of_ble_eq_true rfl, Nat.le_of_ble_eq_true rfl⟩ ⟨Nat.le_refl _, Nat.le_refl _⟩ zcC_rc23 rfl (Nat.le_of_ble_eq_true rfl) (fun b1 σ2 => ?_)
  refine z_iload_n hc dX6_findMost_5 1 rfl ?_
  refine z_iconst (v := (-1 : Int32)) hc dX6_findMost_6 (by decide) ?_
  refine z_ixor hc dX6_findMost_7 ?_
  refine z_iand hc dX6_findMost_8 ?_
  refine z_runVi (b0 := ad 23) (As := [.int (b1 &&& (x1 ^^^ (-1 : Int32)))]) (rest := []) hc dX6_findMost_9 (fun _ _ h => tX6_findLeast h) mpX6_findLeast miX6_findLeast kmX6_86 ⟨rfl, rfl, Nat.le_of_ble_eq_true rfl, Nat.le_of_ble_eq_true rfl⟩ ⟨Nat.le_refl _, Nat.le_refl _⟩ zcC_rc23 rfl (Nat.le_of_ble_eq_true rfl) (fun b3 σ4 => ?_)
  refine z_if_ne (tgt := 17) hc dX6_findMost_12 (by decide) ?_ ?_
  · refine z_iconst (v := (0 : Int32)) hc dX6_findMost_15 (by decide) ?_
    exact z_zret hc hr dX6_findMost_16
  · refine z_aload_n hc dX6_findMost_17 0 rfl ?_
    refine z_aload_n hc dX6_findMost_18 0 rfl ?_
    refine gfX6_90 hc dX6_findMost_19 ?_
    refine z_aload_n hc dX6_findMost_22 0 rfl ?_
    refine gfX6_93 hc dX6_findMost_23 ?_
    refine z_lsub hc dX6_findMost_26 ?_
    refine pfX6_93 hc dX6_findMost_27 (fun σ5 => ?_)
    refine z_iconst (v := (1 : Int32)) hc dX6_findMost_30 (by decide) ?_
    exact z_zret hc hr dX6_findMost_31
set_option maxRecDepth 100000 in
set_option maxHeartbeats 4000000 in
theorem tX7_odds_60 {p : Program} {l : Launch} {e : Env} {s : State} {m : MethodId} {args : Array Value} {below : List Frame} {meth : Method} {c : Code} {D : va_G} {ca : Nat → ClassId} {xa ad : Nat → Nat} {A : Nat → Prop} (hc : zCx p s m args meth c cX7_odds 5 RX7 D ca xa A (zwC ad ca)) (hr : meth.sig.returnType = (some .int)) (N : Nat)   (x2 : Int32) (s0 : Int32) (σ : zSt) : zGO p l e rmX7_odds s m args below meth c 0 0 (zwC ad ca) D A 5 (zQ below D A (zwC ad ca) args s zI) (fX7_odds_60 N x2 s0 σ) σ 60 [(0, .ref (ad 0)), (2, .int x2)] [.int s0] := by
  unfold fX7_odds_60
  refine z_istore (lv' := [(4, .int s0), (0, .ref (ad 0)), (2, .int x2)]) hc dX7_odds_60 (by decide) rfl ?_
  refine z_iload hc dX7_odds_62 0 rfl ?_
  refine z_if_ne (tgt := 70) hc dX7_odds_64 (by decide) ?_ ?_
  · refine z_ldc hc dX7_odds_67 kcX7_213 ?_
    exact z_iret hc hr dX7_odds_69
  · refine z_iload_n hc dX7_odds_70 2 rfl ?_
    refine z_iconst (v := (2 : Int32)) hc dX7_odds_71 (by decide) ?_
    refine z_irem hc dX7_odds_72 (fun v1 => ?_)
    refine z_if_ne (tgt := 86) hc dX7_odds_73 (by decide) ?_ ?_
    · refine z_aload_n hc dX7_odds_76 1 rfl ?_
      refine gfX7_40 hc dX7_odds_77 ?_
      refine gfX7_259 hc dX7_odds_80 ?_
      refine z_goto (tgt := 93) hc dX7_odds_83 (by decide) ?_
      refine z_l2i hc dX7_odds_93 ?_
      exact z_iret hc hr dX7_odds_94
    · refine z_aload_n hc dX7_odds_86 1 rfl ?_
      refine gfX7_40 hc dX7_odds_87 ?_
      refine gfX7_263 hc dX7_odds_90 ?_
      refine z_l2i hc dX7_odds_93 ?_
      exact z_iret hc hr dX7_odds_94
set_option maxRecDepth 100000 in
set_option maxHeartbeats 4000000 in
theorem tX7_odds {l : Launch} {D : va_G} {ca : Nat → ClassId} {xa ad : Nat → Nat} {A : Nat → Prop} {N : Nat} {x1 : Int32} {x2 : Int32} {σ : zSt} {a : Int32} {τ : zSt} (h : fX7_odds N x1 x2 σ = some (a, τ)) : zCt l yX7_odds cX7_odds 5 (some .int) rmX7_odds D ca xa A (zwC ad ca) [.ref (ad 0), .int x1, .int x2] σ (zI a) τ := by
  refine z_met (inj := zI) (lv := [(0, .ref (ad 0)), (1, .int x1), (2, .int x2)]) (by decide) (Nat.le_of_ble_eq_true rfl) rfl ?_ h
  intro p e s m args below meth c hc hr
  unfold fX7_odds
  refine z_aload_n hc dX7_odds_0 0 rfl ?_
  refine gfX7_26 hc dX7_odds_1 ?_
  refine z_iload_n hc dX7_odds_4 1 rfl ?_
  refine z_runVNi (b0 := ad 7) (As := [.int x1]) (rest := []) hc dX7_odds_5 (fun _ _ h => tX2_isClaim h) mpX2_isClaim miX2_isClaim kmX7_128 ⟨rfl, rfl, Nat.le_of_ble_eq_true rfl, Nat.le_of_ble_eq_true rfl⟩ ⟨Nat.le_refl _, Nat.le_refl _⟩ zcC_rc7 rfl (Nat.le_of_ble_eq_true rfl) (fun b1 σ2 => ?_)
  refine z_if_eq (tgt := 20) hc dX7_odds_8 (by decide) ?_ ?_
  · refine z_ldc hc dX7_odds_20 kcX7_66 ?_
    exact z_iret hc hr dX7_odds_22
  · refine z_iload_n hc dX7_odds_11 2 rfl ?_
    refine z_iconst (v := (0 : Int32)) hc dX7_odds_12 (by decide) ?_
    refine z_iconst (v := (3 : Int32)) hc dX7_odds_13 (by decide) ?_
    refine z_runSi (As := [.int x2, .int (0 : Int32), .int (3 : Int32)]) (rest := []) hc dX7_odds_14 (fun _ _ h => tX7_isWithin h) mpX7_isWithin miX7_isWithin kmX7_62 ⟨rfl, rfl, Nat.le_of_ble_eq_true rfl, Nat.le_of_ble_eq_true rfl⟩ ⟨Nat.le_refl _, Nat.le_refl _⟩ rfl (Nat.le_of_ble_eq_true rfl) (fun b3 σ4 => ?_)
    refine z_if_ne (tgt := 23) hc dX7_odds_17 (by decide) ?_ ?_
    · refine z_ldc hc dX7_odds_20 kcX7_66 ?_
      exact z_iret hc hr dX7_odds_22
    · refine z_aload_n hc dX7_odds_23 0 rfl ?_
      refine gfX7_40 hc dX7_odds_24 ?_
      refine z_aload_n hc dX7_odds_27 0 rfl ?_
      refine gfX7_26 hc dX7_odds_28 ?_
      refine z_iload_n hc dX7_odds_31 1 rfl ?_
      refine z_runVNi (b0 := ad 23) (As := [.ref (ad 7), .int x1]) (rest := []) hc dX7_odds_32 (fun _ _ h => tX6_worldsShowing h) mpX6_worldsShowing miX6_worldsShowing kmX7_252 ⟨rfl, rfl, Nat.le_of_ble_eq_true rfl, Nat.le_of_ble_eq_true rfl⟩ ⟨Nat.le_refl _, Nat.le_refl _⟩ zcC_rc23 rfl (Nat.le_of_ble_eq_true rfl) (fun b5 σ6 => ?_)
      refine z_istore_n (lv' := [(3, .int b5), (0, .ref (ad 0)), (1, .int x1), (2, .int x2)]) hc dX7_odds_35 rfl (by decide) rfl ?_
      refine z_iload_n hc dX7_odds_36 3 rfl ?_
      refine z_iconst (v := (2 : Int32)) hc dX7_odds_37 (by decide) ?_
      refine z_icmp_ge (tgt := 52) hc dX7_odds_38 (by decide) ?_ ?_
      · refine z_aload_n hc dX7_odds_52 1 rfl ?_
        refine gfX7_40 hc dX7_odds_53 ?_
        refine z_iload_n hc dX7_odds_56 0 rfl ?_
        refine z_runVNi (b0 := ad 23) (As := [.int b5]) (rest := []) hc dX7_odds_57 (fun _ _ h => tX6_findMost h) mpX6_findMost miX6_findMost kmX7_256 ⟨rfl, rfl, Nat.le_of_ble_eq_true rfl, Nat.le_of_ble_eq_true rfl⟩ ⟨Nat.le_refl _, Nat.le_refl _⟩ zcC_rc23 rfl (Nat.le_of_ble_eq_true rfl) (fun b7 σ8 => ?_)
        refine z_sub [1, 3] rfl ?_
        exact tX7_odds_60 hc hr N _ _ _
      · refine z_aload_n hc dX7_odds_41 1 rfl ?_
        refine gfX7_40 hc dX7_odds_42 ?_
        refine z_iload_n hc dX7_odds_45 0 rfl ?_
        refine z_runVNi (b0 := ad 23) (As := [.int b5]) (rest := []) hc dX7_odds_46 (fun _ _ h => tX6_findLeast h) mpX6_findLeast miX6_findLeast kmX7_249 ⟨rfl, rfl, Nat.le_of_ble_eq_true rfl, Nat.le_of_ble_eq_true rfl⟩ ⟨Nat.le_refl _, Nat.le_refl _⟩ zcC_rc23 rfl (Nat.le_of_ble_eq_true rfl) (fun b9 σ10 => ?_)
        refine z_goto (tgt := 60) hc dX7_odds_49 (by decide) ?_
        refine z_sub [1, 3] rfl ?_
        exact tX7_odds_60 hc hr N _ _ _
set_option maxRecDepth 100000 in
set_option maxHeartbeats 4000000 in
theorem tX8_worldsOf_93 {p : Program} {l : Launch} {e : Env} {s : State} {m : MethodId} {args : Array Value} {below : List Frame} {meth : Method} {c : Code} {D : va_G} {ca : Nat → ClassId} {xa ad : Nat → Nat} {A : Nat → Prop} (hc : zCx p s m args meth c cX8_worldsOf 7 RX8 D ca xa A (zwM ad ca)) (hr : meth.sig.returnType = (some .int)) (N : Nat) (k34 : Int32 → Int32 → Int32 → Int32 → zSt → Option (Int32 × zSt)) (k58 : Int32 → Int32 → Int32 → Int32 → Int32 → Int32 → zSt → Option (Int32 × zSt)) (hk34 : ∀ (x1 : Int32) (x2 : Int32) (x3 : Int32) (x4 : Int32) (σ : zSt), zGO p l e rmX8_worldsOf s m args below meth c 0 0 (zwM ad ca) D A 7 (zQ below D A (zwM ad ca) args s zI) (k34 x1 x2 x3 x4 σ) σ 34 [(0, .ref (ad 0)), (1, .int x1), (2, .int x2), (3, .int x3), (4, .int x4)] []) (hk58 : ∀ (x1 : Int32) (x2 : Int32) (x3 : Int32) (x4 : Int32) (x5 : Int32) (x6 : Int32) (σ : zSt), zGO p l e rmX8_worldsOf s m args below meth c 0 0 (zwM ad ca) D A 7 (zQ below D A (zwM ad ca) args s zI) (k58 x1 x2 x3 x4 x5 x6 σ) σ 58 [(0, .ref (ad 0)), (1, .int x1), (2, .int x2), (3, .int x3), (4, .int x4), (5, .int x5), (6, .int x6)] []) (x1 : Int32) (x2 : Int32) (x3 : Int32) (x4 : Int32) (x6 : Int32) (s0 : Int32) (s1 : Int32) (σ : zSt) : zGO p l e rmX8_worldsOf s m args below meth c 0 0 (zwM ad ca) D A 7 (zQ below D A (zwM ad ca) args s zI) (fX8_worldsOf_93 N k34 k58 x1 x2 x3 x4 x6 s0 s1 σ) σ 93 [(0, .ref (ad 0)), (1, .int x1), (2, .int x2), (3, .int x3), (4, .int x4), (6, .int x6)] [.int s0, .int s1] := by
  unfold fX8_worldsOf_93
  refine z_ior hc dX8_worldsOf_93 ?_
  refine z_nm (fun v1 => ?_)
  refine z_istore (lv' := [(5, .int v1), (0, .ref (ad 0)), (1, .int x1), (2, .int x2), (3, .int x3), (4, .int x4), (6, .int x6)]) hc dX8_worldsOf_94 (by decide) rfl ?_
  refine z_iinc (v := (x6 + (1 : Int32))) (lv' := [(6, .int (x6 + (1 : Int32))), (5, .int v1), (0, .ref (ad 0)), (1, .int x1), (2, .int x2), (3, .int x3), (4, .int x4)]) hc dX8_worldsOf_96 6 rfl rfl (by decide) rfl ?_
  refine z_goto (tgt := 58) hc dX8_worldsOf_99 (by decide) ?_
  refine z_sub [2, 3, 4, 5, 6, 1, 0] rfl ?_
  exact hk58 _ _ _ _ _ _ _
set_option maxRecDepth 100000 in
set_option maxHeartbeats 4000000 in
theorem tX8_worldsOf_127 {p : Program} {l : Launch} {e : Env} {s : State} {m : MethodId} {args : Array Value} {below : List Frame} {meth : Method} {c : Code} {D : va_G} {ca : Nat → ClassId} {xa ad : Nat → Nat} {A : Nat → Prop} (hc : zCx p s m args meth c cX8_worldsOf 7 RX8 D ca xa A (zwM ad ca)) (hr : meth.sig.returnType = (some .int)) (N : Nat) (k34 : Int32 → Int32 → Int32 → Int32 → zSt → Option (Int32 × zSt)) (hk34 : ∀ (x1 : Int32) (x2 : Int32) (x3 : Int32) (x4 : Int32) (σ : zSt), zGO p l e rmX8_worldsOf s m args below meth c 0 0 (zwM ad ca) D A 7 (zQ below D A (zwM ad ca) args s zI) (k34 x1 x2 x3 x4 σ) σ 34 [(0, .ref (ad 0)), (1, .int x1), (2, .int x2), (3, .int x3), (4, .int x4)] []) (x1 : Int32) (x2 : Int32) (x4 : Int32) (s0 : Int32) (s1 : Int32) (σ : zSt) : zGO p l e rmX8_worldsOf s m args below meth c 0 0 (zwM ad ca) D A 7 (zQ below D A (zwM ad ca) args s zI) (fX8_worldsOf_127 N k34 x1 x2 x4 s0 s1 σ) σ 127 [(0, .ref (ad 0)), (1, .int x1), (2, .int x2), (4, .int x4)] [.int s0, .int s1] := by
  unfold fX8_worldsOf_127
  refine z_ior hc dX8_worldsOf_127 ?_
  refine z_nm (fun v1 => ?_)
  refine z_istore_n (lv' := [(3, .int v1), (0, .ref (ad 0)), (1, .int x1), (2, .int x2), (4, .int x4)]) hc dX8_worldsOf_128 rfl (by decide) rfl ?_
  refine z_iinc (v := (x4 + (1 : Int32))) (lv' := [(4, .int (x4 + (1 : Int32))), (3, .int v1), (0, .ref (ad 0)), (1, .int x1), (2, .int x2)]) hc dX8_worldsOf_129 4 rfl rfl (by decide) rfl ?_
  refine z_goto (tgt := 34) hc dX8_worldsOf_132 (by decide) ?_
  refine z_sub [2, 3, 4, 1, 0] rfl ?_
  exact hk34 _ _ _ _ _
set_option maxRecDepth 100000 in
set_option maxHeartbeats 4000000 in
theorem tX8_worldsOf_58 {p : Program} {l : Launch} {e : Env} {s : State} {m : MethodId} {args : Array Value} {below : List Frame} {meth : Method} {c : Code} {D : va_G} {ca : Nat → ClassId} {xa ad : Nat → Nat} {A : Nat → Prop} (hc : zCx p s m args meth c cX8_worldsOf 7 RX8 D ca xa A (zwM ad ca)) (hr : meth.sig.returnType = (some .int)) (N : Nat) (k34 : Int32 → Int32 → Int32 → Int32 → zSt → Option (Int32 × zSt)) (hk34 : ∀ (x1 : Int32) (x2 : Int32) (x3 : Int32) (x4 : Int32) (σ : zSt), zGO p l e rmX8_worldsOf s m args below meth c 0 0 (zwM ad ca) D A 7 (zQ below D A (zwM ad ca) args s zI) (k34 x1 x2 x3 x4 σ) σ 34 [(0, .ref (ad 0)), (1, .int x1), (2, .int x2), (3, .int x3), (4, .int x4)] []) : ∀ (n : Nat) (x1 : Int32) (x2 : Int32) (x3 : Int32) (x4 : Int32) (x5 : Int32) (x6 : Int32) (σ : zSt), zGO p l e rmX8_worldsOf s m args below meth c 0 0 (zwM ad ca) D A 7 (zQ below D A (zwM ad ca) args s zI) (fX8_worldsOf_58 N k34 n x1 x2 x3 x4 x5 x6 σ) σ 58 [(0, .ref (ad 0)), (1, .int x1), (2, .int x2), (3, .int x3), (4, .int x4), (5, .int x5), (6, .int x6)] [] := by
  intro n
  induction n with
  | zero =>
    intro x1 x2 x3 x4 x5 x6 σ
    exact z_none
  | succ n ih =>
    intro x1 x2 x3 x4 x5 x6 σ
    unfold fX8_worldsOf_58
    refine z_iload hc dX8_worldsOf_58 6 rfl ?_
    refine z_aload_n hc dX8_worldsOf_60 0 rfl ?_
    refine gfX8_270 hc dX8_worldsOf_61 ?_
    refine z_icmp_ge (tgt := 102) hc dX8_worldsOf_64 (by decide) ?_ ?_
    · refine z_iload_n hc dX8_worldsOf_102 3 rfl ?_
      refine z_aload_n hc dX8_worldsOf_103 0 rfl ?_
      refine z_iload hc dX8_worldsOf_104 5 rfl ?_
      refine z_ldc hc dX8_worldsOf_106 kcX8_114 ?_
      refine z_runVi (b0 := ad 0) (As := [.int x5, .int (-1000000 : Int32)]) (rest := [.int x3]) hc dX8_worldsOf_108 (fun _ _ h => tX8_shownBy h) mpX8_shownBy miX8_shownBy kmX8_228 ⟨rfl, rfl, Nat.le_of_ble_eq_true rfl, Nat.le_of_ble_eq_true rfl⟩ ⟨Nat.le_refl _, Nat.le_refl _⟩ zcM_rc0 rfl (Nat.le_of_ble_eq_true rfl) (fun b1 σ2 => ?_)
      refine z_iload_n hc dX8_worldsOf_111 1 rfl ?_
      refine z_ishr hc dX8_worldsOf_112 ?_
      refine z_iconst (v := (1 : Int32)) hc dX8_worldsOf_113 (by decide) ?_
      refine z_iand hc dX8_worldsOf_114 ?_
      refine z_iconst (v := (1 : Int32)) hc dX8_worldsOf_115 (by decide) ?_
      refine z_icmp_ne (tgt := 126) hc dX8_worldsOf_116 (by decide) ?_ ?_
      · refine z_iconst (v := (1 : Int32)) hc dX8_worldsOf_119 (by decide) ?_
        refine z_iload hc dX8_worldsOf_120 4 rfl ?_
        refine z_ishl hc dX8_worldsOf_122 ?_
        refine z_goto (tgt := 127) hc dX8_worldsOf_123 (by decide) ?_
        refine z_sub [0, 1, 2, 4] rfl ?_
        exact tX8_worldsOf_127 hc hr N _ hk34 _ _ _ _ _ _
      · refine z_iconst (v := (0 : Int32)) hc dX8_worldsOf_126 (by decide) ?_
        refine z_sub [0, 1, 2, 4] rfl ?_
        exact tX8_worldsOf_127 hc hr N _ hk34 _ _ _ _ _ _
    · refine z_iload hc dX8_worldsOf_67 5 rfl ?_
      refine z_iload hc dX8_worldsOf_69 4 rfl ?_
      refine z_iload hc dX8_worldsOf_71 6 rfl ?_
      refine z_ishr hc dX8_worldsOf_73 ?_
      refine z_iconst (v := (1 : Int32)) hc dX8_worldsOf_74 (by decide) ?_
      refine z_iand hc dX8_worldsOf_75 ?_
      refine z_iconst (v := (1 : Int32)) hc dX8_worldsOf_76 (by decide) ?_
      refine z_icmp_ne (tgt := 92) hc dX8_worldsOf_77 (by decide) ?_ ?_
      · refine z_iconst (v := (1 : Int32)) hc dX8_worldsOf_80 (by decide) ?_
        refine z_aload_n hc dX8_worldsOf_81 0 rfl ?_
        refine gfX8_53 hc dX8_worldsOf_82 ?_
        refine z_iload hc dX8_worldsOf_85 6 rfl ?_
        refine z_iaload hc 15 (by decide) rfl dX8_worldsOf_87 (fun v3 => ?_)
        refine z_ishl hc dX8_worldsOf_88 ?_
        refine z_goto (tgt := 93) hc dX8_worldsOf_89 (by decide) ?_
        refine z_sub [0, 1, 2, 3, 4, 6] rfl ?_
        exact tX8_worldsOf_93 hc hr N _ _ hk34 (ih) _ _ _ _ _ _ _ _
      · refine z_iconst (v := (0 : Int32)) hc dX8_worldsOf_92 (by decide) ?_
        refine z_sub [0, 1, 2, 3, 4, 6] rfl ?_
        exact tX8_worldsOf_93 hc hr N _ _ hk34 (ih) _ _ _ _ _ _ _ _
set_option maxRecDepth 100000 in
set_option maxHeartbeats 4000000 in
theorem tX8_worldsOf_34 {p : Program} {l : Launch} {e : Env} {s : State} {m : MethodId} {args : Array Value} {below : List Frame} {meth : Method} {c : Code} {D : va_G} {ca : Nat → ClassId} {xa ad : Nat → Nat} {A : Nat → Prop} (hc : zCx p s m args meth c cX8_worldsOf 7 RX8 D ca xa A (zwM ad ca)) (hr : meth.sig.returnType = (some .int)) (N : Nat)   : ∀ (n : Nat) (x1 : Int32) (x2 : Int32) (x3 : Int32) (x4 : Int32) (σ : zSt), zGO p l e rmX8_worldsOf s m args below meth c 0 0 (zwM ad ca) D A 7 (zQ below D A (zwM ad ca) args s zI) (fX8_worldsOf_34 N n x1 x2 x3 x4 σ) σ 34 [(0, .ref (ad 0)), (1, .int x1), (2, .int x2), (3, .int x3), (4, .int x4)] [] := by
  intro n
  induction n with
  | zero =>
    intro x1 x2 x3 x4 σ
    exact z_none
  | succ n ih =>
    intro x1 x2 x3 x4 σ
    unfold fX8_worldsOf_34
    refine z_iload hc dX8_worldsOf_34 4 rfl ?_
    refine z_iconst (v := (1 : Int32)) hc dX8_worldsOf_36 (by decide) ?_
    refine z_aload_n hc dX8_worldsOf_37 0 rfl ?_
    refine gfX8_270 hc dX8_worldsOf_38 ?_
    refine z_ishl hc dX8_worldsOf_41 ?_
    refine z_icmp_ge (tgt := 135) hc dX8_worldsOf_42 (by decide) ?_ ?_
    · refine z_iload_n hc dX8_worldsOf_135 3 rfl ?_
      exact z_iret hc hr dX8_worldsOf_136
    · refine z_aload_n hc dX8_worldsOf_45 0 rfl ?_
      refine z_runVi (b0 := ad 0) (As := []) (rest := []) hc dX8_worldsOf_46 (fun _ _ h => tX8_standing h) mpX8_standing miX8_standing kmX8_225 ⟨rfl, rfl, Nat.le_of_ble_eq_true rfl, Nat.le_of_ble_eq_true rfl⟩ ⟨Nat.le_refl _, Nat.le_refl _⟩ zcM_rc0 rfl (Nat.le_of_ble_eq_true rfl) (fun b1 σ2 => ?_)
      refine z_iload_n hc dX8_worldsOf_49 2 rfl ?_
      refine z_iconst (v := (-1 : Int32)) hc dX8_worldsOf_50 (by decide) ?_
      refine z_ixor hc dX8_worldsOf_51 ?_
      refine z_iand hc dX8_worldsOf_52 ?_
      refine z_nm (fun v3 => ?_)
      refine z_istore (lv' := [(5, .int v3), (0, .ref (ad 0)), (1, .int x1), (2, .int x2), (3, .int x3), (4, .int x4)]) hc dX8_worldsOf_53 (by decide) rfl ?_
      refine z_iconst (v := (0 : Int32)) hc dX8_worldsOf_55 (by decide) ?_
      refine z_istore (lv' := [(6, .int (0 : Int32)), (5, .int v3), (0, .ref (ad 0)), (1, .int x1), (2, .int x2), (3, .int x3), (4, .int x4)]) hc dX8_worldsOf_56 (by decide) rfl ?_
      refine z_sub [2, 3, 4, 5, 6, 1, 0] rfl ?_
      exact tX8_worldsOf_58 hc hr N _ (ih) N _ _ _ _ _ _ _
set_option maxRecDepth 100000 in
set_option maxHeartbeats 4000000 in
theorem tX8_worldsOf_4 {p : Program} {l : Launch} {e : Env} {s : State} {m : MethodId} {args : Array Value} {below : List Frame} {meth : Method} {c : Code} {D : va_G} {ca : Nat → ClassId} {xa ad : Nat → Nat} {A : Nat → Prop} (hc : zCx p s m args meth c cX8_worldsOf 7 RX8 D ca xa A (zwM ad ca)) (hr : meth.sig.returnType = (some .int)) (N : Nat)   : ∀ (n : Nat) (x1 : Int32) (x2 : Int32) (x3 : Int32) (σ : zSt), zGO p l e rmX8_worldsOf s m args below meth c 0 0 (zwM ad ca) D A 7 (zQ below D A (zwM ad ca) args s zI) (fX8_worldsOf_4 N n x1 x2 x3 σ) σ 4 [(0, .ref (ad 0)), (1, .int x1), (2, .int x2), (3, .int x3)] [] := by
  intro n
  induction n with
  | zero =>
    intro x1 x2 x3 σ
    exact z_none
  | succ n ih =>
    intro x1 x2 x3 σ
    unfold fX8_worldsOf_4
    refine z_iload_n hc dX8_worldsOf_4 3 rfl ?_
    refine z_aload_n hc dX8_worldsOf_5 0 rfl ?_
    refine gfX8_270 hc dX8_worldsOf_6 ?_
    refine z_icmp_ge (tgt := 29) hc dX8_worldsOf_9 (by decide) ?_ ?_
    · refine z_iconst (v := (0 : Int32)) hc dX8_worldsOf_29 (by decide) ?_
      refine z_istore_n (lv' := [(3, .int (0 : Int32)), (0, .ref (ad 0)), (1, .int x1), (2, .int x2)]) hc dX8_worldsOf_30 rfl (by decide) rfl ?_
      refine z_iconst (v := (0 : Int32)) hc dX8_worldsOf_31 (by decide) ?_
      refine z_istore (lv' := [(4, .int (0 : Int32)), (3, .int (0 : Int32)), (0, .ref (ad 0)), (1, .int x1), (2, .int x2)]) hc dX8_worldsOf_32 (by decide) rfl ?_
      refine z_sub [2, 3, 4, 1, 0] rfl ?_
      exact tX8_worldsOf_34 hc hr N N _ _ _ _ _
    · refine z_iload_n hc dX8_worldsOf_12 2 rfl ?_
      refine z_iconst (v := (1 : Int32)) hc dX8_worldsOf_13 (by decide) ?_
      refine z_aload_n hc dX8_worldsOf_14 0 rfl ?_
      refine gfX8_53 hc dX8_worldsOf_15 ?_
      refine z_iload_n hc dX8_worldsOf_18 3 rfl ?_
      refine z_iaload hc 15 (by decide) rfl dX8_worldsOf_19 (fun v1 => ?_)
      refine z_ishl hc dX8_worldsOf_20 ?_
      refine z_ior hc dX8_worldsOf_21 ?_
      refine z_nm (fun v2 => ?_)
      refine z_istore_n (lv' := [(2, .int v2), (0, .ref (ad 0)), (1, .int x1), (3, .int x3)]) hc dX8_worldsOf_22 rfl (by decide) rfl ?_
      refine z_iinc (v := (x3 + (1 : Int32))) (lv' := [(3, .int (x3 + (1 : Int32))), (2, .int v2), (0, .ref (ad 0)), (1, .int x1)]) hc dX8_worldsOf_23 3 rfl rfl (by decide) rfl ?_
      refine z_goto (tgt := 4) hc dX8_worldsOf_26 (by decide) ?_
      refine z_sub [2, 3, 1, 0] rfl ?_
      exact ih _ _ _ _
set_option maxRecDepth 100000 in
set_option maxHeartbeats 4000000 in
theorem tX8_worldsOf {l : Launch} {D : va_G} {ca : Nat → ClassId} {xa ad : Nat → Nat} {A : Nat → Prop} {N : Nat} {x1 : Int32} {σ : zSt} {a : Int32} {τ : zSt} (h : fX8_worldsOf N x1 σ = some (a, τ)) : zCt l yX8_worldsOf cX8_worldsOf 7 (some .int) rmX8_worldsOf D ca xa A (zwM ad ca) [.ref (ad 0), .int x1] σ (zI a) τ := by
  refine z_met (inj := zI) (lv := [(0, .ref (ad 0)), (1, .int x1)]) (by decide) (Nat.le_of_ble_eq_true rfl) rfl ?_ h
  intro p e s m args below meth c hc hr
  unfold fX8_worldsOf
  refine z_iconst (v := (0 : Int32)) hc dX8_worldsOf_0 (by decide) ?_
  refine z_istore_n (lv' := [(2, .int (0 : Int32)), (0, .ref (ad 0)), (1, .int x1)]) hc dX8_worldsOf_1 rfl (by decide) rfl ?_
  refine z_iconst (v := (0 : Int32)) hc dX8_worldsOf_2 (by decide) ?_
  refine z_istore_n (lv' := [(3, .int (0 : Int32)), (2, .int (0 : Int32)), (0, .ref (ad 0)), (1, .int x1)]) hc dX8_worldsOf_3 rfl (by decide) rfl ?_
  refine z_sub [2, 3, 1, 0] rfl ?_
  exact tX8_worldsOf_4 hc hr N N _ _ _ _
set_option maxRecDepth 100000 in
set_option maxHeartbeats 4000000 in
theorem tX8_odds_112 {p : Program} {l : Launch} {e : Env} {s : State} {m : MethodId} {args : Array Value} {below : List Frame} {meth : Method} {c : Code} {D : va_G} {ca : Nat → ClassId} {xa ad : Nat → Nat} {A : Nat → Prop} (hc : zCx p s m args meth c cX8_odds 11 RX8 D ca xa A (zwM ad ca)) (hr : meth.sig.returnType = (some .int)) (N : Nat)   (y5 : Int64) (t0 : Int64) (σ : zSt) : zGO p l e rmX8_odds s m args below meth c 0 0 (zwM ad ca) D A 11 (zQ below D A (zwM ad ca) args s zI) (fX8_odds_112 N y5 t0 σ) σ 112 [(5, .long y5)] [.long t0] := by
  unfold fX8_odds_112
  refine z_lload hc dX8_odds_112 0 rfl ?_
  refine z_ldiv hc dX8_odds_114 (fun v1 => ?_)
  refine z_l2i hc dX8_odds_115 ?_
  exact z_iret hc hr dX8_odds_116
set_option maxRecDepth 100000 in
set_option maxHeartbeats 4000000 in
theorem tX8_odds_73 {p : Program} {l : Launch} {e : Env} {s : State} {m : MethodId} {args : Array Value} {below : List Frame} {meth : Method} {c : Code} {D : va_G} {ca : Nat → ClassId} {xa ad : Nat → Nat} {A : Nat → Prop} (hc : zCx p s m args meth c cX8_odds 11 RX8 D ca xa A (zwM ad ca)) (hr : meth.sig.returnType = (some .int)) (N : Nat)   : ∀ (n : Nat) (x2 : Int32) (y3 : Int64) (y5 : Int64) (y7 : Int64) (σ : zSt), zGO p l e rmX8_odds s m args below meth c 0 0 (zwM ad ca) D A 11 (zQ below D A (zwM ad ca) args s zI) (fX8_odds_73 N n x2 y3 y5 y7 σ) σ 73 [(0, .ref (ad 0)), (2, .int x2), (3, .long y3), (5, .long y5), (7, .long y7)] [] := by
  intro n
  induction n with
  | zero =>
    intro x2 y3 y5 y7 σ
    exact z_none
  | succ n ih =>
    intro x2 y3 y5 y7 σ
    unfold fX8_odds_73
    refine z_lload hc dX8_odds_73 4 rfl ?_
    refine z_lconst (v := (0 : Int64)) hc dX8_odds_75 (by decide) ?_
    refine z_lcmp_eq (tgt := 98) hc dX8_odds_76 dX8_odds_77 (by decide) ?_ ?_
    · refine z_iload_n hc dX8_odds_98 1 rfl ?_
      refine z_iconst (v := (2 : Int32)) hc dX8_odds_99 (by decide) ?_
      refine z_irem hc dX8_odds_100 (fun v1 => ?_)
      refine z_if_ne (tgt := 111) hc dX8_odds_101 (by decide) ?_ ?_
      · refine z_aload_n hc dX8_odds_104 0 rfl ?_
        refine gfX8_312 hc dX8_odds_105 ?_
        refine z_goto (tgt := 112) hc dX8_odds_108 (by decide) ?_
        refine z_sub [3] rfl ?_
        exact tX8_odds_112 hc hr N _ _ _
      · refine z_lload_n hc dX8_odds_111 2 rfl ?_
        refine z_sub [3] rfl ?_
        exact tX8_odds_112 hc hr N _ _ _
    · refine z_lload hc dX8_odds_80 3 rfl ?_
      refine z_lload hc dX8_odds_82 4 rfl ?_
      refine z_lrem hc dX8_odds_84 (fun v2 => ?_)
      refine z_lstore (lv' := [(9, .long v2), (0, .ref (ad 0)), (2, .int x2), (3, .long y3), (5, .long y5), (7, .long y7)]) hc dX8_odds_85 (by decide) rfl ?_
      refine z_lload hc dX8_odds_87 5 rfl ?_
      refine z_lstore (lv' := [(5, .long y7), (9, .long v2), (0, .ref (ad 0)), (2, .int x2), (3, .long y3), (7, .long y7)]) hc dX8_odds_89 (by decide) rfl ?_
      refine z_lload hc dX8_odds_91 1 rfl ?_
      refine z_lstore (lv' := [(7, .long v2), (5, .long y7), (9, .long v2), (0, .ref (ad 0)), (2, .int x2), (3, .long y3)]) hc dX8_odds_93 (by decide) rfl ?_
      refine z_goto (tgt := 73) hc dX8_odds_95 (by decide) ?_
      refine z_sub [3, 4, 5, 1, 0] rfl ?_
      exact ih _ _ _ _ _
set_option maxRecDepth 100000 in
set_option maxHeartbeats 4000000 in
theorem tX8_odds_44 {p : Program} {l : Launch} {e : Env} {s : State} {m : MethodId} {args : Array Value} {below : List Frame} {meth : Method} {c : Code} {D : va_G} {ca : Nat → ClassId} {xa ad : Nat → Nat} {A : Nat → Prop} (hc : zCx p s m args meth c cX8_odds 11 RX8 D ca xa A (zwM ad ca)) (hr : meth.sig.returnType = (some .int)) (N : Nat)   (x2 : Int32) (s0 : Int32) (s1 : Int32) (σ : zSt) : zGO p l e rmX8_odds s m args below meth c 0 0 (zwM ad ca) D A 11 (zQ below D A (zwM ad ca) args s zI) (fX8_odds_44 N x2 s0 s1 σ) σ 44 [(0, .ref (ad 0)), (2, .int x2)] [.int s0, .int s1, .ref (ad 0)] := by
  unfold fX8_odds_44
  refine z_ldc hc dX8_odds_44 kcX8_114 ?_
  refine z_runVi (b0 := ad 0) (As := [.int s1, .int s0, .int (-1000000 : Int32)]) (rest := []) hc dX8_odds_46 (fun _ _ h => tX8_find h) mpX8_find miX8_find kmX8_318 ⟨rfl, rfl, Nat.le_of_ble_eq_true rfl, Nat.le_of_ble_eq_true rfl⟩ ⟨Nat.le_refl _, Nat.le_refl _⟩ zcM_rc0 rfl (Nat.le_of_ble_eq_true rfl) (fun b1 σ2 => ?_)
  refine z_if_ne (tgt := 55) hc dX8_odds_49 (by decide) ?_ ?_
  · refine z_ldc hc dX8_odds_52 kcX8_247 ?_
    exact z_iret hc hr dX8_odds_54
  · refine z_ldc2 hc dX8_odds_55 kcX8_268 ?_
    refine z_aload_n hc dX8_odds_58 0 rfl ?_
    refine gfX8_315 hc dX8_odds_59 ?_
    refine z_lmul hc dX8_odds_62 ?_
    refine z_nmL (fun v3 => ?_)
    refine z_lstore_n (lv' := [(3, .long v3), (0, .ref (ad 0)), (2, .int x2)]) hc dX8_odds_63 rfl (by decide) rfl ?_
    refine z_aload_n hc dX8_odds_64 1 rfl ?_
    refine gfX8_312 hc dX8_odds_65 ?_
    refine z_nmL (fun v4 => ?_)
    refine z_lstore (lv' := [(5, .long v4), (3, .long v3), (0, .ref (ad 0)), (2, .int x2)]) hc dX8_odds_68 (by decide) rfl ?_
    refine z_lload_n hc dX8_odds_70 1 rfl ?_
    refine z_lstore (lv' := [(7, .long v3), (5, .long v4), (3, .long v3), (0, .ref (ad 0)), (2, .int x2)]) hc dX8_odds_71 (by decide) rfl ?_
    refine z_sub [3, 4, 2, 1, 0] rfl ?_
    exact tX8_odds_73 hc hr N N _ _ _ _ _
set_option maxRecDepth 100000 in
set_option maxHeartbeats 4000000 in
theorem tX8_odds {l : Launch} {D : va_G} {ca : Nat → ClassId} {xa ad : Nat → Nat} {A : Nat → Prop} {N : Nat} {x1 : Int32} {x2 : Int32} {σ : zSt} {a : Int32} {τ : zSt} (h : fX8_odds N x1 x2 σ = some (a, τ)) : zCt l yX8_odds cX8_odds 11 (some .int) rmX8_odds D ca xa A (zwM ad ca) [.ref (ad 0), .int x1, .int x2] σ (zI a) τ := by
  refine z_met (inj := zI) (lv := [(0, .ref (ad 0)), (1, .int x1), (2, .int x2)]) (by decide) (Nat.le_of_ble_eq_true rfl) rfl ?_ h
  intro p e s m args below meth c hc hr
  unfold fX8_odds
  refine z_aload_n hc dX8_odds_0 0 rfl ?_
  refine z_iconst (v := (0 : Int32)) hc dX8_odds_1 (by decide) ?_
  refine pfX8_78 hc dX8_odds_2 (fun σ1 => ?_)
  refine z_aload_n hc dX8_odds_5 0 rfl ?_
  refine z_iload_n hc dX8_odds_6 1 rfl ?_
  refine z_runVi (b0 := ad 0) (As := [.int x1]) (rest := []) hc dX8_odds_7 (fun _ _ h => tX8_isClaim h) mpX8_isClaim miX8_isClaim kmX8_244 ⟨rfl, rfl, Nat.le_of_ble_eq_true rfl, Nat.le_of_ble_eq_true rfl⟩ ⟨Nat.le_refl _, Nat.le_refl _⟩ zcM_rc0 rfl (Nat.le_of_ble_eq_true rfl) (fun b2 σ3 => ?_)
  refine z_if_eq (tgt := 25) hc dX8_odds_10 (by decide) ?_ ?_
  · refine z_ldc hc dX8_odds_25 kcX8_98 ?_
    exact z_iret hc hr dX8_odds_27
  · refine z_iload_n hc dX8_odds_13 2 rfl ?_
    refine z_i2l hc dX8_odds_14 ?_
    refine z_lconst (v := (0 : Int64)) hc dX8_odds_15 (by decide) ?_
    refine z_ldc2 hc dX8_odds_16 kcX8_322 ?_
    refine z_runSi (As := [.long x2.toInt64, .long (0 : Int64), .long (3 : Int64)]) (rest := []) hc dX8_odds_19 (fun _ _ h => tX8_in h) mpX8_in miX8_in kmX8_88 ⟨rfl, rfl, Nat.le_of_ble_eq_true rfl, Nat.le_of_ble_eq_true rfl⟩ ⟨Nat.le_refl _, Nat.le_refl _⟩ rfl (Nat.le_of_ble_eq_true rfl) (fun b4 σ5 => ?_)
    refine z_if_ne (tgt := 28) hc dX8_odds_22 (by decide) ?_ ?_
    · refine z_ldc hc dX8_odds_25 kcX8_98 ?_
      exact z_iret hc hr dX8_odds_27
    · refine z_aload_n hc dX8_odds_28 0 rfl ?_
      refine z_aload_n hc dX8_odds_29 0 rfl ?_
      refine z_iload_n hc dX8_odds_30 1 rfl ?_
      refine z_runVi (b0 := ad 0) (As := [.int x1]) (rest := [.ref (ad 0)]) hc dX8_odds_31 (fun _ _ h => tX8_worldsOf h) mpX8_worldsOf miX8_worldsOf kmX8_324 ⟨rfl, rfl, Nat.le_of_ble_eq_true rfl, Nat.le_of_ble_eq_true rfl⟩ ⟨Nat.le_refl _, Nat.le_refl _⟩ zcM_rc0 rfl (Nat.le_of_ble_eq_true rfl) (fun b6 σ7 => ?_)
      refine z_iload_n hc dX8_odds_34 2 rfl ?_
      refine z_iconst (v := (2 : Int32)) hc dX8_odds_35 (by decide) ?_
      refine z_icmp_ge (tgt := 43) hc dX8_odds_36 (by decide) ?_ ?_
      · refine z_iconst (v := (1 : Int32)) hc dX8_odds_43 (by decide) ?_
        refine z_sub [0, 2] rfl ?_
        exact tX8_odds_44 hc hr N _ _ _ _
      · refine z_iconst (v := (-1 : Int32)) hc dX8_odds_39 (by decide) ?_
        refine z_goto (tgt := 44) hc dX8_odds_40 (by decide) ?_
        refine z_sub [0, 2] rfl ?_
        exact tX8_odds_44 hc hr N _ _ _ _
set_option maxRecDepth 100000 in
set_option maxHeartbeats 4000000 in
theorem tX6_findLeastRaised {l : Launch} {D : va_G} {ca : Nat → ClassId} {xa ad : Nat → Nat} {A : Nat → Prop} {N : Nat} {x1 : Int32} {x2 : Int32} {σ : zSt} {a : Int32} {τ : zSt} (h : fX6_findLeastRaised N x1 x2 σ = some (a, τ)) : zCt l yX6_findLeastRaised cX6_findLeastRaised 5 (some .boolean) rmX6_findLeastRaised D ca xa A (zwC ad ca) [.ref (ad 23), .int x1, .int x2] σ (zI a) τ := by
  refine z_met (inj := zI) (lv := [(0, .ref (ad 23)), (1, .int x1), (2, .int x2)]) (by decide) (Nat.le_of_ble_eq_true rfl) rfl ?_ h
  intro p e s m args below meth c hc hr
  unfold fX6_findLeastRaised
  refine z_aload_n hc dX6_findLeastRaised_0 0 rfl ?_
  refine gfX6_15 hc dX6_findLeastRaised_1 ?_
  refine z_iload_n hc dX6_findLeastRaised_4 2 rfl ?_
  refine z_iaload hc 25 (by decide) rfl dX6_findLeastRaised_5 (fun v1 => ?_)
  refine z_istore_n (lv' := [(3, .int v1), (0, .ref (ad 23)), (1, .int x1), (2, .int x2)]) hc dX6_findLeastRaised_6 rfl (by decide) rfl ?_
  refine z_aload_n hc dX6_findLeastRaised_7 1 rfl ?_
  refine gfX6_15 hc dX6_findLeastRaised_8 ?_
  refine z_iload_n hc dX6_findLeastRaised_11 3 rfl ?_
  refine z_aload_n hc dX6_findLeastRaised_12 1 rfl ?_
  refine gfX6_18 hc dX6_findLeastRaised_13 ?_
  refine z_iload_n hc dX6_findLeastRaised_16 3 rfl ?_
  refine z_iaload hc 26 (by decide) rfl dX6_findLeastRaised_17 (fun v2 => ?_)
  refine z_iastore hc 25 (by decide) (fun _ _ => rfl) dX6_findLeastRaised_18 (fun σ3 => ?_)
  refine z_aload_n hc dX6_findLeastRaised_19 1 rfl ?_
  refine z_iload_n hc dX6_findLeastRaised_20 2 rfl ?_
  refine z_runVi (b0 := ad 23) (As := [.int x1]) (rest := []) hc dX6_findLeastRaised_21 (fun _ _ h => tX6_findLeast h) mpX6_findLeast miX6_findLeast kmX6_86 ⟨rfl, rfl, Nat.le_of_ble_eq_true rfl, Nat.le_of_ble_eq_true rfl⟩ ⟨Nat.le_refl _, Nat.le_refl _⟩ zcC_rc23 rfl (Nat.le_of_ble_eq_true rfl) (fun b4 σ5 => ?_)
  refine z_istore (lv' := [(4, .int b4), (3, .int v1), (0, .ref (ad 23)), (1, .int x1), (2, .int x2)]) hc dX6_findLeastRaised_24 (by decide) rfl ?_
  refine z_aload_n hc dX6_findLeastRaised_26 2 rfl ?_
  refine gfX6_15 hc dX6_findLeastRaised_27 ?_
  refine z_iload_n hc dX6_findLeastRaised_30 4 rfl ?_
  refine z_iload_n hc dX6_findLeastRaised_31 1 rfl ?_
  refine z_iastore hc 25 (by decide) (fun _ _ => rfl) dX6_findLeastRaised_32 (fun σ6 => ?_)
  refine z_iload hc dX6_findLeastRaised_33 0 rfl ?_
  exact z_zret hc hr dX6_findLeastRaised_35
set_option maxRecDepth 100000 in
set_option maxHeartbeats 4000000 in
theorem tX6_bestRaise_16 {p : Program} {l : Launch} {e : Env} {s : State} {m : MethodId} {args : Array Value} {below : List Frame} {meth : Method} {c : Code} {D : va_G} {ca : Nat → ClassId} {xa ad : Nat → Nat} {A : Nat → Prop} (hc : zCx p s m args meth c cX6_bestRaise 8 RX6 D ca xa A (zwC ad ca)) (hr : meth.sig.returnType = (some .int)) (N : Nat)   : ∀ (n : Nat) (x1 : Int32) (x2 : Int32) (y3 : Int64) (y5 : Int64) (x7 : Int32) (σ : zSt), zGO p l e rmX6_bestRaise s m args below meth c 0 0 (zwC ad ca) D A 8 (zQ below D A (zwC ad ca) args s zI) (fX6_bestRaise_16 N n x1 x2 y3 y5 x7 σ) σ 16 [(0, .ref (ad 23)), (1, .int x1), (2, .int x2), (3, .long y3), (5, .long y5), (7, .int x7)] [] := by
  intro n
  induction n with
  | zero =>
    intro x1 x2 y3 y5 x7 σ
    exact z_none
  | succ n ih =>
    intro x1 x2 y3 y5 x7 σ
    unfold fX6_bestRaise_16
    refine z_iload hc dX6_bestRaise_16 5 rfl ?_
    refine z_aload_n hc dX6_bestRaise_18 0 rfl ?_
    refine gfX6_34 hc dX6_bestRaise_19 ?_
    refine z_icmp_ge (tgt := 72) hc dX6_bestRaise_22 (by decide) ?_ ?_
    · refine z_iload_n hc dX6_bestRaise_72 2 rfl ?_
      exact z_iret hc hr dX6_bestRaise_73
    · refine z_aload_n hc dX6_bestRaise_25 0 rfl ?_
      refine z_iload_n hc dX6_bestRaise_26 1 rfl ?_
      refine z_iload hc dX6_bestRaise_27 5 rfl ?_
      refine z_runVi (b0 := ad 23) (As := [.int x1, .int x7]) (rest := []) hc dX6_bestRaise_29 (fun _ _ h => tX6_findLeastRaised h) mpX6_findLeastRaised miX6_findLeastRaised kmX6_96 ⟨rfl, rfl, Nat.le_of_ble_eq_true rfl, Nat.le_of_ble_eq_true rfl⟩ ⟨Nat.le_refl _, Nat.le_refl _⟩ zcC_rc23 rfl (Nat.le_of_ble_eq_true rfl) (fun b1 σ2 => ?_)
      refine z_if_eq (tgt := 66) hc dX6_bestRaise_32 (by decide) ?_ ?_
      · refine z_iinc (v := (x7 + (1 : Int32))) (lv' := [(7, .int (x7 + (1 : Int32))), (0, .ref (ad 23)), (1, .int x1), (2, .int x2), (3, .long y3), (5, .long y5)]) hc dX6_bestRaise_66 5 rfl rfl (by decide) rfl ?_
        refine z_goto (tgt := 16) hc dX6_bestRaise_69 (by decide) ?_
        refine z_sub [1, 2, 3, 4, 5, 0] rfl ?_
        exact ih _ _ _ _ _ _
      · refine z_aload_n hc dX6_bestRaise_35 0 rfl ?_
        refine gfX6_93 hc dX6_bestRaise_36 ?_
        refine z_lload hc dX6_bestRaise_39 4 rfl ?_
        refine z_lmul hc dX6_bestRaise_41 ?_
        refine z_lload_n hc dX6_bestRaise_42 3 rfl ?_
        refine z_aload_n hc dX6_bestRaise_43 0 rfl ?_
        refine gfX6_90 hc dX6_bestRaise_44 ?_
        refine z_lmul hc dX6_bestRaise_47 ?_
        refine z_lcmp_le (tgt := 66) hc dX6_bestRaise_48 dX6_bestRaise_49 (by decide) ?_ ?_
        · refine z_iinc (v := (x7 + (1 : Int32))) (lv' := [(7, .int (x7 + (1 : Int32))), (0, .ref (ad 23)), (1, .int x1), (2, .int x2), (3, .long y3), (5, .long y5)]) hc dX6_bestRaise_66 5 rfl rfl (by decide) rfl ?_
          refine z_goto (tgt := 16) hc dX6_bestRaise_69 (by decide) ?_
          refine z_sub [1, 2, 3, 4, 5, 0] rfl ?_
          exact ih _ _ _ _ _ _
        · refine z_iload hc dX6_bestRaise_52 5 rfl ?_
          refine z_istore_n (lv' := [(2, .int x7), (0, .ref (ad 23)), (1, .int x1), (3, .long y3), (5, .long y5), (7, .int x7)]) hc dX6_bestRaise_54 rfl (by decide) rfl ?_
          refine z_aload_n hc dX6_bestRaise_55 1 rfl ?_
          refine gfX6_93 hc dX6_bestRaise_56 ?_
          refine z_nmL (fun v3 => ?_)
          refine z_lstore_n (lv' := [(3, .long v3), (2, .int x7), (0, .ref (ad 23)), (1, .int x1), (5, .long y5), (7, .int x7)]) hc dX6_bestRaise_59 rfl (by decide) rfl ?_
          refine z_aload_n hc dX6_bestRaise_60 2 rfl ?_
          refine gfX6_90 hc dX6_bestRaise_61 ?_
          refine z_nmL (fun v4 => ?_)
          refine z_lstore (lv' := [(5, .long v4), (3, .long v3), (2, .int x7), (0, .ref (ad 23)), (1, .int x1), (7, .int x7)]) hc dX6_bestRaise_64 (by decide) rfl ?_
          refine z_iinc (v := (x7 + (1 : Int32))) (lv' := [(7, .int (x7 + (1 : Int32))), (5, .long v4), (3, .long v3), (2, .int x7), (0, .ref (ad 23)), (1, .int x1)]) hc dX6_bestRaise_66 5 rfl rfl (by decide) rfl ?_
          refine z_goto (tgt := 16) hc dX6_bestRaise_69 (by decide) ?_
          refine z_sub [4, 5, 3, 2, 1, 0] rfl ?_
          exact ih _ _ _ _ _ _
set_option maxRecDepth 100000 in
set_option maxHeartbeats 4000000 in
theorem tX6_bestRaise {l : Launch} {D : va_G} {ca : Nat → ClassId} {xa ad : Nat → Nat} {A : Nat → Prop} {N : Nat} {x1 : Int32} {σ : zSt} {a : Int32} {τ : zSt} (h : fX6_bestRaise N x1 σ = some (a, τ)) : zCt l yX6_bestRaise cX6_bestRaise 8 (some .int) rmX6_bestRaise D ca xa A (zwC ad ca) [.ref (ad 23), .int x1] σ (zI a) τ := by
  refine z_met (inj := zI) (lv := [(0, .ref (ad 23)), (1, .int x1)]) (by decide) (Nat.le_of_ble_eq_true rfl) rfl ?_ h
  intro p e s m args below meth c hc hr
  unfold fX6_bestRaise
  refine z_iconst (v := (-1 : Int32)) hc dX6_bestRaise_0 (by decide) ?_
  refine z_istore_n (lv' := [(2, .int (-1 : Int32)), (0, .ref (ad 23)), (1, .int x1)]) hc dX6_bestRaise_1 rfl (by decide) rfl ?_
  refine z_aload_n hc dX6_bestRaise_2 1 rfl ?_
  refine gfX6_93 hc dX6_bestRaise_3 ?_
  refine z_nmL (fun v1 => ?_)
  refine z_lstore_n (lv' := [(3, .long v1), (2, .int (-1 : Int32)), (0, .ref (ad 23)), (1, .int x1)]) hc dX6_bestRaise_6 rfl (by decide) rfl ?_
  refine z_aload_n hc dX6_bestRaise_7 2 rfl ?_
  refine gfX6_90 hc dX6_bestRaise_8 ?_
  refine z_nmL (fun v2 => ?_)
  refine z_lstore (lv' := [(5, .long v2), (3, .long v1), (2, .int (-1 : Int32)), (0, .ref (ad 23)), (1, .int x1)]) hc dX6_bestRaise_11 (by decide) rfl ?_
  refine z_iconst (v := (0 : Int32)) hc dX6_bestRaise_13 (by decide) ?_
  refine z_istore (lv' := [(7, .int (0 : Int32)), (5, .long v2), (3, .long v1), (2, .int (-1 : Int32)), (0, .ref (ad 23)), (1, .int x1)]) hc dX6_bestRaise_14 (by decide) rfl ?_
  refine z_sub [4, 5, 3, 2, 1, 0] rfl ?_
  exact tX6_bestRaise_16 hc hr N N _ _ _ _ _ _
set_option maxRecDepth 100000 in
set_option maxHeartbeats 4000000 in
theorem tX7_raise {l : Launch} {D : va_G} {ca : Nat → ClassId} {xa ad : Nat → Nat} {A : Nat → Prop} {N : Nat} {x1 : Int32} {σ : zSt} {a : Int32} {τ : zSt} (h : fX7_raise N x1 σ = some (a, τ)) : zCt l yX7_raise cX7_raise 4 (some .int) rmX7_raise D ca xa A (zwC ad ca) [.ref (ad 0), .int x1] σ (zI a) τ := by
  refine z_met (inj := zI) (lv := [(0, .ref (ad 0)), (1, .int x1)]) (by decide) (Nat.le_of_ble_eq_true rfl) rfl ?_ h
  intro p e s m args below meth c hc hr
  unfold fX7_raise
  refine z_aload_n hc dX7_raise_0 0 rfl ?_
  refine gfX7_26 hc dX7_raise_1 ?_
  refine z_iload_n hc dX7_raise_4 1 rfl ?_
  refine z_runVNi (b0 := ad 7) (As := [.int x1]) (rest := []) hc dX7_raise_5 (fun _ _ h => tX2_isClaim h) mpX2_isClaim miX2_isClaim kmX7_128 ⟨rfl, rfl, Nat.le_of_ble_eq_true rfl, Nat.le_of_ble_eq_true rfl⟩ ⟨Nat.le_refl _, Nat.le_refl _⟩ zcC_rc7 rfl (Nat.le_of_ble_eq_true rfl) (fun b1 σ2 => ?_)
  refine z_if_ne (tgt := 14) hc dX7_raise_8 (by decide) ?_ ?_
  · refine z_ldc hc dX7_raise_11 kcX7_66 ?_
    exact z_iret hc hr dX7_raise_13
  · refine z_aload_n hc dX7_raise_14 0 rfl ?_
    refine gfX7_40 hc dX7_raise_15 ?_
    refine z_aload_n hc dX7_raise_18 0 rfl ?_
    refine gfX7_26 hc dX7_raise_19 ?_
    refine z_iload_n hc dX7_raise_22 1 rfl ?_
    refine z_runVNi (b0 := ad 23) (As := [.ref (ad 7), .int x1]) (rest := []) hc dX7_raise_23 (fun _ _ h => tX6_worldsShowing h) mpX6_worldsShowing miX6_worldsShowing kmX7_252 ⟨rfl, rfl, Nat.le_of_ble_eq_true rfl, Nat.le_of_ble_eq_true rfl⟩ ⟨Nat.le_refl _, Nat.le_refl _⟩ zcC_rc23 rfl (Nat.le_of_ble_eq_true rfl) (fun b3 σ4 => ?_)
    refine z_istore_n (lv' := [(2, .int b3), (0, .ref (ad 0)), (1, .int x1)]) hc dX7_raise_26 rfl (by decide) rfl ?_
    refine z_aload_n hc dX7_raise_27 1 rfl ?_
    refine gfX7_40 hc dX7_raise_28 ?_
    refine z_iload_n hc dX7_raise_31 0 rfl ?_
    refine z_runVNi (b0 := ad 23) (As := [.int b3]) (rest := []) hc dX7_raise_32 (fun _ _ h => tX6_findLeast h) mpX6_findLeast miX6_findLeast kmX7_249 ⟨rfl, rfl, Nat.le_of_ble_eq_true rfl, Nat.le_of_ble_eq_true rfl⟩ ⟨Nat.le_refl _, Nat.le_refl _⟩ zcC_rc23 rfl (Nat.le_of_ble_eq_true rfl) (fun b5 σ6 => ?_)
    refine z_if_ne (tgt := 41) hc dX7_raise_35 (by decide) ?_ ?_
    · refine z_ldc hc dX7_raise_38 kcX7_213 ?_
      exact z_iret hc hr dX7_raise_40
    · refine z_aload_n hc dX7_raise_41 1 rfl ?_
      refine gfX7_40 hc dX7_raise_42 ?_
      refine z_iload_n hc dX7_raise_45 0 rfl ?_
      refine z_runVNi (b0 := ad 23) (As := [.int b3]) (rest := []) hc dX7_raise_46 (fun _ _ h => tX6_bestRaise h) mpX6_bestRaise miX6_bestRaise kmX7_266 ⟨rfl, rfl, Nat.le_of_ble_eq_true rfl, Nat.le_of_ble_eq_true rfl⟩ ⟨Nat.le_refl _, Nat.le_refl _⟩ zcC_rc23 rfl (Nat.le_of_ble_eq_true rfl) (fun b7 σ8 => ?_)
      refine z_istore_n (lv' := [(3, .int b7), (2, .int b3), (0, .ref (ad 0)), (1, .int x1)]) hc dX7_raise_49 rfl (by decide) rfl ?_
      refine z_iload_n hc dX7_raise_50 0 rfl ?_
      refine z_if_ge (tgt := 59) hc dX7_raise_51 (by decide) ?_ ?_
      · refine z_aload_n hc dX7_raise_59 2 rfl ?_
        refine gfX7_40 hc dX7_raise_60 ?_
        refine gfX7_269 hc dX7_raise_63 ?_
        refine z_iload_n hc dX7_raise_66 0 rfl ?_
        refine z_iaload hc 24 (by decide) rfl dX7_raise_67 (fun v9 => ?_)
        exact z_iret hc hr dX7_raise_68
      · refine z_ldc hc dX7_raise_54 kcX7_135 ?_
        refine z_goto (tgt := 68) hc dX7_raise_56 (by decide) ?_
        exact z_iret hc hr dX7_raise_68
set_option maxRecDepth 100000 in
set_option maxHeartbeats 4000000 in
theorem tX8_raise_54 {p : Program} {l : Launch} {e : Env} {s : State} {m : MethodId} {args : Array Value} {below : List Frame} {meth : Method} {c : Code} {D : va_G} {ca : Nat → ClassId} {xa ad : Nat → Nat} {A : Nat → Prop} (hc : zCx p s m args meth c cX8_raise 9 RX8 D ca xa A (zwM ad ca)) (hr : meth.sig.returnType = (some .int)) (N : Nat)   : ∀ (n : Nat) (x2 : Int32) (y3 : Int64) (y5 : Int64) (x7 : Int32) (x8 : Int32) (σ : zSt), zGO p l e rmX8_raise s m args below meth c 0 0 (zwM ad ca) D A 9 (zQ below D A (zwM ad ca) args s zI) (fX8_raise_54 N n x2 y3 y5 x7 x8 σ) σ 54 [(0, .ref (ad 0)), (2, .int x2), (3, .long y3), (5, .long y5), (7, .int x7), (8, .int x8)] [] := by
  intro n
  induction n with
  | zero =>
    intro x2 y3 y5 x7 x8 σ
    exact z_none
  | succ n ih =>
    intro x2 y3 y5 x7 x8 σ
    unfold fX8_raise_54
    refine z_iload hc dX8_raise_54 5 rfl ?_
    refine z_aload_n hc dX8_raise_56 0 rfl ?_
    refine gfX8_270 hc dX8_raise_57 ?_
    refine z_icmp_ge (tgt := 117) hc dX8_raise_60 (by decide) ?_ ?_
    · refine z_iload hc dX8_raise_117 4 rfl ?_
      exact z_iret hc hr dX8_raise_119
    · refine z_aload_n hc dX8_raise_63 0 rfl ?_
      refine z_iload_n hc dX8_raise_64 1 rfl ?_
      refine z_iconst (v := (-1 : Int32)) hc dX8_raise_65 (by decide) ?_
      refine z_iload hc dX8_raise_66 5 rfl ?_
      refine z_runVi (b0 := ad 0) (As := [.int x2, .int (-1 : Int32), .int x8]) (rest := []) hc dX8_raise_68 (fun _ _ h => tX8_find h) mpX8_find miX8_find kmX8_318 ⟨rfl, rfl, Nat.le_of_ble_eq_true rfl, Nat.le_of_ble_eq_true rfl⟩ ⟨Nat.le_refl _, Nat.le_refl _⟩ zcM_rc0 rfl (Nat.le_of_ble_eq_true rfl) (fun b1 σ2 => ?_)
      refine z_if_eq (tgt := 111) hc dX8_raise_71 (by decide) ?_ ?_
      · refine z_iinc (v := (x8 + (1 : Int32))) (lv' := [(8, .int (x8 + (1 : Int32))), (0, .ref (ad 0)), (2, .int x2), (3, .long y3), (5, .long y5), (7, .int x7)]) hc dX8_raise_111 5 rfl rfl (by decide) rfl ?_
        refine z_goto (tgt := 54) hc dX8_raise_114 (by decide) ?_
        refine z_sub [1, 2, 3, 4, 5, 0] rfl ?_
        exact ih _ _ _ _ _ _
      · refine z_aload_n hc dX8_raise_74 0 rfl ?_
        refine gfX8_312 hc dX8_raise_75 ?_
        refine z_lload hc dX8_raise_78 3 rfl ?_
        refine z_lmul hc dX8_raise_80 ?_
        refine z_lload_n hc dX8_raise_81 2 rfl ?_
        refine z_aload_n hc dX8_raise_82 0 rfl ?_
        refine gfX8_315 hc dX8_raise_83 ?_
        refine z_lmul hc dX8_raise_86 ?_
        refine z_lcmp_le (tgt := 111) hc dX8_raise_87 dX8_raise_88 (by decide) ?_ ?_
        · refine z_iinc (v := (x8 + (1 : Int32))) (lv' := [(8, .int (x8 + (1 : Int32))), (0, .ref (ad 0)), (2, .int x2), (3, .long y3), (5, .long y5), (7, .int x7)]) hc dX8_raise_111 5 rfl rfl (by decide) rfl ?_
          refine z_goto (tgt := 54) hc dX8_raise_114 (by decide) ?_
          refine z_sub [1, 2, 3, 4, 5, 0] rfl ?_
          exact ih _ _ _ _ _ _
        · refine z_aload_n hc dX8_raise_91 0 rfl ?_
          refine gfX8_53 hc dX8_raise_92 ?_
          refine z_iload hc dX8_raise_95 5 rfl ?_
          refine z_iaload hc 15 (by decide) rfl dX8_raise_97 (fun v3 => ?_)
          refine z_istore (lv' := [(7, .int v3), (0, .ref (ad 0)), (2, .int x2), (3, .long y3), (5, .long y5), (8, .int x8)]) hc dX8_raise_98 (by decide) rfl ?_
          refine z_aload_n hc dX8_raise_100 1 rfl ?_
          refine gfX8_312 hc dX8_raise_101 ?_
          refine z_nmL (fun v4 => ?_)
          refine z_lstore_n (lv' := [(3, .long v4), (7, .int v3), (0, .ref (ad 0)), (2, .int x2), (5, .long y5), (8, .int x8)]) hc dX8_raise_104 rfl (by decide) rfl ?_
          refine z_aload_n hc dX8_raise_105 2 rfl ?_
          refine gfX8_315 hc dX8_raise_106 ?_
          refine z_nmL (fun v5 => ?_)
          refine z_lstore (lv' := [(5, .long v5), (3, .long v4), (7, .int v3), (0, .ref (ad 0)), (2, .int x2), (8, .int x8)]) hc dX8_raise_109 (by decide) rfl ?_
          refine z_iinc (v := (x8 + (1 : Int32))) (lv' := [(8, .int (x8 + (1 : Int32))), (5, .long v5), (3, .long v4), (7, .int v3), (0, .ref (ad 0)), (2, .int x2)]) hc dX8_raise_111 5 rfl rfl (by decide) rfl ?_
          refine z_goto (tgt := 54) hc dX8_raise_114 (by decide) ?_
          refine z_sub [4, 5, 2, 1, 3, 0] rfl ?_
          exact ih _ _ _ _ _ _
set_option maxRecDepth 100000 in
set_option maxHeartbeats 4000000 in
theorem tX8_raise {l : Launch} {D : va_G} {ca : Nat → ClassId} {xa ad : Nat → Nat} {A : Nat → Prop} {N : Nat} {x1 : Int32} {σ : zSt} {a : Int32} {τ : zSt} (h : fX8_raise N x1 σ = some (a, τ)) : zCt l yX8_raise cX8_raise 9 (some .int) rmX8_raise D ca xa A (zwM ad ca) [.ref (ad 0), .int x1] σ (zI a) τ := by
  refine z_met (inj := zI) (lv := [(0, .ref (ad 0)), (1, .int x1)]) (by decide) (Nat.le_of_ble_eq_true rfl) rfl ?_ h
  intro p e s m args below meth c hc hr
  unfold fX8_raise
  refine z_aload_n hc dX8_raise_0 0 rfl ?_
  refine z_iconst (v := (0 : Int32)) hc dX8_raise_1 (by decide) ?_
  refine pfX8_78 hc dX8_raise_2 (fun σ1 => ?_)
  refine z_aload_n hc dX8_raise_5 0 rfl ?_
  refine z_iload_n hc dX8_raise_6 1 rfl ?_
  refine z_runVi (b0 := ad 0) (As := [.int x1]) (rest := []) hc dX8_raise_7 (fun _ _ h => tX8_isClaim h) mpX8_isClaim miX8_isClaim kmX8_244 ⟨rfl, rfl, Nat.le_of_ble_eq_true rfl, Nat.le_of_ble_eq_true rfl⟩ ⟨Nat.le_refl _, Nat.le_refl _⟩ zcM_rc0 rfl (Nat.le_of_ble_eq_true rfl) (fun b2 σ3 => ?_)
  refine z_if_ne (tgt := 16) hc dX8_raise_10 (by decide) ?_ ?_
  · refine z_ldc hc dX8_raise_13 kcX8_98 ?_
    exact z_iret hc hr dX8_raise_15
  · refine z_aload_n hc dX8_raise_16 0 rfl ?_
    refine z_iload_n hc dX8_raise_17 1 rfl ?_
    refine z_runVi (b0 := ad 0) (As := [.int x1]) (rest := []) hc dX8_raise_18 (fun _ _ h => tX8_worldsOf h) mpX8_worldsOf miX8_worldsOf kmX8_324 ⟨rfl, rfl, Nat.le_of_ble_eq_true rfl, Nat.le_of_ble_eq_true rfl⟩ ⟨Nat.le_refl _, Nat.le_refl _⟩ zcM_rc0 rfl (Nat.le_of_ble_eq_true rfl) (fun b4 σ5 => ?_)
    refine z_istore_n (lv' := [(2, .int b4), (0, .ref (ad 0)), (1, .int x1)]) hc dX8_raise_21 rfl (by decide) rfl ?_
    refine z_aload_n hc dX8_raise_22 1 rfl ?_
    refine z_iload_n hc dX8_raise_23 0 rfl ?_
    refine z_iconst (v := (-1 : Int32)) hc dX8_raise_24 (by decide) ?_
    refine z_ldc hc dX8_raise_25 kcX8_114 ?_
    refine z_runVi (b0 := ad 0) (As := [.int b4, .int (-1 : Int32), .int (-1000000 : Int32)]) (rest := []) hc dX8_raise_27 (fun _ _ h => tX8_find h) mpX8_find miX8_find kmX8_318 ⟨rfl, rfl, Nat.le_of_ble_eq_true rfl, Nat.le_of_ble_eq_true rfl⟩ ⟨Nat.le_refl _, Nat.le_refl _⟩ zcM_rc0 rfl (Nat.le_of_ble_eq_true rfl) (fun b6 σ7 => ?_)
    refine z_if_ne (tgt := 36) hc dX8_raise_30 (by decide) ?_ ?_
    · refine z_ldc hc dX8_raise_33 kcX8_247 ?_
      exact z_iret hc hr dX8_raise_35
    · refine z_aload_n hc dX8_raise_36 1 rfl ?_
      refine gfX8_312 hc dX8_raise_37 ?_
      refine z_nmL (fun v8 => ?_)
      refine z_lstore_n (lv' := [(3, .long v8), (2, .int b4), (0, .ref (ad 0)), (1, .int x1)]) hc dX8_raise_40 rfl (by decide) rfl ?_
      refine z_aload_n hc dX8_raise_41 2 rfl ?_
      refine gfX8_315 hc dX8_raise_42 ?_
      refine z_nmL (fun v9 => ?_)
      refine z_lstore (lv' := [(5, .long v9), (3, .long v8), (2, .int b4), (0, .ref (ad 0)), (1, .int x1)]) hc dX8_raise_45 (by decide) rfl ?_
      refine z_ldc hc dX8_raise_47 kcX8_114 ?_
      refine z_istore (lv' := [(7, .int (-1000000 : Int32)), (5, .long v9), (3, .long v8), (2, .int b4), (0, .ref (ad 0)), (1, .int x1)]) hc dX8_raise_49 (by decide) rfl ?_
      refine z_iconst (v := (0 : Int32)) hc dX8_raise_51 (by decide) ?_
      refine z_istore (lv' := [(8, .int (0 : Int32)), (7, .int (-1000000 : Int32)), (5, .long v9), (3, .long v8), (2, .int b4), (0, .ref (ad 0)), (1, .int x1)]) hc dX8_raise_52 (by decide) rfl ?_
      refine z_sub [5, 4, 3, 2, 1, 0] rfl ?_
      exact tX8_raise_54 hc hr N N _ _ _ _ _ _
set_option maxRecDepth 100000 in
set_option maxHeartbeats 4000000 in
theorem tX2_timesPart_4 {p : Program} {l : Launch} {e : Env} {s : State} {m : MethodId} {args : Array Value} {below : List Frame} {meth : Method} {c : Code} {D : va_G} {ca : Nat → ClassId} {xa ad : Nat → Nat} {A : Nat → Prop} (hc : zCx p s m args meth c cX2_timesPart 4 RX2 D ca xa A (zwC ad ca)) (hr : meth.sig.returnType = (some .int)) (N : Nat)   : ∀ (n : Nat) (x1 : Int32) (x2 : Int32) (x3 : Int32) (σ : zSt), zGO p l e rmX2_timesPart s m args below meth c 0 0 (zwC ad ca) D A 4 (zQ below D A (zwC ad ca) args s zI) (fX2_timesPart_4 N n x1 x2 x3 σ) σ 4 [(0, .ref (ad 7)), (1, .int x1), (2, .int x2), (3, .int x3)] [] := by
  intro n
  induction n with
  | zero =>
    intro x1 x2 x3 σ
    exact z_none
  | succ n ih =>
    intro x1 x2 x3 σ
    unfold fX2_timesPart_4
    refine z_iload_n hc dX2_timesPart_4 3 rfl ?_
    refine z_aload_n hc dX2_timesPart_5 0 rfl ?_
    refine gfX2_59 hc dX2_timesPart_6 ?_
    refine z_icmp_ge (tgt := 31) hc dX2_timesPart_9 (by decide) ?_ ?_
    · refine z_iload_n hc dX2_timesPart_31 2 rfl ?_
      exact z_iret hc hr dX2_timesPart_32
    · refine z_iload_n hc dX2_timesPart_12 2 rfl ?_
      refine z_aload_n hc dX2_timesPart_13 0 rfl ?_
      refine gfX2_36 hc dX2_timesPart_14 ?_
      refine z_iload_n hc dX2_timesPart_17 3 rfl ?_
      refine z_iaload hc 16 (by decide) rfl dX2_timesPart_18 (fun v1 => ?_)
      refine z_iload_n hc dX2_timesPart_19 1 rfl ?_
      refine z_runSNi (As := [.int v1, .int x1]) (rest := [.int x2]) hc dX2_timesPart_20 (fun _ _ h => tX7_bitAt h) mpX7_bitAt miX7_bitAt kmX2_62 ⟨rfl, rfl, Nat.le_of_ble_eq_true rfl, Nat.le_of_ble_eq_true rfl⟩ ⟨Nat.le_refl _, Nat.le_refl _⟩ rfl (Nat.le_of_ble_eq_true rfl) (fun b2 σ3 => ?_)
      refine z_iadd hc dX2_timesPart_23 ?_
      refine z_nm (fun v4 => ?_)
      refine z_istore_n (lv' := [(2, .int v4), (0, .ref (ad 7)), (1, .int x1), (3, .int x3)]) hc dX2_timesPart_24 rfl (by decide) rfl ?_
      refine z_iinc (v := (x3 + (1 : Int32))) (lv' := [(3, .int (x3 + (1 : Int32))), (2, .int v4), (0, .ref (ad 7)), (1, .int x1)]) hc dX2_timesPart_25 3 rfl rfl (by decide) rfl ?_
      refine z_goto (tgt := 4) hc dX2_timesPart_28 (by decide) ?_
      refine z_sub [2, 3, 1, 0] rfl ?_
      exact ih _ _ _ _
set_option maxRecDepth 100000 in
set_option maxHeartbeats 4000000 in
theorem tX2_timesPart {l : Launch} {D : va_G} {ca : Nat → ClassId} {xa ad : Nat → Nat} {A : Nat → Prop} {N : Nat} {x1 : Int32} {σ : zSt} {a : Int32} {τ : zSt} (h : fX2_timesPart N x1 σ = some (a, τ)) : zCt l yX2_timesPart cX2_timesPart 4 (some .int) rmX2_timesPart D ca xa A (zwC ad ca) [.ref (ad 7), .int x1] σ (zI a) τ := by
  refine z_met (inj := zI) (lv := [(0, .ref (ad 7)), (1, .int x1)]) (by decide) (Nat.le_of_ble_eq_true rfl) rfl ?_ h
  intro p e s m args below meth c hc hr
  unfold fX2_timesPart
  refine z_iconst (v := (0 : Int32)) hc dX2_timesPart_0 (by decide) ?_
  refine z_istore_n (lv' := [(2, .int (0 : Int32)), (0, .ref (ad 7)), (1, .int x1)]) hc dX2_timesPart_1 rfl (by decide) rfl ?_
  refine z_iconst (v := (0 : Int32)) hc dX2_timesPart_2 (by decide) ?_
  refine z_istore_n (lv' := [(3, .int (0 : Int32)), (2, .int (0 : Int32)), (0, .ref (ad 7)), (1, .int x1)]) hc dX2_timesPart_3 rfl (by decide) rfl ?_
  refine z_sub [2, 3, 1, 0] rfl ?_
  exact tX2_timesPart_4 hc hr N N _ _ _ _
set_option maxRecDepth 100000 in
set_option maxHeartbeats 4000000 in
theorem tX2_kindOf {l : Launch} {D : va_G} {ca : Nat → ClassId} {xa ad : Nat → Nat} {A : Nat → Prop} {N : Nat} {x1 : Int32} {σ : zSt} {a : Int32} {τ : zSt} (h : fX2_kindOf N x1 σ = some (a, τ)) : zCt l yX2_kindOf cX2_kindOf 2 (some .int) rmX2_kindOf D ca xa A (zwC ad ca) [.ref (ad 7), .int x1] σ (zI a) τ := by
  refine z_met (inj := zI) (lv := [(0, .ref (ad 7)), (1, .int x1)]) (by decide) (Nat.le_of_ble_eq_true rfl) rfl ?_ h
  intro p e s m args below meth c hc hr
  unfold fX2_kindOf
  refine z_aload_n hc dX2_kindOf_0 0 rfl ?_
  refine gfX2_9 hc dX2_kindOf_1 ?_
  refine z_iload_n hc dX2_kindOf_4 1 rfl ?_
  refine z_iaload hc 8 (by decide) rfl dX2_kindOf_5 (fun v1 => ?_)
  refine z_iconst (v := (2 : Int32)) hc dX2_kindOf_6 (by decide) ?_
  refine z_icmp_ne (tgt := 24) hc dX2_kindOf_7 (by decide) ?_ ?_
  · refine z_aload_n hc dX2_kindOf_10 0 rfl ?_
    refine z_iload_n hc dX2_kindOf_11 1 rfl ?_
    refine z_runVi (b0 := ad 7) (As := [.int x1]) (rest := []) hc dX2_kindOf_12 (fun _ _ h => tX2_timesPart h) mpX2_timesPart miX2_timesPart kmX2_106 ⟨rfl, rfl, Nat.le_of_ble_eq_true rfl, Nat.le_of_ble_eq_true rfl⟩ ⟨Nat.le_refl _, Nat.le_refl _⟩ zcC_rc7 rfl (Nat.le_of_ble_eq_true rfl) (fun b2 σ3 => ?_)
    refine z_if_ne (tgt := 22) hc dX2_kindOf_15 (by decide) ?_ ?_
    · refine z_iconst (v := (4 : Int32)) hc dX2_kindOf_18 (by decide) ?_
      refine z_goto (tgt := 23) hc dX2_kindOf_19 (by decide) ?_
      exact z_iret hc hr dX2_kindOf_23
    · refine z_iconst (v := (3 : Int32)) hc dX2_kindOf_22 (by decide) ?_
      exact z_iret hc hr dX2_kindOf_23
  · refine z_aload_n hc dX2_kindOf_24 0 rfl ?_
    refine z_iload_n hc dX2_kindOf_25 1 rfl ?_
    refine z_runVi (b0 := ad 7) (As := [.int x1]) (rest := []) hc dX2_kindOf_26 (fun _ _ h => tX2_stands h) mpX2_stands miX2_stands kmX2_85 ⟨rfl, rfl, Nat.le_of_ble_eq_true rfl, Nat.le_of_ble_eq_true rfl⟩ ⟨Nat.le_refl _, Nat.le_refl _⟩ zcC_rc7 rfl (Nat.le_of_ble_eq_true rfl) (fun b4 σ5 => ?_)
    refine z_if_ne (tgt := 34) hc dX2_kindOf_29 (by decide) ?_ ?_
    · refine z_iconst (v := (5 : Int32)) hc dX2_kindOf_32 (by decide) ?_
      exact z_iret hc hr dX2_kindOf_33
    · refine z_aload_n hc dX2_kindOf_34 0 rfl ?_
      refine gfX2_9 hc dX2_kindOf_35 ?_
      refine z_iload_n hc dX2_kindOf_38 1 rfl ?_
      refine z_iaload hc 8 (by decide) rfl dX2_kindOf_39 (fun v6 => ?_)
      refine z_iconst (v := (1 : Int32)) hc dX2_kindOf_40 (by decide) ?_
      refine z_icmp_ne (tgt := 48) hc dX2_kindOf_41 (by decide) ?_ ?_
      · refine z_iconst (v := (2 : Int32)) hc dX2_kindOf_44 (by decide) ?_
        refine z_goto (tgt := 49) hc dX2_kindOf_45 (by decide) ?_
        exact z_iret hc hr dX2_kindOf_49
      · refine z_iconst (v := (1 : Int32)) hc dX2_kindOf_48 (by decide) ?_
        exact z_iret hc hr dX2_kindOf_49
