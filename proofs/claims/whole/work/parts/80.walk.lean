
set_option maxRecDepth 100000 in
set_option maxHeartbeats 4000000 in
theorem tJ3_checkIndex_8e157 {l : Launch} {D : va_G} {ca : Nat → ClassId} {xa ad : Nat → Nat} {A : Nat → Prop} {N : Nat} {x0 x1 : Int32} (u : Option Nat) {σ : zSt} {a : Int32} {τ : zSt} (h : fJ3_checkIndex_8e157 N x0 x1 σ = some (a, τ)) : zCt l yJ3_checkIndex_8e157 cJ3_checkIndex_8e157 3 (some .int) rmJ3_checkIndex_8e157 D ca xa A (zwC ad ca) [.int x0, .int x1, va_rf u] σ (zI a) τ := by
  refine z_met (inj := zI) (lv := [(0, .int x0), (1, .int x1), (2, va_rf u)]) (by decide) (by cases u <;> exact Nat.le_of_ble_eq_true rfl) (by cases u <;> rfl) ?_ h
  intro p e s m args below meth c hc hr
  unfold fJ3_checkIndex_8e157
  refine z_iload_n hc dJ3_checkIndex_8e157_0 0 rfl ?_
  refine z_if_lt (tgt := 9) hc dJ3_checkIndex_8e157_1 (by decide) z_none ?_
  refine z_iload_n hc dJ3_checkIndex_8e157_4 0 rfl ?_
  refine z_iload_n hc dJ3_checkIndex_8e157_5 1 rfl ?_
  refine z_icmp_lt (tgt := 16) hc dJ3_checkIndex_8e157_6 (by decide) ?_ z_none
  refine z_iload_n hc dJ3_checkIndex_8e157_16 0 rfl ?_
  exact z_iret hc hr dJ3_checkIndex_8e157_17
theorem zkf_fmt : Cond.fieldLink RJ0 1053 "jdk/internal/util/Preconditions" "SIOOBE_FORMATTER" "Ljava/util/function/BiFunction;" ∈ zlwg := zlwg_of (List.mem_of_getElem? (i := 546) (by decide +kernel)) rfl
theorem zkm_chk : Cond.methodLink RJ0 1059 yJ3_checkIndex_8e157 ∈ zlwg := zlwg_of (List.mem_of_getElem? (i := 548) (by decide +kernel)) rfl
set_option maxRecDepth 100000 in
set_option maxHeartbeats 4000000 in
theorem tJ0_checkIndex_df160 {l : Launch} {D : va_G} {ca : Nat → ClassId} {xa ad : Nat → Nat} {A : Nat → Prop} {N : Nat} {x0 x1 : Int32} {σ : zSt} {a : Unit} {τ : zSt} (h : fJ0_checkIndex_df160 N x0 x1 σ = some (a, τ)) : zCt l yJ0_checkIndex_df160 cJ0_checkIndex_df160 2 none rmJ0_checkIndex_df160 D ca xa A (zwC ad ca) [.int x0, .int x1] σ (zV a) τ := by
  refine z_met (inj := zV) (lv := [(0, .int x0), (1, .int x1)]) (by decide) (Nat.le_of_ble_eq_true rfl) rfl ?_ h
  intro p e s m args below meth c hc hr
  unfold fJ0_checkIndex_df160
  refine z_iload_n hc dJ0_checkIndex_df160_0 0 rfl ?_
  refine z_iload_n hc dJ0_checkIndex_df160_1 1 rfl ?_
  refine z_fmt hc zkf_fmt dJ0_checkIndex_df160_2 (fun u => ?_)
  refine z_runSi (As := [.int x0, .int x1, va_rf u]) (rest := []) hc dJ0_checkIndex_df160_5 (fun _ _ h => tJ3_checkIndex_8e157 u h) mpJ3_checkIndex_8e157 miJ3_checkIndex_8e157 zkm_chk ⟨rfl, rfl, Nat.le_of_ble_eq_true rfl, Nat.le_of_ble_eq_true rfl⟩ ⟨Nat.le_refl _, Nat.le_refl _⟩ rfl (Nat.le_of_ble_eq_true rfl) (fun b τ => ?_)
  refine z_pop hc dJ0_checkIndex_df160_8 rfl ?_
  exact z_vret hc hr dJ0_checkIndex_df160_9

set_option maxRecDepth 100000 in
set_option maxHeartbeats 4000000 in
theorem tX3_isNumber {l : Launch} {D : va_G} {ca : Nat → ClassId} {xa ad : Nat → Nat} {A : Nat → Prop} {N : Nat} {x1 : Int32} {σ : zSt} {a : Int32} {τ : zSt} (h : fX3_isNumber N x1 σ = some (a, τ)) : zCt l yX3_isNumber cX3_isNumber 2 (some .boolean) rmX3_isNumber D ca xa A (zwC ad ca) [.ref (ad 1), .int x1] σ (zI a) τ := by
  refine z_met (inj := zI) (lv := [(0, .ref (ad 1)), (1, .int x1)]) (by decide) (Nat.le_of_ble_eq_true rfl) rfl ?_ h
  intro p e s m args below meth c hc hr
  unfold fX3_isNumber
  refine z_iload_n hc dX3_isNumber_0 1 rfl ?_
  refine z_if_lt (tgt := 14) hc dX3_isNumber_1 (by decide) ?_ ?_
  · refine z_iconst (v := (0 : Int32)) hc dX3_isNumber_14 (by decide) ?_
    exact z_zret hc hr dX3_isNumber_15
  · refine z_iload_n hc dX3_isNumber_4 1 rfl ?_
    refine z_bipush (v := (8 : Int32)) hc dX3_isNumber_5 (by decide) ?_
    refine z_icmp_ge (tgt := 14) hc dX3_isNumber_7 (by decide) ?_ ?_
    · refine z_iconst (v := (0 : Int32)) hc dX3_isNumber_14 (by decide) ?_
      exact z_zret hc hr dX3_isNumber_15
    · refine z_iconst (v := (1 : Int32)) hc dX3_isNumber_10 (by decide) ?_
      refine z_goto (tgt := 15) hc dX3_isNumber_11 (by decide) ?_
      exact z_zret hc hr dX3_isNumber_15
set_option maxRecDepth 100000 in
set_option maxHeartbeats 4000000 in
theorem tX7_isWithin {l : Launch} {D : va_G} {ca : Nat → ClassId} {xa ad : Nat → Nat} {A : Nat → Prop} {N : Nat} {x0 : Int32} {x1 : Int32} {x2 : Int32} {σ : zSt} {a : Int32} {τ : zSt} (h : fX7_isWithin N x0 x1 x2 σ = some (a, τ)) : zCt l yX7_isWithin cX7_isWithin 3 (some .boolean) rmX7_isWithin D ca xa A (zwC ad ca) [.int x0, .int x1, .int x2] σ (zI a) τ := by
  refine z_met (inj := zI) (lv := [(0, .int x0), (1, .int x1), (2, .int x2)]) (by decide) (Nat.le_of_ble_eq_true rfl) rfl ?_ h
  intro p e s m args below meth c hc hr
  unfold fX7_isWithin
  refine z_iload_n hc dX7_isWithin_0 0 rfl ?_
  refine z_iload_n hc dX7_isWithin_1 1 rfl ?_
  refine z_icmp_lt (tgt := 14) hc dX7_isWithin_2 (by decide) ?_ ?_
  · refine z_iconst (v := (0 : Int32)) hc dX7_isWithin_14 (by decide) ?_
    exact z_zret hc hr dX7_isWithin_15
  · refine z_iload_n hc dX7_isWithin_5 0 rfl ?_
    refine z_iload_n hc dX7_isWithin_6 2 rfl ?_
    refine z_icmp_gt (tgt := 14) hc dX7_isWithin_7 (by decide) ?_ ?_
    · refine z_iconst (v := (0 : Int32)) hc dX7_isWithin_14 (by decide) ?_
      exact z_zret hc hr dX7_isWithin_15
    · refine z_iconst (v := (1 : Int32)) hc dX7_isWithin_10 (by decide) ?_
      refine z_goto (tgt := 15) hc dX7_isWithin_11 (by decide) ?_
      exact z_zret hc hr dX7_isWithin_15
set_option maxRecDepth 100000 in
set_option maxHeartbeats 4000000 in
theorem tX7_found {l : Launch} {D : va_G} {ca : Nat → ClassId} {xa ad : Nat → Nat} {A : Nat → Prop} {N : Nat} {x1 : Int32} {σ : zSt} {a : Int32} {τ : zSt} (h : fX7_found N x1 σ = some (a, τ)) : zCt l yX7_found cX7_found 2 (some .int) rmX7_found D ca xa A (zwC ad ca) [.ref (ad 0), .int x1] σ (zI a) τ := by
  refine z_met (inj := zI) (lv := [(0, .ref (ad 0)), (1, .int x1)]) (by decide) (Nat.le_of_ble_eq_true rfl) rfl ?_ h
  intro p e s m args below meth c hc hr
  unfold fX7_found
  refine z_aload_n hc dX7_found_0 0 rfl ?_
  refine z_iload_n hc dX7_found_1 1 rfl ?_
  refine pfX7_55 hc dX7_found_2 (fun σ1 => ?_)
  refine z_ldcw hc kcX7_306 dX7_found_5 ?_
  refine z_iload_n hc dX7_found_8 1 rfl ?_
  refine z_isub hc dX7_found_9 ?_
  exact z_iret hc hr dX7_found_10
set_option maxRecDepth 100000 in
set_option maxHeartbeats 4000000 in
theorem tX3_lay_17 {p : Program} {l : Launch} {e : Env} {s : State} {m : MethodId} {args : Array Value} {below : List Frame} {meth : Method} {c : Code} {D : va_G} {ca : Nat → ClassId} {xa ad : Nat → Nat} {A : Nat → Prop} (hc : zCx p s m args meth c cX3_lay 5 RX3 D ca xa A (zwC ad ca)) (hr : meth.sig.returnType = none) (N : Nat)   : ∀ (n : Nat) (x1 : Int32) (x4 : Int32) (σ : zSt), zGO p l e rmX3_lay s m args below meth c 0 0 (zwC ad ca) D A 5 (zQ below D A (zwC ad ca) args s zV) (fX3_lay_17 N n x1 x4 σ) σ 17 [(0, .ref (ad 1)), (1, .int x1), (4, .int x4)] [] := by
  intro n
  induction n with
  | zero =>
    intro x1 x4 σ
    exact z_none
  | succ n ih =>
    intro x1 x4 σ
    unfold fX3_lay_17
    refine z_iload hc dX3_lay_17 2 rfl ?_
    refine z_bipush (v := (40 : Int32)) hc dX3_lay_19 (by decide) ?_
    refine z_icmp_ge (tgt := 43) hc dX3_lay_21 (by decide) ?_ ?_
    · exact z_vret hc hr dX3_lay_43
    · refine z_aload_n hc dX3_lay_24 0 rfl ?_
      refine gfX3_9 hc dX3_lay_25 ?_
      refine z_iload_n hc dX3_lay_28 1 rfl ?_
      refine z_bipush (v := (40 : Int32)) hc dX3_lay_29 (by decide) ?_
      refine z_imul hc dX3_lay_31 ?_
      refine z_iload hc dX3_lay_32 2 rfl ?_
      refine z_iadd hc dX3_lay_34 ?_
      refine z_iconst (v := (0 : Int32)) hc dX3_lay_35 (by decide) ?_
      refine z_iastore hc 2 (by decide) (fun _ _ => rfl) dX3_lay_36 (fun σ1 => ?_)
      refine z_iinc (v := (x4 + (1 : Int32))) (lv' := [(4, .int (x4 + (1 : Int32))), (0, .ref (ad 1)), (1, .int x1)]) hc dX3_lay_37 2 rfl rfl (by decide) rfl ?_
      refine z_goto (tgt := 17) hc dX3_lay_40 (by decide) ?_
      refine z_sub [1, 2, 0] rfl ?_
      exact ih _ _ _
set_option maxRecDepth 100000 in
set_option maxHeartbeats 4000000 in
theorem tX3_lay {l : Launch} {D : va_G} {ca : Nat → ClassId} {xa ad : Nat → Nat} {A : Nat → Prop} {N : Nat} {x1 : Int32} {x2 : Int32} {x3 : Int32} {σ : zSt} {a : Unit} {τ : zSt} (h : fX3_lay N x1 x2 x3 σ = some (a, τ)) : zCt l yX3_lay cX3_lay 5 none rmX3_lay D ca xa A (zwC ad ca) [.ref (ad 1), .int x1, .int x2, .int x3] σ (zV a) τ := by
  refine z_met (inj := zV) (lv := [(0, .ref (ad 1)), (1, .int x1), (2, .int x2), (3, .int x3)]) (by decide) (Nat.le_of_ble_eq_true rfl) rfl ?_ h
  intro p e s m args below meth c hc hr
  unfold fX3_lay
  refine z_aload_n hc dX3_lay_0 0 rfl ?_
  refine gfX3_13 hc dX3_lay_1 ?_
  refine z_iload_n hc dX3_lay_4 1 rfl ?_
  refine z_iload_n hc dX3_lay_5 2 rfl ?_
  refine z_iastore hc 3 (by decide) (fun _ _ => rfl) dX3_lay_6 (fun σ1 => ?_)
  refine z_aload_n hc dX3_lay_7 0 rfl ?_
  refine gfX3_16 hc dX3_lay_8 ?_
  refine z_iload_n hc dX3_lay_11 1 rfl ?_
  refine z_iload_n hc dX3_lay_12 3 rfl ?_
  refine z_iastore hc 4 (by decide) (fun _ _ => rfl) dX3_lay_13 (fun σ2 => ?_)
  refine z_iconst (v := (0 : Int32)) hc dX3_lay_14 (by decide) ?_
  refine z_istore (lv' := [(4, .int (0 : Int32)), (0, .ref (ad 1)), (1, .int x1), (2, .int x2), (3, .int x3)]) hc dX3_lay_15 (by decide) rfl ?_
  refine z_sub [1, 2, 0] rfl ?_
  exact tX3_lay_17 hc hr N N _ _ _
set_option maxRecDepth 100000 in
set_option maxHeartbeats 4000000 in
theorem tX7_unfound {l : Launch} {D : va_G} {ca : Nat → ClassId} {xa ad : Nat → Nat} {A : Nat → Prop} {N : Nat} {x1 : Int32} {σ : zSt} {a : Int32} {τ : zSt} (h : fX7_unfound N x1 σ = some (a, τ)) : zCt l yX7_unfound cX7_unfound 2 (some .int) rmX7_unfound D ca xa A (zwC ad ca) [.ref (ad 0), .int x1] σ (zI a) τ := by
  refine z_met (inj := zI) (lv := [(0, .ref (ad 0)), (1, .int x1)]) (by decide) (Nat.le_of_ble_eq_true rfl) rfl ?_ h
  intro p e s m args below meth c hc hr
  unfold fX7_unfound
  refine z_aload_n hc dX7_unfound_0 0 rfl ?_
  refine z_iconst (v := (0 : Int32)) hc dX7_unfound_1 (by decide) ?_
  refine pfX7_55 hc dX7_unfound_2 (fun σ1 => ?_)
  refine z_iload_n hc dX7_unfound_5 1 rfl ?_
  exact z_iret hc hr dX7_unfound_6
set_option maxRecDepth 100000 in
set_option maxHeartbeats 4000000 in
theorem tX7_sheet {l : Launch} {D : va_G} {ca : Nat → ClassId} {xa ad : Nat → Nat} {A : Nat → Prop} {N : Nat} {x1 : Int32} {x2 : Int32} {x3 : Int32} {σ : zSt} {a : Int32} {τ : zSt} (h : fX7_sheet N x1 x2 x3 σ = some (a, τ)) : zCt l yX7_sheet cX7_sheet 4 (some .int) rmX7_sheet D ca xa A (zwC ad ca) [.ref (ad 0), .int x1, .int x2, .int x3] σ (zI a) τ := by
  refine z_met (inj := zI) (lv := [(0, .ref (ad 0)), (1, .int x1), (2, .int x2), (3, .int x3)]) (by decide) (Nat.le_of_ble_eq_true rfl) rfl ?_ h
  intro p e s m args below meth c hc hr
  unfold fX7_sheet
  refine z_aload_n hc dX7_sheet_0 0 rfl ?_
  refine gfX7_10 hc dX7_sheet_1 ?_
  refine z_iload_n hc dX7_sheet_4 1 rfl ?_
  refine z_runVNi (b0 := ad 1) (As := [.int x1]) (rest := []) hc dX7_sheet_5 (fun _ _ h => tX3_isNumber h) mpX3_isNumber miX3_isNumber kmX7_58 ⟨rfl, rfl, Nat.le_of_ble_eq_true rfl, Nat.le_of_ble_eq_true rfl⟩ ⟨Nat.le_refl _, Nat.le_refl _⟩ zcC_rc1 rfl (Nat.le_of_ble_eq_true rfl) (fun b1 σ2 => ?_)
  refine z_if_eq (tgt := 26) hc dX7_sheet_8 (by decide) ?_ ?_
  · refine z_ldc hc dX7_sheet_26 kcX7_66 ?_
    exact z_iret hc hr dX7_sheet_28
  · refine z_iload_n hc dX7_sheet_11 2 rfl ?_
    refine z_iconst (v := (0 : Int32)) hc dX7_sheet_12 (by decide) ?_
    refine z_iconst (v := (2 : Int32)) hc dX7_sheet_13 (by decide) ?_
    refine z_runSi (As := [.int x2, .int (0 : Int32), .int (2 : Int32)]) (rest := []) hc dX7_sheet_14 (fun _ _ h => tX7_isWithin h) mpX7_isWithin miX7_isWithin kmX7_62 ⟨rfl, rfl, Nat.le_of_ble_eq_true rfl, Nat.le_of_ble_eq_true rfl⟩ ⟨Nat.le_refl _, Nat.le_refl _⟩ rfl (Nat.le_of_ble_eq_true rfl) (fun b3 σ4 => ?_)
    refine z_if_eq (tgt := 26) hc dX7_sheet_17 (by decide) ?_ ?_
    · refine z_ldc hc dX7_sheet_26 kcX7_66 ?_
      exact z_iret hc hr dX7_sheet_28
    · refine z_iload_n hc dX7_sheet_20 3 rfl ?_
      refine z_bipush (v := (40 : Int32)) hc dX7_sheet_21 (by decide) ?_
      refine z_icmp_le (tgt := 29) hc dX7_sheet_23 (by decide) ?_ ?_
      · refine z_iload_n hc dX7_sheet_29 3 rfl ?_
        refine z_if_ge (tgt := 39) hc dX7_sheet_30 (by decide) ?_ ?_
        · refine z_aload_n hc dX7_sheet_39 0 rfl ?_
          refine gfX7_10 hc dX7_sheet_40 ?_
          refine z_iload_n hc dX7_sheet_43 1 rfl ?_
          refine z_iload_n hc dX7_sheet_44 2 rfl ?_
          refine z_iload_n hc dX7_sheet_45 3 rfl ?_
          refine z_runVNv (b0 := ad 1) (As := [.int x1, .int x2, .int x3]) (rest := []) hc dX7_sheet_46 (fun _ _ h => tX3_lay h) mpX3_lay miX3_lay kmX7_71 ⟨rfl, rfl, Nat.le_of_ble_eq_true rfl, Nat.le_of_ble_eq_true rfl⟩ ⟨Nat.le_refl _, Nat.le_refl _⟩ zcC_rc1 rfl (Nat.le_of_ble_eq_true rfl) (fun b5 σ6 => ?_)
          refine z_aload_n hc dX7_sheet_49 0 rfl ?_
          refine z_iload_n hc dX7_sheet_50 3 rfl ?_
          refine z_runVi (b0 := ad 0) (As := [.int x3]) (rest := []) hc dX7_sheet_51 (fun _ _ h => tX7_unfound h) mpX7_unfound miX7_unfound kmX7_75 ⟨rfl, rfl, Nat.le_of_ble_eq_true rfl, Nat.le_of_ble_eq_true rfl⟩ ⟨Nat.le_refl _, Nat.le_refl _⟩ zcC_rc0 rfl (Nat.le_of_ble_eq_true rfl) (fun b7 σ8 => ?_)
          exact z_iret hc hr dX7_sheet_54
        · refine z_aload_n hc dX7_sheet_33 0 rfl ?_
          refine z_iconst (v := (4 : Int32)) hc dX7_sheet_34 (by decide) ?_
          refine z_runVi (b0 := ad 0) (As := [.int (4 : Int32)]) (rest := []) hc dX7_sheet_35 (fun _ _ h => tX7_found h) mpX7_found miX7_found kmX7_67 ⟨rfl, rfl, Nat.le_of_ble_eq_true rfl, Nat.le_of_ble_eq_true rfl⟩ ⟨Nat.le_refl _, Nat.le_refl _⟩ zcC_rc0 rfl (Nat.le_of_ble_eq_true rfl) (fun b9 σ10 => ?_)
          exact z_iret hc hr dX7_sheet_38
      · refine z_ldc hc dX7_sheet_26 kcX7_66 ?_
        exact z_iret hc hr dX7_sheet_28
set_option maxRecDepth 100000 in
set_option maxHeartbeats 4000000 in
theorem tX8_in {l : Launch} {D : va_G} {ca : Nat → ClassId} {xa ad : Nat → Nat} {A : Nat → Prop} {N : Nat} {y0 : Int64} {y2 : Int64} {y4 : Int64} {σ : zSt} {a : Int32} {τ : zSt} (h : fX8_in N y0 y2 y4 σ = some (a, τ)) : zCt l yX8_in cX8_in 6 (some .boolean) rmX8_in D ca xa A (zwM ad ca) [.long y0, .long y2, .long y4] σ (zI a) τ := by
  refine z_met (inj := zI) (lv := [(0, .long y0), (2, .long y2), (4, .long y4)]) (by decide) (Nat.le_of_ble_eq_true rfl) rfl ?_ h
  intro p e s m args below meth c hc hr
  unfold fX8_in
  refine z_lload_n hc dX8_in_0 0 rfl ?_
  refine z_lload_n hc dX8_in_1 1 rfl ?_
  refine z_lcmp_lt (tgt := 17) hc dX8_in_2 dX8_in_3 (by decide) ?_ ?_
  · refine z_iconst (v := (0 : Int32)) hc dX8_in_17 (by decide) ?_
    exact z_zret hc hr dX8_in_18
  · refine z_lload_n hc dX8_in_6 0 rfl ?_
    refine z_lload hc dX8_in_7 2 rfl ?_
    refine z_lcmp_gt (tgt := 17) hc dX8_in_9 dX8_in_10 (by decide) ?_ ?_
    · refine z_iconst (v := (0 : Int32)) hc dX8_in_17 (by decide) ?_
      exact z_zret hc hr dX8_in_18
    · refine z_iconst (v := (1 : Int32)) hc dX8_in_13 (by decide) ?_
      refine z_goto (tgt := 18) hc dX8_in_14 (by decide) ?_
      exact z_zret hc hr dX8_in_18
set_option maxRecDepth 100000 in
set_option maxHeartbeats 4000000 in
theorem tX8_isSheet {l : Launch} {D : va_G} {ca : Nat → ClassId} {xa ad : Nat → Nat} {A : Nat → Prop} {N : Nat} {x0 : Int32} {σ : zSt} {a : Int32} {τ : zSt} (h : fX8_isSheet N x0 σ = some (a, τ)) : zCt l yX8_isSheet cX8_isSheet 1 (some .boolean) rmX8_isSheet D ca xa A (zwM ad ca) [.int x0] σ (zI a) τ := by
  refine z_met (inj := zI) (lv := [(0, .int x0)]) (by decide) (Nat.le_of_ble_eq_true rfl) rfl ?_ h
  intro p e s m args below meth c hc hr
  unfold fX8_isSheet
  refine z_iload_n hc dX8_isSheet_0 0 rfl ?_
  refine z_i2l hc dX8_isSheet_1 ?_
  refine z_lconst (v := (0 : Int64)) hc dX8_isSheet_2 (by decide) ?_
  refine z_ldc2 hc dX8_isSheet_3 kcX8_86 ?_
  refine z_runSi (As := [.long x0.toInt64, .long (0 : Int64), .long (7 : Int64)]) (rest := []) hc dX8_isSheet_6 (fun _ _ h => tX8_in h) mpX8_in miX8_in kmX8_88 ⟨rfl, rfl, Nat.le_of_ble_eq_true rfl, Nat.le_of_ble_eq_true rfl⟩ ⟨Nat.le_refl _, Nat.le_refl _⟩ rfl (Nat.le_of_ble_eq_true rfl) (fun b1 σ2 => ?_)
  exact z_zret hc hr dX8_isSheet_9
set_option maxRecDepth 100000 in
set_option maxHeartbeats 4000000 in
theorem tX8_finding {l : Launch} {D : va_G} {ca : Nat → ClassId} {xa ad : Nat → Nat} {A : Nat → Prop} {N : Nat} {x1 : Int32} {σ : zSt} {a : Int32} {τ : zSt} (h : fX8_finding N x1 σ = some (a, τ)) : zCt l yX8_finding cX8_finding 2 (some .int) rmX8_finding D ca xa A (zwM ad ca) [.ref (ad 0), .int x1] σ (zI a) τ := by
  refine z_met (inj := zI) (lv := [(0, .ref (ad 0)), (1, .int x1)]) (by decide) (Nat.le_of_ble_eq_true rfl) rfl ?_ h
  intro p e s m args below meth c hc hr
  unfold fX8_finding
  refine z_aload_n hc dX8_finding_0 0 rfl ?_
  refine z_iload_n hc dX8_finding_1 1 rfl ?_
  refine pfX8_82 hc dX8_finding_2 (fun σ1 => ?_)
  refine z_ldc hc dX8_finding_5 kcX8_85 ?_
  refine z_iload_n hc dX8_finding_7 1 rfl ?_
  refine z_isub hc dX8_finding_8 ?_
  exact z_iret hc hr dX8_finding_9
set_option maxRecDepth 100000 in
set_option maxHeartbeats 4000000 in
theorem tX8_sheet_65 {p : Program} {l : Launch} {e : Env} {s : State} {m : MethodId} {args : Array Value} {below : List Frame} {meth : Method} {c : Code} {D : va_G} {ca : Nat → ClassId} {xa ad : Nat → Nat} {A : Nat → Prop} (hc : zCx p s m args meth c cX8_sheet 5 RX8 D ca xa A (zwM ad ca)) (hr : meth.sig.returnType = (some .int)) (N : Nat)   : ∀ (n : Nat) (x1 : Int32) (x3 : Int32) (x4 : Int32) (σ : zSt), zGO p l e rmX8_sheet s m args below meth c 0 0 (zwM ad ca) D A 5 (zQ below D A (zwM ad ca) args s zI) (fX8_sheet_65 N n x1 x3 x4 σ) σ 65 [(0, .ref (ad 0)), (1, .int x1), (3, .int x3), (4, .int x4)] [] := by
  intro n
  induction n with
  | zero =>
    intro x1 x3 x4 σ
    exact z_none
  | succ n ih =>
    intro x1 x3 x4 σ
    unfold fX8_sheet_65
    refine z_iload hc dX8_sheet_65 3 rfl ?_
    refine z_bipush (v := (40 : Int32)) hc dX8_sheet_67 (by decide) ?_
    refine z_icmp_ge (tgt := 91) hc dX8_sheet_69 (by decide) ?_ ?_
    · refine z_iload_n hc dX8_sheet_91 2 rfl ?_
      exact z_iret hc hr dX8_sheet_92
    · refine z_aload_n hc dX8_sheet_72 0 rfl ?_
      refine gfX8_16 hc dX8_sheet_73 ?_
      refine z_bipush (v := (40 : Int32)) hc dX8_sheet_76 (by decide) ?_
      refine z_iload_n hc dX8_sheet_78 1 rfl ?_
      refine z_imul hc dX8_sheet_79 ?_
      refine z_iload hc dX8_sheet_80 3 rfl ?_
      refine z_iadd hc dX8_sheet_82 ?_
      refine z_iconst (v := (0 : Int32)) hc dX8_sheet_83 (by decide) ?_
      refine z_iastore hc 3 (by decide) (fun _ _ => rfl) dX8_sheet_84 (fun σ1 => ?_)
      refine z_iinc (v := (x4 + (1 : Int32))) (lv' := [(4, .int (x4 + (1 : Int32))), (0, .ref (ad 0)), (1, .int x1), (3, .int x3)]) hc dX8_sheet_85 3 rfl rfl (by decide) rfl ?_
      refine z_goto (tgt := 65) hc dX8_sheet_88 (by decide) ?_
      refine z_sub [1, 2, 3, 0] rfl ?_
      exact ih _ _ _ _
set_option maxRecDepth 100000 in
set_option maxHeartbeats 4000000 in
theorem tX8_sheet {l : Launch} {D : va_G} {ca : Nat → ClassId} {xa ad : Nat → Nat} {A : Nat → Prop} {N : Nat} {x1 : Int32} {x2 : Int32} {x3 : Int32} {σ : zSt} {a : Int32} {τ : zSt} (h : fX8_sheet N x1 x2 x3 σ = some (a, τ)) : zCt l yX8_sheet cX8_sheet 5 (some .int) rmX8_sheet D ca xa A (zwM ad ca) [.ref (ad 0), .int x1, .int x2, .int x3] σ (zI a) τ := by
  refine z_met (inj := zI) (lv := [(0, .ref (ad 0)), (1, .int x1), (2, .int x2), (3, .int x3)]) (by decide) (Nat.le_of_ble_eq_true rfl) rfl ?_ h
  intro p e s m args below meth c hc hr
  unfold fX8_sheet
  refine z_aload_n hc dX8_sheet_0 0 rfl ?_
  refine z_iconst (v := (0 : Int32)) hc dX8_sheet_1 (by decide) ?_
  refine pfX8_78 hc dX8_sheet_2 (fun σ1 => ?_)
  refine z_iload_n hc dX8_sheet_5 1 rfl ?_
  refine z_runSi (As := [.int x1]) (rest := []) hc dX8_sheet_6 (fun _ _ h => tX8_isSheet h) mpX8_isSheet miX8_isSheet kmX8_92 ⟨rfl, rfl, Nat.le_of_ble_eq_true rfl, Nat.le_of_ble_eq_true rfl⟩ ⟨Nat.le_refl _, Nat.le_refl _⟩ rfl (Nat.le_of_ble_eq_true rfl) (fun b2 σ3 => ?_)
  refine z_if_eq (tgt := 30) hc dX8_sheet_9 (by decide) ?_ ?_
  · refine z_ldc hc dX8_sheet_30 kcX8_98 ?_
    exact z_iret hc hr dX8_sheet_32
  · refine z_iload_n hc dX8_sheet_12 2 rfl ?_
    refine z_i2l hc dX8_sheet_13 ?_
    refine z_lconst (v := (0 : Int64)) hc dX8_sheet_14 (by decide) ?_
    refine z_ldc2 hc dX8_sheet_15 kcX8_96 ?_
    refine z_runSi (As := [.long x2.toInt64, .long (0 : Int64), .long (2 : Int64)]) (rest := []) hc dX8_sheet_18 (fun _ _ h => tX8_in h) mpX8_in miX8_in kmX8_88 ⟨rfl, rfl, Nat.le_of_ble_eq_true rfl, Nat.le_of_ble_eq_true rfl⟩ ⟨Nat.le_refl _, Nat.le_refl _⟩ rfl (Nat.le_of_ble_eq_true rfl) (fun b4 σ5 => ?_)
    refine z_if_eq (tgt := 30) hc dX8_sheet_21 (by decide) ?_ ?_
    · refine z_ldc hc dX8_sheet_30 kcX8_98 ?_
      exact z_iret hc hr dX8_sheet_32
    · refine z_iload_n hc dX8_sheet_24 3 rfl ?_
      refine z_bipush (v := (40 : Int32)) hc dX8_sheet_25 (by decide) ?_
      refine z_icmp_le (tgt := 33) hc dX8_sheet_27 (by decide) ?_ ?_
      · refine z_aload_n hc dX8_sheet_33 0 rfl ?_
        refine z_iconst (v := (0 : Int32)) hc dX8_sheet_34 (by decide) ?_
        refine pfX8_82 hc dX8_sheet_35 (fun σ6 => ?_)
        refine z_iload_n hc dX8_sheet_38 3 rfl ?_
        refine z_if_ge (tgt := 48) hc dX8_sheet_39 (by decide) ?_ ?_
        · refine z_aload_n hc dX8_sheet_48 0 rfl ?_
          refine gfX8_7 hc dX8_sheet_49 ?_
          refine z_iload_n hc dX8_sheet_52 1 rfl ?_
          refine z_iload_n hc dX8_sheet_53 2 rfl ?_
          refine z_iastore hc 1 (by decide) (fun _ _ => rfl) dX8_sheet_54 (fun σ7 => ?_)
          refine z_aload_n hc dX8_sheet_55 0 rfl ?_
          refine gfX8_13 hc dX8_sheet_56 ?_
          refine z_iload_n hc dX8_sheet_59 1 rfl ?_
          refine z_iload_n hc dX8_sheet_60 3 rfl ?_
          refine z_iastore hc 2 (by decide) (fun _ _ => rfl) dX8_sheet_61 (fun σ8 => ?_)
          refine z_iconst (v := (0 : Int32)) hc dX8_sheet_62 (by decide) ?_
          refine z_istore (lv' := [(4, .int (0 : Int32)), (0, .ref (ad 0)), (1, .int x1), (2, .int x2), (3, .int x3)]) hc dX8_sheet_63 (by decide) rfl ?_
          refine z_sub [1, 2, 4, 0] rfl ?_
          exact tX8_sheet_65 hc hr N N _ _ _ _
        · refine z_aload_n hc dX8_sheet_42 0 rfl ?_
          refine z_iconst (v := (4 : Int32)) hc dX8_sheet_43 (by decide) ?_
          refine z_runVi (b0 := ad 0) (As := [.int (4 : Int32)]) (rest := []) hc dX8_sheet_44 (fun _ _ h => tX8_finding h) mpX8_finding miX8_finding kmX8_99 ⟨rfl, rfl, Nat.le_of_ble_eq_true rfl, Nat.le_of_ble_eq_true rfl⟩ ⟨Nat.le_refl _, Nat.le_refl _⟩ zcM_rc0 rfl (Nat.le_of_ble_eq_true rfl) (fun b9 σ10 => ?_)
          exact z_iret hc hr dX8_sheet_47
      · refine z_ldc hc dX8_sheet_30 kcX8_98 ?_
        exact z_iret hc hr dX8_sheet_32
set_option maxRecDepth 100000 in
set_option maxHeartbeats 4000000 in
theorem tX3_isMissing {l : Launch} {D : va_G} {ca : Nat → ClassId} {xa ad : Nat → Nat} {A : Nat → Prop} {N : Nat} {x1 : Int32} {σ : zSt} {a : Int32} {τ : zSt} (h : fX3_isMissing N x1 σ = some (a, τ)) : zCt l yX3_isMissing cX3_isMissing 2 (some .boolean) rmX3_isMissing D ca xa A (zwC ad ca) [.ref (ad 1), .int x1] σ (zI a) τ := by
  refine z_met (inj := zI) (lv := [(0, .ref (ad 1)), (1, .int x1)]) (by decide) (Nat.le_of_ble_eq_true rfl) rfl ?_ h
  intro p e s m args below meth c hc hr
  unfold fX3_isMissing
  refine z_aload_n hc dX3_isMissing_0 0 rfl ?_
  refine gfX3_16 hc dX3_isMissing_1 ?_
  refine z_iload_n hc dX3_isMissing_4 1 rfl ?_
  refine z_iaload hc 4 (by decide) rfl dX3_isMissing_5 (fun v1 => ?_)
  refine z_iconst (v := (-1 : Int32)) hc dX3_isMissing_6 (by decide) ?_
  refine z_icmp_ne (tgt := 14) hc dX3_isMissing_7 (by decide) ?_ ?_
  · refine z_iconst (v := (1 : Int32)) hc dX3_isMissing_10 (by decide) ?_
    refine z_goto (tgt := 15) hc dX3_isMissing_11 (by decide) ?_
    exact z_zret hc hr dX3_isMissing_15
  · refine z_iconst (v := (0 : Int32)) hc dX3_isMissing_14 (by decide) ?_
    exact z_zret hc hr dX3_isMissing_15
set_option maxRecDepth 100000 in
set_option maxHeartbeats 4000000 in
theorem tX3_hasPlaces {l : Launch} {D : va_G} {ca : Nat → ClassId} {xa ad : Nat → Nat} {A : Nat → Prop} {N : Nat} {x1 : Int32} {x2 : Int32} {x3 : Int32} {σ : zSt} {a : Int32} {τ : zSt} (h : fX3_hasPlaces N x1 x2 x3 σ = some (a, τ)) : zCt l yX3_hasPlaces cX3_hasPlaces 4 (some .boolean) rmX3_hasPlaces D ca xa A (zwC ad ca) [.ref (ad 1), .int x1, .int x2, .int x3] σ (zI a) τ := by
  refine z_met (inj := zI) (lv := [(0, .ref (ad 1)), (1, .int x1), (2, .int x2), (3, .int x3)]) (by decide) (Nat.le_of_ble_eq_true rfl) rfl ?_ h
  intro p e s m args below meth c hc hr
  unfold fX3_hasPlaces
  refine z_iload_n hc dX3_hasPlaces_0 2 rfl ?_
  refine z_if_lt (tgt := 24) hc dX3_hasPlaces_1 (by decide) ?_ ?_
  · refine z_iconst (v := (0 : Int32)) hc dX3_hasPlaces_24 (by decide) ?_
    exact z_zret hc hr dX3_hasPlaces_25
  · refine z_iload_n hc dX3_hasPlaces_4 3 rfl ?_
    refine z_if_lt (tgt := 24) hc dX3_hasPlaces_5 (by decide) ?_ ?_
    · refine z_iconst (v := (0 : Int32)) hc dX3_hasPlaces_24 (by decide) ?_
      exact z_zret hc hr dX3_hasPlaces_25
    · refine z_iload_n hc dX3_hasPlaces_8 3 rfl ?_
      refine z_aload_n hc dX3_hasPlaces_9 0 rfl ?_
      refine gfX3_16 hc dX3_hasPlaces_10 ?_
      refine z_iload_n hc dX3_hasPlaces_13 1 rfl ?_
      refine z_iaload hc 4 (by decide) rfl dX3_hasPlaces_14 (fun v1 => ?_)
      refine z_iload_n hc dX3_hasPlaces_15 2 rfl ?_
      refine z_isub hc dX3_hasPlaces_16 ?_
      refine z_icmp_gt (tgt := 24) hc dX3_hasPlaces_17 (by decide) ?_ ?_
      · refine z_iconst (v := (0 : Int32)) hc dX3_hasPlaces_24 (by decide) ?_
        exact z_zret hc hr dX3_hasPlaces_25
      · refine z_iconst (v := (1 : Int32)) hc dX3_hasPlaces_20 (by decide) ?_
        refine z_goto (tgt := 25) hc dX3_hasPlaces_21 (by decide) ?_
        exact z_zret hc hr dX3_hasPlaces_25
set_option maxRecDepth 100000 in
set_option maxHeartbeats 4000000 in
theorem tX3_put_30 {p : Program} {l : Launch} {e : Env} {s : State} {m : MethodId} {args : Array Value} {below : List Frame} {meth : Method} {c : Code} {D : va_G} {ca : Nat → ClassId} {xa ad : Nat → Nat} {A : Nat → Prop} (hc : zCx p s m args meth c cX3_put 5 RX3 D ca xa A (zwC ad ca)) (hr : meth.sig.returnType = (some .int)) (N : Nat)   (x1 : Int32) (x2 : Int32) (x4 : Int32) (σ : zSt) : zGO p l e rmX3_put s m args below meth c 0 0 (zwC ad ca) D A 5 (zQ below D A (zwC ad ca) args s zI) (fX3_put_30 N x1 x2 x4 σ) σ 30 [(0, .ref (ad 1)), (1, .int x1), (2, .int x2), (4, .int x4)] [] := by
  unfold fX3_put_30
  refine z_aload_n hc dX3_put_30 0 rfl ?_
  refine gfX3_9 hc dX3_put_31 ?_
  refine z_iload_n hc dX3_put_34 1 rfl ?_
  refine z_bipush (v := (40 : Int32)) hc dX3_put_35 (by decide) ?_
  refine z_imul hc dX3_put_37 ?_
  refine z_iload_n hc dX3_put_38 2 rfl ?_
  refine z_iadd hc dX3_put_39 ?_
  refine z_iload hc dX3_put_40 3 rfl ?_
  refine z_iastore hc 2 (by decide) (fun _ _ => rfl) dX3_put_42 (fun σ1 => ?_)
  refine z_iload hc dX3_put_43 3 rfl ?_
  exact z_iret hc hr dX3_put_45
set_option maxRecDepth 100000 in
set_option maxHeartbeats 4000000 in
theorem tX3_put_16 {p : Program} {l : Launch} {e : Env} {s : State} {m : MethodId} {args : Array Value} {below : List Frame} {meth : Method} {c : Code} {D : va_G} {ca : Nat → ClassId} {xa ad : Nat → Nat} {A : Nat → Prop} (hc : zCx p s m args meth c cX3_put 5 RX3 D ca xa A (zwC ad ca)) (hr : meth.sig.returnType = (some .int)) (N : Nat)   (x1 : Int32) (x2 : Int32) (x3 : Int32) (x4 : Int32) (σ : zSt) : zGO p l e rmX3_put s m args below meth c 0 0 (zwC ad ca) D A 5 (zQ below D A (zwC ad ca) args s zI) (fX3_put_16 N x1 x2 x3 x4 σ) σ 16 [(0, .ref (ad 1)), (1, .int x1), (2, .int x2), (3, .int x3), (4, .int x4)] [] := by
  unfold fX3_put_16
  refine z_aload_n hc dX3_put_16 0 rfl ?_
  refine gfX3_13 hc dX3_put_17 ?_
  refine z_iload_n hc dX3_put_20 1 rfl ?_
  refine z_iaload hc 3 (by decide) rfl dX3_put_21 (fun v1 => ?_)
  refine z_iconst (v := (1 : Int32)) hc dX3_put_22 (by decide) ?_
  refine z_icmp_ne (tgt := 30) hc dX3_put_23 (by decide) ?_ ?_
  · refine z_iload_n hc dX3_put_26 3 rfl ?_
    refine z_i2s hc dX3_put_27 ?_
    refine z_nm (fun v2 => ?_)
    refine z_istore (lv' := [(4, .int v2), (0, .ref (ad 1)), (1, .int x1), (2, .int x2), (3, .int x3)]) hc dX3_put_28 (by decide) rfl ?_
    refine z_sub [1, 2, 3, 0] rfl ?_
    exact tX3_put_30 hc hr N _ _ _ _
  · refine z_sub [0, 1, 2, 4] rfl ?_
    exact tX3_put_30 hc hr N _ _ _ _
set_option maxRecDepth 100000 in
set_option maxHeartbeats 4000000 in
theorem tX3_put {l : Launch} {D : va_G} {ca : Nat → ClassId} {xa ad : Nat → Nat} {A : Nat → Prop} {N : Nat} {x1 : Int32} {x2 : Int32} {x3 : Int32} {σ : zSt} {a : Int32} {τ : zSt} (h : fX3_put N x1 x2 x3 σ = some (a, τ)) : zCt l yX3_put cX3_put 5 (some .int) rmX3_put D ca xa A (zwC ad ca) [.ref (ad 1), .int x1, .int x2, .int x3] σ (zI a) τ := by
  refine z_met (inj := zI) (lv := [(0, .ref (ad 1)), (1, .int x1), (2, .int x2), (3, .int x3)]) (by decide) (Nat.le_of_ble_eq_true rfl) rfl ?_ h
  intro p e s m args below meth c hc hr
  unfold fX3_put
  refine z_iload_n hc dX3_put_0 3 rfl ?_
  refine z_istore (lv' := [(4, .int x3), (0, .ref (ad 1)), (1, .int x1), (2, .int x2), (3, .int x3)]) hc dX3_put_1 (by decide) rfl ?_
  refine z_aload_n hc dX3_put_3 1 rfl ?_
  refine gfX3_13 hc dX3_put_4 ?_
  refine z_iload_n hc dX3_put_7 2 rfl ?_
  refine z_iaload hc 3 (by decide) rfl dX3_put_8 (fun v1 => ?_)
  refine z_if_ne (tgt := 16) hc dX3_put_9 (by decide) ?_ ?_
  · refine z_iload_n hc dX3_put_12 4 rfl ?_
    refine z_i2b hc dX3_put_13 ?_
    refine z_nm (fun v2 => ?_)
    refine z_istore (lv' := [(4, .int v2), (0, .ref (ad 1)), (1, .int x1), (2, .int x2), (3, .int x3)]) hc dX3_put_14 (by decide) rfl ?_
    refine z_sub [1, 2, 3, 4, 0] rfl ?_
    exact tX3_put_16 hc hr N _ _ _ _ _
  · refine z_sub [1, 2, 3, 4, 0] rfl ?_
    exact tX3_put_16 hc hr N _ _ _ _ _
set_option maxRecDepth 100000 in
set_option maxHeartbeats 4000000 in
theorem tX7_set {l : Launch} {D : va_G} {ca : Nat → ClassId} {xa ad : Nat → Nat} {A : Nat → Prop} {N : Nat} {x1 : Int32} {x2 : Int32} {x3 : Int32} {σ : zSt} {a : Int32} {τ : zSt} (h : fX7_set N x1 x2 x3 σ = some (a, τ)) : zCt l yX7_set cX7_set 4 (some .int) rmX7_set D ca xa A (zwC ad ca) [.ref (ad 0), .int x1, .int x2, .int x3] σ (zI a) τ := by
  refine z_met (inj := zI) (lv := [(0, .ref (ad 0)), (1, .int x1), (2, .int x2), (3, .int x3)]) (by decide) (Nat.le_of_ble_eq_true rfl) rfl ?_ h
  intro p e s m args below meth c hc hr
  unfold fX7_set
  refine z_aload_n hc dX7_set_0 0 rfl ?_
  refine gfX7_10 hc dX7_set_1 ?_
  refine z_iload_n hc dX7_set_4 1 rfl ?_
  refine z_runVNi (b0 := ad 1) (As := [.int x1]) (rest := []) hc dX7_set_5 (fun _ _ h => tX3_isNumber h) mpX3_isNumber miX3_isNumber kmX7_58 ⟨rfl, rfl, Nat.le_of_ble_eq_true rfl, Nat.le_of_ble_eq_true rfl⟩ ⟨Nat.le_refl _, Nat.le_refl _⟩ zcC_rc1 rfl (Nat.le_of_ble_eq_true rfl) (fun b1 σ2 => ?_)
  refine z_if_ne (tgt := 14) hc dX7_set_8 (by decide) ?_ ?_
  · refine z_ldc hc dX7_set_11 kcX7_66 ?_
    exact z_iret hc hr dX7_set_13
  · refine z_aload_n hc dX7_set_14 0 rfl ?_
    refine gfX7_10 hc dX7_set_15 ?_
    refine z_iload_n hc dX7_set_18 1 rfl ?_
    refine z_runVNi (b0 := ad 1) (As := [.int x1]) (rest := []) hc dX7_set_19 (fun _ _ h => tX3_isMissing h) mpX3_isMissing miX3_isMissing kmX7_78 ⟨rfl, rfl, Nat.le_of_ble_eq_true rfl, Nat.le_of_ble_eq_true rfl⟩ ⟨Nat.le_refl _, Nat.le_refl _⟩ zcC_rc1 rfl (Nat.le_of_ble_eq_true rfl) (fun b3 σ4 => ?_)
    refine z_if_eq (tgt := 31) hc dX7_set_22 (by decide) ?_ ?_
    · refine z_aload_n hc dX7_set_31 0 rfl ?_
      refine gfX7_10 hc dX7_set_32 ?_
      refine z_iload_n hc dX7_set_35 1 rfl ?_
      refine z_iload_n hc dX7_set_36 2 rfl ?_
      refine z_iconst (v := (1 : Int32)) hc dX7_set_37 (by decide) ?_
      refine z_runVNi (b0 := ad 1) (As := [.int x1, .int x2, .int (1 : Int32)]) (rest := []) hc dX7_set_38 (fun _ _ h => tX3_hasPlaces h) mpX3_hasPlaces miX3_hasPlaces kmX7_81 ⟨rfl, rfl, Nat.le_of_ble_eq_true rfl, Nat.le_of_ble_eq_true rfl⟩ ⟨Nat.le_refl _, Nat.le_refl _⟩ zcC_rc1 rfl (Nat.le_of_ble_eq_true rfl) (fun b5 σ6 => ?_)
      refine z_if_ne (tgt := 50) hc dX7_set_41 (by decide) ?_ ?_
      · refine z_aload_n hc dX7_set_44 0 rfl ?_
        refine z_iconst (v := (2 : Int32)) hc dX7_set_45 (by decide) ?_
        refine z_runVi (b0 := ad 0) (As := [.int (2 : Int32)]) (rest := []) hc dX7_set_46 (fun _ _ h => tX7_found h) mpX7_found miX7_found kmX7_67 ⟨rfl, rfl, Nat.le_of_ble_eq_true rfl, Nat.le_of_ble_eq_true rfl⟩ ⟨Nat.le_refl _, Nat.le_refl _⟩ zcC_rc0 rfl (Nat.le_of_ble_eq_true rfl) (fun b7 σ8 => ?_)
        exact z_iret hc hr dX7_set_49
      · refine z_aload_n hc dX7_set_50 0 rfl ?_
        refine z_aload_n hc dX7_set_51 0 rfl ?_
        refine gfX7_10 hc dX7_set_52 ?_
        refine z_iload_n hc dX7_set_55 1 rfl ?_
        refine z_iload_n hc dX7_set_56 2 rfl ?_
        refine z_iload_n hc dX7_set_57 3 rfl ?_
        refine z_runVNi (b0 := ad 1) (As := [.int x1, .int x2, .int x3]) (rest := [.ref (ad 0)]) hc dX7_set_58 (fun _ _ h => tX3_put h) mpX3_put miX3_put kmX7_84 ⟨rfl, rfl, Nat.le_of_ble_eq_true rfl, Nat.le_of_ble_eq_true rfl⟩ ⟨Nat.le_refl _, Nat.le_refl _⟩ zcC_rc1 rfl (Nat.le_of_ble_eq_true rfl) (fun b9 σ10 => ?_)
        refine z_runVi (b0 := ad 0) (As := [.int b9]) (rest := []) hc dX7_set_61 (fun _ _ h => tX7_unfound h) mpX7_unfound miX7_unfound kmX7_75 ⟨rfl, rfl, Nat.le_of_ble_eq_true rfl, Nat.le_of_ble_eq_true rfl⟩ ⟨Nat.le_refl _, Nat.le_refl _⟩ zcC_rc0 rfl (Nat.le_of_ble_eq_true rfl) (fun b11 σ12 => ?_)
        exact z_iret hc hr dX7_set_64
    · refine z_aload_n hc dX7_set_25 0 rfl ?_
      refine z_iconst (v := (1 : Int32)) hc dX7_set_26 (by decide) ?_
      refine z_runVi (b0 := ad 0) (As := [.int (1 : Int32)]) (rest := []) hc dX7_set_27 (fun _ _ h => tX7_found h) mpX7_found miX7_found kmX7_67 ⟨rfl, rfl, Nat.le_of_ble_eq_true rfl, Nat.le_of_ble_eq_true rfl⟩ ⟨Nat.le_refl _, Nat.le_refl _⟩ zcC_rc0 rfl (Nat.le_of_ble_eq_true rfl) (fun b13 σ14 => ?_)
      exact z_iret hc hr dX7_set_30
set_option maxRecDepth 100000 in
set_option maxHeartbeats 4000000 in
theorem tX8_set_99 {p : Program} {l : Launch} {e : Env} {s : State} {m : MethodId} {args : Array Value} {below : List Frame} {meth : Method} {c : Code} {D : va_G} {ca : Nat → ClassId} {xa ad : Nat → Nat} {A : Nat → Prop} (hc : zCx p s m args meth c cX8_set 4 RX8 D ca xa A (zwM ad ca)) (hr : meth.sig.returnType = (some .int)) (N : Nat)   (x1 : Int32) (x2 : Int32) (s0 : Int32) (s1 : Int32) (σ : zSt) : zGO p l e rmX8_set s m args below meth c 0 0 (zwM ad ca) D A 4 (zQ below D A (zwM ad ca) args s zI) (fX8_set_99 N x1 x2 s0 s1 σ) σ 99 [(0, .ref (ad 0)), (1, .int x1), (2, .int x2)] [.int s0, .int s1, .ref (ad 3)] := by
  unfold fX8_set_99
  refine z_iastore hc 3 (by decide) (fun _ _ => rfl) dX8_set_99 (fun σ1 => ?_)
  refine z_aload_n hc dX8_set_100 0 rfl ?_
  refine gfX8_16 hc dX8_set_101 ?_
  refine z_bipush (v := (40 : Int32)) hc dX8_set_104 (by decide) ?_
  refine z_iload_n hc dX8_set_106 1 rfl ?_
  refine z_imul hc dX8_set_107 ?_
  refine z_iload_n hc dX8_set_108 2 rfl ?_
  refine z_iadd hc dX8_set_109 ?_
  refine z_iaload hc 3 (by decide) rfl dX8_set_110 (fun v2 => ?_)
  exact z_iret hc hr dX8_set_111
set_option maxRecDepth 100000 in
set_option maxHeartbeats 4000000 in
theorem tX8_set {l : Launch} {D : va_G} {ca : Nat → ClassId} {xa ad : Nat → Nat} {A : Nat → Prop} {N : Nat} {x1 : Int32} {x2 : Int32} {x3 : Int32} {σ : zSt} {a : Int32} {τ : zSt} (h : fX8_set N x1 x2 x3 σ = some (a, τ)) : zCt l yX8_set cX8_set 4 (some .int) rmX8_set D ca xa A (zwM ad ca) [.ref (ad 0), .int x1, .int x2, .int x3] σ (zI a) τ := by
  refine z_met (inj := zI) (lv := [(0, .ref (ad 0)), (1, .int x1), (2, .int x2), (3, .int x3)]) (by decide) (Nat.le_of_ble_eq_true rfl) rfl ?_ h
  intro p e s m args below meth c hc hr
  unfold fX8_set
  refine z_aload_n hc dX8_set_0 0 rfl ?_
  refine z_iconst (v := (0 : Int32)) hc dX8_set_1 (by decide) ?_
  refine pfX8_78 hc dX8_set_2 (fun σ1 => ?_)
  refine z_iload_n hc dX8_set_5 1 rfl ?_
  refine z_runSi (As := [.int x1]) (rest := []) hc dX8_set_6 (fun _ _ h => tX8_isSheet h) mpX8_isSheet miX8_isSheet kmX8_92 ⟨rfl, rfl, Nat.le_of_ble_eq_true rfl, Nat.le_of_ble_eq_true rfl⟩ ⟨Nat.le_refl _, Nat.le_refl _⟩ rfl (Nat.le_of_ble_eq_true rfl) (fun b2 σ3 => ?_)
  refine z_if_ne (tgt := 15) hc dX8_set_9 (by decide) ?_ ?_
  · refine z_ldc hc dX8_set_12 kcX8_98 ?_
    exact z_iret hc hr dX8_set_14
  · refine z_aload_n hc dX8_set_15 0 rfl ?_
    refine z_iconst (v := (0 : Int32)) hc dX8_set_16 (by decide) ?_
    refine pfX8_82 hc dX8_set_17 (fun σ4 => ?_)
    refine z_aload_n hc dX8_set_20 0 rfl ?_
    refine gfX8_7 hc dX8_set_21 ?_
    refine z_iload_n hc dX8_set_24 1 rfl ?_
    refine z_iaload hc 1 (by decide) rfl dX8_set_25 (fun v5 => ?_)
    refine z_if_ge (tgt := 35) hc dX8_set_26 (by decide) ?_ ?_
    · refine z_iload_n hc dX8_set_35 2 rfl ?_
      refine z_i2l hc dX8_set_36 ?_
      refine z_lconst (v := (0 : Int64)) hc dX8_set_37 (by decide) ?_
      refine z_aload_n hc dX8_set_38 0 rfl ?_
      refine gfX8_13 hc dX8_set_39 ?_
      refine z_iload_n hc dX8_set_42 1 rfl ?_
      refine z_iaload hc 2 (by decide) rfl dX8_set_43 (fun v6 => ?_)
      refine z_iconst (v := (1 : Int32)) hc dX8_set_44 (by decide) ?_
      refine z_isub hc dX8_set_45 ?_
      refine z_i2l hc dX8_set_46 ?_
      refine z_runSi (As := [.long x2.toInt64, .long (0 : Int64), .long (v6 - (1 : Int32)).toInt64]) (rest := []) hc dX8_set_47 (fun _ _ h => tX8_in h) mpX8_in miX8_in kmX8_88 ⟨rfl, rfl, Nat.le_of_ble_eq_true rfl, Nat.le_of_ble_eq_true rfl⟩ ⟨Nat.le_refl _, Nat.le_refl _⟩ rfl (Nat.le_of_ble_eq_true rfl) (fun b7 σ8 => ?_)
      refine z_if_ne (tgt := 59) hc dX8_set_50 (by decide) ?_ ?_
      · refine z_aload_n hc dX8_set_53 0 rfl ?_
        refine z_iconst (v := (2 : Int32)) hc dX8_set_54 (by decide) ?_
        refine z_runVi (b0 := ad 0) (As := [.int (2 : Int32)]) (rest := []) hc dX8_set_55 (fun _ _ h => tX8_finding h) mpX8_finding miX8_finding kmX8_99 ⟨rfl, rfl, Nat.le_of_ble_eq_true rfl, Nat.le_of_ble_eq_true rfl⟩ ⟨Nat.le_refl _, Nat.le_refl _⟩ zcM_rc0 rfl (Nat.le_of_ble_eq_true rfl) (fun b9 σ10 => ?_)
        exact z_iret hc hr dX8_set_58
      · refine z_aload_n hc dX8_set_59 0 rfl ?_
        refine gfX8_16 hc dX8_set_60 ?_
        refine z_bipush (v := (40 : Int32)) hc dX8_set_63 (by decide) ?_
        refine z_iload_n hc dX8_set_65 1 rfl ?_
        refine z_imul hc dX8_set_66 ?_
        refine z_iload_n hc dX8_set_67 2 rfl ?_
        refine z_iadd hc dX8_set_68 ?_
        refine z_aload_n hc dX8_set_69 0 rfl ?_
        refine gfX8_7 hc dX8_set_70 ?_
        refine z_iload_n hc dX8_set_73 1 rfl ?_
        refine z_iaload hc 1 (by decide) rfl dX8_set_74 (fun v11 => ?_)
        refine z_if_ne (tgt := 83) hc dX8_set_75 (by decide) ?_ ?_
        · refine z_iload_n hc dX8_set_78 3 rfl ?_
          refine z_i2b hc dX8_set_79 ?_
          refine z_goto (tgt := 99) hc dX8_set_80 (by decide) ?_
          refine z_sub [0, 1, 2] rfl ?_
          exact tX8_set_99 hc hr N _ _ _ _ _
        · refine z_aload_n hc dX8_set_83 0 rfl ?_
          refine gfX8_7 hc dX8_set_84 ?_
          refine z_iload_n hc dX8_set_87 1 rfl ?_
          refine z_iaload hc 1 (by decide) rfl dX8_set_88 (fun v12 => ?_)
          refine z_iconst (v := (1 : Int32)) hc dX8_set_89 (by decide) ?_
          refine z_icmp_ne (tgt := 98) hc dX8_set_90 (by decide) ?_ ?_
          · refine z_iload_n hc dX8_set_93 3 rfl ?_
            refine z_i2s hc dX8_set_94 ?_
            refine z_goto (tgt := 99) hc dX8_set_95 (by decide) ?_
            refine z_sub [0, 1, 2] rfl ?_
            exact tX8_set_99 hc hr N _ _ _ _ _
          · refine z_iload_n hc dX8_set_98 3 rfl ?_
            refine z_sub [0, 1, 2] rfl ?_
            exact tX8_set_99 hc hr N _ _ _ _ _
    · refine z_aload_n hc dX8_set_29 0 rfl ?_
      refine z_iconst (v := (1 : Int32)) hc dX8_set_30 (by decide) ?_
      refine z_runVi (b0 := ad 0) (As := [.int (1 : Int32)]) (rest := []) hc dX8_set_31 (fun _ _ h => tX8_finding h) mpX8_finding miX8_finding kmX8_99 ⟨rfl, rfl, Nat.le_of_ble_eq_true rfl, Nat.le_of_ble_eq_true rfl⟩ ⟨Nat.le_refl _, Nat.le_refl _⟩ zcM_rc0 rfl (Nat.le_of_ble_eq_true rfl) (fun b13 σ14 => ?_)
      exact z_iret hc hr dX8_set_34
set_option maxRecDepth 100000 in
set_option maxHeartbeats 4000000 in
theorem tX3_areOfOneLane {l : Launch} {D : va_G} {ca : Nat → ClassId} {xa ad : Nat → Nat} {A : Nat → Prop} {N : Nat} {x1 : Int32} {x2 : Int32} {σ : zSt} {a : Int32} {τ : zSt} (h : fX3_areOfOneLane N x1 x2 σ = some (a, τ)) : zCt l yX3_areOfOneLane cX3_areOfOneLane 3 (some .boolean) rmX3_areOfOneLane D ca xa A (zwC ad ca) [.ref (ad 1), .int x1, .int x2] σ (zI a) τ := by
  refine z_met (inj := zI) (lv := [(0, .ref (ad 1)), (1, .int x1), (2, .int x2)]) (by decide) (Nat.le_of_ble_eq_true rfl) rfl ?_ h
  intro p e s m args below meth c hc hr
  unfold fX3_areOfOneLane
  refine z_aload_n hc dX3_areOfOneLane_0 0 rfl ?_
  refine gfX3_13 hc dX3_areOfOneLane_1 ?_
  refine z_iload_n hc dX3_areOfOneLane_4 1 rfl ?_
  refine z_iaload hc 3 (by decide) rfl dX3_areOfOneLane_5 (fun v1 => ?_)
  refine z_aload_n hc dX3_areOfOneLane_6 0 rfl ?_
  refine gfX3_13 hc dX3_areOfOneLane_7 ?_
  refine z_iload_n hc dX3_areOfOneLane_10 2 rfl ?_
  refine z_iaload hc 3 (by decide) rfl dX3_areOfOneLane_11 (fun v2 => ?_)
  refine z_icmp_ne (tgt := 19) hc dX3_areOfOneLane_12 (by decide) ?_ ?_
  · refine z_iconst (v := (1 : Int32)) hc dX3_areOfOneLane_15 (by decide) ?_
    refine z_goto (tgt := 20) hc dX3_areOfOneLane_16 (by decide) ?_
    exact z_zret hc hr dX3_areOfOneLane_20
  · refine z_iconst (v := (0 : Int32)) hc dX3_areOfOneLane_19 (by decide) ?_
    exact z_zret hc hr dX3_areOfOneLane_20
set_option maxRecDepth 100000 in
set_option maxHeartbeats 4000000 in
theorem tX3_move {l : Launch} {D : va_G} {ca : Nat → ClassId} {xa ad : Nat → Nat} {A : Nat → Prop} {N : Nat} {x1 : Int32} {x2 : Int32} {x3 : Int32} {x4 : Int32} {x5 : Int32} {σ : zSt} {a : Unit} {τ : zSt} (h : fX3_move N x1 x2 x3 x4 x5 σ = some (a, τ)) : zCt l yX3_move cX3_move 6 none rmX3_move D ca xa A (zwC ad ca) [.ref (ad 1), .int x1, .int x2, .int x3, .int x4, .int x5] σ (zV a) τ := by
  refine z_met (inj := zV) (lv := [(0, .ref (ad 1)), (1, .int x1), (2, .int x2), (3, .int x3), (4, .int x4), (5, .int x5)]) (by decide) (Nat.le_of_ble_eq_true rfl) rfl ?_ h
  intro p e s m args below meth c hc hr
  unfold fX3_move
  refine z_aload_n hc dX3_move_0 0 rfl ?_
  refine gfX3_9 hc dX3_move_1 ?_
  refine z_iload_n hc dX3_move_4 1 rfl ?_
  refine z_bipush (v := (40 : Int32)) hc dX3_move_5 (by decide) ?_
  refine z_imul hc dX3_move_7 ?_
  refine z_iload_n hc dX3_move_8 2 rfl ?_
  refine z_iadd hc dX3_move_9 ?_
  refine z_aload_n hc dX3_move_10 0 rfl ?_
  refine gfX3_9 hc dX3_move_11 ?_
  refine z_iload_n hc dX3_move_14 3 rfl ?_
  refine z_bipush (v := (40 : Int32)) hc dX3_move_15 (by decide) ?_
  refine z_imul hc dX3_move_17 ?_
  refine z_iload hc dX3_move_18 4 rfl ?_
  refine z_iadd hc dX3_move_20 ?_
  refine z_iload hc dX3_move_21 5 rfl ?_
  refine z_copy hc 2 (by decide) (fun _ _ => rfl) kcpX3_19 ⟨Nat.le_of_ble_eq_true rfl, Nat.le_of_ble_eq_true rfl⟩ dX3_move_23 (fun σ1 => ?_)
  exact z_vret hc hr dX3_move_26
set_option maxRecDepth 100000 in
set_option maxHeartbeats 4000000 in
theorem tX7_copy_47 {p : Program} {l : Launch} {e : Env} {s : State} {m : MethodId} {args : Array Value} {below : List Frame} {meth : Method} {c : Code} {D : va_G} {ca : Nat → ClassId} {xa ad : Nat → Nat} {A : Nat → Prop} (hc : zCx p s m args meth c cX7_copy 6 RX7 D ca xa A (zwC ad ca)) (hr : meth.sig.returnType = (some .int)) (N : Nat)    (σ : zSt) : zGO p l e rmX7_copy s m args below meth c 0 0 (zwC ad ca) D A 6 (zQ below D A (zwC ad ca) args s zI) (fX7_copy_47 N σ) σ 47 [(0, .ref (ad 0))] [] := by
  unfold fX7_copy_47
  refine z_aload_n hc dX7_copy_47 0 rfl ?_
  refine z_iconst (v := (1 : Int32)) hc dX7_copy_48 (by decide) ?_
  refine z_runVi (b0 := ad 0) (As := [.int (1 : Int32)]) (rest := []) hc dX7_copy_49 (fun _ _ h => tX7_found h) mpX7_found miX7_found kmX7_67 ⟨rfl, rfl, Nat.le_of_ble_eq_true rfl, Nat.le_of_ble_eq_true rfl⟩ ⟨Nat.le_refl _, Nat.le_refl _⟩ zcC_rc0 rfl (Nat.le_of_ble_eq_true rfl) (fun b1 σ2 => ?_)
  exact z_iret hc hr dX7_copy_52
set_option maxRecDepth 100000 in
set_option maxHeartbeats 4000000 in
theorem tX7_copy_100 {p : Program} {l : Launch} {e : Env} {s : State} {m : MethodId} {args : Array Value} {below : List Frame} {meth : Method} {c : Code} {D : va_G} {ca : Nat → ClassId} {xa ad : Nat → Nat} {A : Nat → Prop} (hc : zCx p s m args meth c cX7_copy 6 RX7 D ca xa A (zwC ad ca)) (hr : meth.sig.returnType = (some .int)) (N : Nat)    (σ : zSt) : zGO p l e rmX7_copy s m args below meth c 0 0 (zwC ad ca) D A 6 (zQ below D A (zwC ad ca) args s zI) (fX7_copy_100 N σ) σ 100 [(0, .ref (ad 0))] [] := by
  unfold fX7_copy_100
  refine z_aload_n hc dX7_copy_100 0 rfl ?_
  refine z_iconst (v := (2 : Int32)) hc dX7_copy_101 (by decide) ?_
  refine z_runVi (b0 := ad 0) (As := [.int (2 : Int32)]) (rest := []) hc dX7_copy_102 (fun _ _ h => tX7_found h) mpX7_found miX7_found kmX7_67 ⟨rfl, rfl, Nat.le_of_ble_eq_true rfl, Nat.le_of_ble_eq_true rfl⟩ ⟨Nat.le_refl _, Nat.le_refl _⟩ zcC_rc0 rfl (Nat.le_of_ble_eq_true rfl) (fun b1 σ2 => ?_)
  exact z_iret hc hr dX7_copy_105
set_option maxRecDepth 100000 in
set_option maxHeartbeats 4000000 in
theorem tX7_copy {l : Launch} {D : va_G} {ca : Nat → ClassId} {xa ad : Nat → Nat} {A : Nat → Prop} {N : Nat} {x1 : Int32} {x2 : Int32} {x3 : Int32} {x4 : Int32} {x5 : Int32} {σ : zSt} {a : Int32} {τ : zSt} (h : fX7_copy N x1 x2 x3 x4 x5 σ = some (a, τ)) : zCt l yX7_copy cX7_copy 6 (some .int) rmX7_copy D ca xa A (zwC ad ca) [.ref (ad 0), .int x1, .int x2, .int x3, .int x4, .int x5] σ (zI a) τ := by
  refine z_met (inj := zI) (lv := [(0, .ref (ad 0)), (1, .int x1), (2, .int x2), (3, .int x3), (4, .int x4), (5, .int x5)]) (by decide) (Nat.le_of_ble_eq_true rfl) rfl ?_ h
  intro p e s m args below meth c hc hr
  unfold fX7_copy
  refine z_aload_n hc dX7_copy_0 0 rfl ?_
  refine gfX7_10 hc dX7_copy_1 ?_
  refine z_iload_n hc dX7_copy_4 1 rfl ?_
  refine z_runVNi (b0 := ad 1) (As := [.int x1]) (rest := []) hc dX7_copy_5 (fun _ _ h => tX3_isNumber h) mpX3_isNumber miX3_isNumber kmX7_58 ⟨rfl, rfl, Nat.le_of_ble_eq_true rfl, Nat.le_of_ble_eq_true rfl⟩ ⟨Nat.le_refl _, Nat.le_refl _⟩ zcC_rc1 rfl (Nat.le_of_ble_eq_true rfl) (fun b1 σ2 => ?_)
  refine z_if_eq (tgt := 22) hc dX7_copy_8 (by decide) ?_ ?_
  · refine z_ldc hc dX7_copy_22 kcX7_66 ?_
    exact z_iret hc hr dX7_copy_24
  · refine z_aload_n hc dX7_copy_11 0 rfl ?_
    refine gfX7_10 hc dX7_copy_12 ?_
    refine z_iload_n hc dX7_copy_15 3 rfl ?_
    refine z_runVNi (b0 := ad 1) (As := [.int x3]) (rest := []) hc dX7_copy_16 (fun _ _ h => tX3_isNumber h) mpX3_isNumber miX3_isNumber kmX7_58 ⟨rfl, rfl, Nat.le_of_ble_eq_true rfl, Nat.le_of_ble_eq_true rfl⟩ ⟨Nat.le_refl _, Nat.le_refl _⟩ zcC_rc1 rfl (Nat.le_of_ble_eq_true rfl) (fun b3 σ4 => ?_)
    refine z_if_ne (tgt := 25) hc dX7_copy_19 (by decide) ?_ ?_
    · refine z_ldc hc dX7_copy_22 kcX7_66 ?_
      exact z_iret hc hr dX7_copy_24
    · refine z_aload_n hc dX7_copy_25 0 rfl ?_
      refine gfX7_10 hc dX7_copy_26 ?_
      refine z_iload_n hc dX7_copy_29 1 rfl ?_
      refine z_runVNi (b0 := ad 1) (As := [.int x1]) (rest := []) hc dX7_copy_30 (fun _ _ h => tX3_isMissing h) mpX3_isMissing miX3_isMissing kmX7_78 ⟨rfl, rfl, Nat.le_of_ble_eq_true rfl, Nat.le_of_ble_eq_true rfl⟩ ⟨Nat.le_refl _, Nat.le_refl _⟩ zcC_rc1 rfl (Nat.le_of_ble_eq_true rfl) (fun b5 σ6 => ?_)
      refine z_if_ne (tgt := 47) hc dX7_copy_33 (by decide) ?_ ?_
      · refine z_aload_n hc dX7_copy_36 0 rfl ?_
        refine gfX7_10 hc dX7_copy_37 ?_
        refine z_iload_n hc dX7_copy_40 3 rfl ?_
        refine z_runVNi (b0 := ad 1) (As := [.int x3]) (rest := []) hc dX7_copy_41 (fun _ _ h => tX3_isMissing h) mpX3_isMissing miX3_isMissing kmX7_78 ⟨rfl, rfl, Nat.le_of_ble_eq_true rfl, Nat.le_of_ble_eq_true rfl⟩ ⟨Nat.le_refl _, Nat.le_refl _⟩ zcC_rc1 rfl (Nat.le_of_ble_eq_true rfl) (fun b7 σ8 => ?_)
        refine z_if_eq (tgt := 53) hc dX7_copy_44 (by decide) ?_ ?_
        · refine z_aload_n hc dX7_copy_53 0 rfl ?_
          refine gfX7_10 hc dX7_copy_54 ?_
          refine z_iload_n hc dX7_copy_57 1 rfl ?_
          refine z_iload_n hc dX7_copy_58 3 rfl ?_
          refine z_runVNi (b0 := ad 1) (As := [.int x1, .int x3]) (rest := []) hc dX7_copy_59 (fun _ _ h => tX3_areOfOneLane h) mpX3_areOfOneLane miX3_areOfOneLane kmX7_88 ⟨rfl, rfl, Nat.le_of_ble_eq_true rfl, Nat.le_of_ble_eq_true rfl⟩ ⟨Nat.le_refl _, Nat.le_refl _⟩ zcC_rc1 rfl (Nat.le_of_ble_eq_true rfl) (fun b9 σ10 => ?_)
          refine z_if_ne (tgt := 71) hc dX7_copy_62 (by decide) ?_ ?_
          · refine z_aload_n hc dX7_copy_65 0 rfl ?_
            refine z_iconst (v := (5 : Int32)) hc dX7_copy_66 (by decide) ?_
            refine z_runVi (b0 := ad 0) (As := [.int (5 : Int32)]) (rest := []) hc dX7_copy_67 (fun _ _ h => tX7_found h) mpX7_found miX7_found kmX7_67 ⟨rfl, rfl, Nat.le_of_ble_eq_true rfl, Nat.le_of_ble_eq_true rfl⟩ ⟨Nat.le_refl _, Nat.le_refl _⟩ zcC_rc0 rfl (Nat.le_of_ble_eq_true rfl) (fun b11 σ12 => ?_)
            exact z_iret hc hr dX7_copy_70
          · refine z_aload_n hc dX7_copy_71 0 rfl ?_
            refine gfX7_10 hc dX7_copy_72 ?_
            refine z_iload_n hc dX7_copy_75 1 rfl ?_
            refine z_iload_n hc dX7_copy_76 2 rfl ?_
            refine z_iload hc dX7_copy_77 5 rfl ?_
            refine z_runVNi (b0 := ad 1) (As := [.int x1, .int x2, .int x5]) (rest := []) hc dX7_copy_79 (fun _ _ h => tX3_hasPlaces h) mpX3_hasPlaces miX3_hasPlaces kmX7_81 ⟨rfl, rfl, Nat.le_of_ble_eq_true rfl, Nat.le_of_ble_eq_true rfl⟩ ⟨Nat.le_refl _, Nat.le_refl _⟩ zcC_rc1 rfl (Nat.le_of_ble_eq_true rfl) (fun b13 σ14 => ?_)
            refine z_if_eq (tgt := 100) hc dX7_copy_82 (by decide) ?_ ?_
            · refine z_sub [0] rfl ?_
              exact tX7_copy_100 hc hr N _
            · refine z_aload_n hc dX7_copy_85 0 rfl ?_
              refine gfX7_10 hc dX7_copy_86 ?_
              refine z_iload_n hc dX7_copy_89 3 rfl ?_
              refine z_iload hc dX7_copy_90 4 rfl ?_
              refine z_iload hc dX7_copy_92 5 rfl ?_
              refine z_runVNi (b0 := ad 1) (As := [.int x3, .int x4, .int x5]) (rest := []) hc dX7_copy_94 (fun _ _ h => tX3_hasPlaces h) mpX3_hasPlaces miX3_hasPlaces kmX7_81 ⟨rfl, rfl, Nat.le_of_ble_eq_true rfl, Nat.le_of_ble_eq_true rfl⟩ ⟨Nat.le_refl _, Nat.le_refl _⟩ zcC_rc1 rfl (Nat.le_of_ble_eq_true rfl) (fun b15 σ16 => ?_)
              refine z_if_ne (tgt := 106) hc dX7_copy_97 (by decide) ?_ ?_
              · refine z_sub [0] rfl ?_
                exact tX7_copy_100 hc hr N _
              · refine z_aload_n hc dX7_copy_106 0 rfl ?_
                refine gfX7_10 hc dX7_copy_107 ?_
                refine z_iload_n hc dX7_copy_110 1 rfl ?_
                refine z_iload_n hc dX7_copy_111 2 rfl ?_
                refine z_iload_n hc dX7_copy_112 3 rfl ?_
                refine z_iload hc dX7_copy_113 4 rfl ?_
                refine z_iload hc dX7_copy_115 5 rfl ?_
                refine z_runVNv (b0 := ad 1) (As := [.int x1, .int x2, .int x3, .int x4, .int x5]) (rest := []) hc dX7_copy_117 (fun _ _ h => tX3_move h) mpX3_move miX3_move kmX7_92 ⟨rfl, rfl, Nat.le_of_ble_eq_true rfl, Nat.le_of_ble_eq_true rfl⟩ ⟨Nat.le_refl _, Nat.le_refl _⟩ zcC_rc1 rfl (Nat.le_of_ble_eq_true rfl) (fun b17 σ18 => ?_)
                refine z_aload_n hc dX7_copy_120 0 rfl ?_
                refine z_iload hc dX7_copy_121 5 rfl ?_
                refine z_runVi (b0 := ad 0) (As := [.int x5]) (rest := []) hc dX7_copy_123 (fun _ _ h => tX7_unfound h) mpX7_unfound miX7_unfound kmX7_75 ⟨rfl, rfl, Nat.le_of_ble_eq_true rfl, Nat.le_of_ble_eq_true rfl⟩ ⟨Nat.le_refl _, Nat.le_refl _⟩ zcC_rc0 rfl (Nat.le_of_ble_eq_true rfl) (fun b19 σ20 => ?_)
                exact z_iret hc hr dX7_copy_126
        · refine z_sub [0] rfl ?_
          exact tX7_copy_47 hc hr N _
      · refine z_sub [0] rfl ?_
        exact tX7_copy_47 hc hr N _
set_option maxRecDepth 100000 in
set_option maxHeartbeats 4000000 in
theorem tX8_copy_45 {p : Program} {l : Launch} {e : Env} {s : State} {m : MethodId} {args : Array Value} {below : List Frame} {meth : Method} {c : Code} {D : va_G} {ca : Nat → ClassId} {xa ad : Nat → Nat} {A : Nat → Prop} (hc : zCx p s m args meth c cX8_copy 9 RX8 D ca xa A (zwM ad ca)) (hr : meth.sig.returnType = (some .int)) (N : Nat)    (σ : zSt) : zGO p l e rmX8_copy s m args below meth c 0 0 (zwM ad ca) D A 9 (zQ below D A (zwM ad ca) args s zI) (fX8_copy_45 N σ) σ 45 [(0, .ref (ad 0))] [] := by
  unfold fX8_copy_45
  refine z_aload_n hc dX8_copy_45 0 rfl ?_
  refine z_iconst (v := (1 : Int32)) hc dX8_copy_46 (by decide) ?_
  refine z_runVi (b0 := ad 0) (As := [.int (1 : Int32)]) (rest := []) hc dX8_copy_47 (fun _ _ h => tX8_finding h) mpX8_finding miX8_finding kmX8_99 ⟨rfl, rfl, Nat.le_of_ble_eq_true rfl, Nat.le_of_ble_eq_true rfl⟩ ⟨Nat.le_refl _, Nat.le_refl _⟩ zcM_rc0 rfl (Nat.le_of_ble_eq_true rfl) (fun b1 σ2 => ?_)
  exact z_iret hc hr dX8_copy_50
set_option maxRecDepth 100000 in
set_option maxHeartbeats 4000000 in
theorem tX8_copy_121 {p : Program} {l : Launch} {e : Env} {s : State} {m : MethodId} {args : Array Value} {below : List Frame} {meth : Method} {c : Code} {D : va_G} {ca : Nat → ClassId} {xa ad : Nat → Nat} {A : Nat → Prop} (hc : zCx p s m args meth c cX8_copy 9 RX8 D ca xa A (zwM ad ca)) (hr : meth.sig.returnType = (some .int)) (N : Nat)    (σ : zSt) : zGO p l e rmX8_copy s m args below meth c 0 0 (zwM ad ca) D A 9 (zQ below D A (zwM ad ca) args s zI) (fX8_copy_121 N σ) σ 121 [(0, .ref (ad 0))] [] := by
  unfold fX8_copy_121
  refine z_aload_n hc dX8_copy_121 0 rfl ?_
  refine z_iconst (v := (2 : Int32)) hc dX8_copy_122 (by decide) ?_
  refine z_runVi (b0 := ad 0) (As := [.int (2 : Int32)]) (rest := []) hc dX8_copy_123 (fun _ _ h => tX8_finding h) mpX8_finding miX8_finding kmX8_99 ⟨rfl, rfl, Nat.le_of_ble_eq_true rfl, Nat.le_of_ble_eq_true rfl⟩ ⟨Nat.le_refl _, Nat.le_refl _⟩ zcM_rc0 rfl (Nat.le_of_ble_eq_true rfl) (fun b1 σ2 => ?_)
  exact z_iret hc hr dX8_copy_126
set_option maxRecDepth 100000 in
set_option maxHeartbeats 4000000 in
theorem tX8_copy_167 {p : Program} {l : Launch} {e : Env} {s : State} {m : MethodId} {args : Array Value} {below : List Frame} {meth : Method} {c : Code} {D : va_G} {ca : Nat → ClassId} {xa ad : Nat → Nat} {A : Nat → Prop} (hc : zCx p s m args meth c cX8_copy 9 RX8 D ca xa A (zwM ad ca)) (hr : meth.sig.returnType = (some .int)) (N : Nat) (k143 : Int32 → Int32 → Int32 → Int32 → Int32 → Int32 → Int32 → zSt → Option (Int32 × zSt)) (hk143 : ∀ (x1 : Int32) (x2 : Int32) (x3 : Int32) (x4 : Int32) (x5 : Int32) (x6 : Int32) (x7 : Int32) (σ : zSt), zGO p l e rmX8_copy s m args below meth c 0 0 (zwM ad ca) D A 9 (zQ below D A (zwM ad ca) args s zI) (k143 x1 x2 x3 x4 x5 x6 x7 σ) σ 143 [(0, .ref (ad 0)), (1, .int x1), (2, .int x2), (3, .int x3), (4, .int x4), (5, .int x5), (6, .int x6), (7, .int x7)] []) (x1 : Int32) (x2 : Int32) (x3 : Int32) (x4 : Int32) (x5 : Int32) (x6 : Int32) (x7 : Int32) (s0 : Int32) (σ : zSt) : zGO p l e rmX8_copy s m args below meth c 0 0 (zwM ad ca) D A 9 (zQ below D A (zwM ad ca) args s zI) (fX8_copy_167 N k143 x1 x2 x3 x4 x5 x6 x7 s0 σ) σ 167 [(0, .ref (ad 0)), (1, .int x1), (2, .int x2), (3, .int x3), (4, .int x4), (5, .int x5), (6, .int x6), (7, .int x7)] [.int s0] := by
  unfold fX8_copy_167
  refine z_istore (lv' := [(8, .int s0), (0, .ref (ad 0)), (1, .int x1), (2, .int x2), (3, .int x3), (4, .int x4), (5, .int x5), (6, .int x6), (7, .int x7)]) hc dX8_copy_167 (by decide) rfl ?_
  refine z_aload_n hc dX8_copy_169 1 rfl ?_
  refine gfX8_16 hc dX8_copy_170 ?_
  refine z_bipush (v := (40 : Int32)) hc dX8_copy_173 (by decide) ?_
  refine z_iload_n hc dX8_copy_175 4 rfl ?_
  refine z_imul hc dX8_copy_176 ?_
  refine z_iload hc dX8_copy_177 5 rfl ?_
  refine z_iadd hc dX8_copy_179 ?_
  refine z_iload hc dX8_copy_180 0 rfl ?_
  refine z_iadd hc dX8_copy_182 ?_
  refine z_aload_n hc dX8_copy_183 1 rfl ?_
  refine gfX8_16 hc dX8_copy_184 ?_
  refine z_bipush (v := (40 : Int32)) hc dX8_copy_187 (by decide) ?_
  refine z_iload_n hc dX8_copy_189 2 rfl ?_
  refine z_imul hc dX8_copy_190 ?_
  refine z_iload_n hc dX8_copy_191 3 rfl ?_
  refine z_iadd hc dX8_copy_192 ?_
  refine z_iload hc dX8_copy_193 0 rfl ?_
  refine z_iadd hc dX8_copy_195 ?_
  refine z_iaload hc 3 (by decide) rfl dX8_copy_196 (fun v1 => ?_)
  refine z_iastore hc 3 (by decide) (fun _ _ => rfl) dX8_copy_197 (fun σ2 => ?_)
  refine z_iinc (v := (x7 + (1 : Int32))) (lv' := [(7, .int (x7 + (1 : Int32))), (8, .int s0), (0, .ref (ad 0)), (1, .int x1), (2, .int x2), (3, .int x3), (4, .int x4), (5, .int x5), (6, .int x6)]) hc dX8_copy_198 8 rfl rfl (by decide) rfl ?_
  refine z_goto (tgt := 143) hc dX8_copy_201 (by decide) ?_
  refine z_sub [2, 3, 4, 5, 6, 7, 8, 0] rfl ?_
  exact hk143 _ _ _ _ _ _ _ _
set_option maxRecDepth 100000 in
set_option maxHeartbeats 4000000 in
theorem tX8_copy_143 {p : Program} {l : Launch} {e : Env} {s : State} {m : MethodId} {args : Array Value} {below : List Frame} {meth : Method} {c : Code} {D : va_G} {ca : Nat → ClassId} {xa ad : Nat → Nat} {A : Nat → Prop} (hc : zCx p s m args meth c cX8_copy 9 RX8 D ca xa A (zwM ad ca)) (hr : meth.sig.returnType = (some .int)) (N : Nat)   : ∀ (n : Nat) (x1 : Int32) (x2 : Int32) (x3 : Int32) (x4 : Int32) (x5 : Int32) (x6 : Int32) (x7 : Int32) (σ : zSt), zGO p l e rmX8_copy s m args below meth c 0 0 (zwM ad ca) D A 9 (zQ below D A (zwM ad ca) args s zI) (fX8_copy_143 N n x1 x2 x3 x4 x5 x6 x7 σ) σ 143 [(0, .ref (ad 0)), (1, .int x1), (2, .int x2), (3, .int x3), (4, .int x4), (5, .int x5), (6, .int x6), (7, .int x7)] [] := by
  intro n
  induction n with
  | zero =>
    intro x1 x2 x3 x4 x5 x6 x7 σ
    exact z_none
  | succ n ih =>
    intro x1 x2 x3 x4 x5 x6 x7 σ
    unfold fX8_copy_143
    refine z_iload hc dX8_copy_143 7 rfl ?_
    refine z_iload hc dX8_copy_145 5 rfl ?_
    refine z_icmp_ge (tgt := 204) hc dX8_copy_147 (by decide) ?_ ?_
    · refine z_iload hc dX8_copy_204 5 rfl ?_
      exact z_iret hc hr dX8_copy_206
    · refine z_iload hc dX8_copy_150 6 rfl ?_
      refine z_if_eq (tgt := 160) hc dX8_copy_152 (by decide) ?_ ?_
      · refine z_iload hc dX8_copy_160 5 rfl ?_
        refine z_iconst (v := (1 : Int32)) hc dX8_copy_162 (by decide) ?_
        refine z_isub hc dX8_copy_163 ?_
        refine z_iload hc dX8_copy_164 7 rfl ?_
        refine z_isub hc dX8_copy_166 ?_
        exact tX8_copy_167 hc hr N _ (ih) _ _ _ _ _ _ _ _ _
      · refine z_iload hc dX8_copy_155 7 rfl ?_
        refine z_goto (tgt := 167) hc dX8_copy_157 (by decide) ?_
        exact tX8_copy_167 hc hr N _ (ih) _ _ _ _ _ _ _ _ _
set_option maxRecDepth 100000 in
set_option maxHeartbeats 4000000 in
theorem tX8_copy_138 {p : Program} {l : Launch} {e : Env} {s : State} {m : MethodId} {args : Array Value} {below : List Frame} {meth : Method} {c : Code} {D : va_G} {ca : Nat → ClassId} {xa ad : Nat → Nat} {A : Nat → Prop} (hc : zCx p s m args meth c cX8_copy 9 RX8 D ca xa A (zwM ad ca)) (hr : meth.sig.returnType = (some .int)) (N : Nat)   (x1 : Int32) (x2 : Int32) (x3 : Int32) (x4 : Int32) (x5 : Int32) (s0 : Int32) (σ : zSt) : zGO p l e rmX8_copy s m args below meth c 0 0 (zwM ad ca) D A 9 (zQ below D A (zwM ad ca) args s zI) (fX8_copy_138 N x1 x2 x3 x4 x5 s0 σ) σ 138 [(0, .ref (ad 0)), (1, .int x1), (2, .int x2), (3, .int x3), (4, .int x4), (5, .int x5)] [.int s0] := by
  unfold fX8_copy_138
  refine z_istore (lv' := [(6, .int s0), (0, .ref (ad 0)), (1, .int x1), (2, .int x2), (3, .int x3), (4, .int x4), (5, .int x5)]) hc dX8_copy_138 (by decide) rfl ?_
  refine z_iconst (v := (0 : Int32)) hc dX8_copy_140 (by decide) ?_
  refine z_istore (lv' := [(7, .int (0 : Int32)), (6, .int s0), (0, .ref (ad 0)), (1, .int x1), (2, .int x2), (3, .int x3), (4, .int x4), (5, .int x5)]) hc dX8_copy_141 (by decide) rfl ?_
  refine z_sub [2, 3, 4, 5, 6, 7, 1, 0] rfl ?_
  exact tX8_copy_143 hc hr N N _ _ _ _ _ _ _ _
set_option maxRecDepth 100000 in
set_option maxHeartbeats 4000000 in
theorem tX8_copy {l : Launch} {D : va_G} {ca : Nat → ClassId} {xa ad : Nat → Nat} {A : Nat → Prop} {N : Nat} {x1 : Int32} {x2 : Int32} {x3 : Int32} {x4 : Int32} {x5 : Int32} {σ : zSt} {a : Int32} {τ : zSt} (h : fX8_copy N x1 x2 x3 x4 x5 σ = some (a, τ)) : zCt l yX8_copy cX8_copy 9 (some .int) rmX8_copy D ca xa A (zwM ad ca) [.ref (ad 0), .int x1, .int x2, .int x3, .int x4, .int x5] σ (zI a) τ := by
  refine z_met (inj := zI) (lv := [(0, .ref (ad 0)), (1, .int x1), (2, .int x2), (3, .int x3), (4, .int x4), (5, .int x5)]) (by decide) (Nat.le_of_ble_eq_true rfl) rfl ?_ h
  intro p e s m args below meth c hc hr
  unfold fX8_copy
  refine z_aload_n hc dX8_copy_0 0 rfl ?_
  refine z_iconst (v := (0 : Int32)) hc dX8_copy_1 (by decide) ?_
  refine pfX8_78 hc dX8_copy_2 (fun σ1 => ?_)
  refine z_iload_n hc dX8_copy_5 1 rfl ?_
  refine z_runSi (As := [.int x1]) (rest := []) hc dX8_copy_6 (fun _ _ h => tX8_isSheet h) mpX8_isSheet miX8_isSheet kmX8_92 ⟨rfl, rfl, Nat.le_of_ble_eq_true rfl, Nat.le_of_ble_eq_true rfl⟩ ⟨Nat.le_refl _, Nat.le_refl _⟩ rfl (Nat.le_of_ble_eq_true rfl) (fun b2 σ3 => ?_)
  refine z_if_eq (tgt := 19) hc dX8_copy_9 (by decide) ?_ ?_
  · refine z_ldc hc dX8_copy_19 kcX8_98 ?_
    exact z_iret hc hr dX8_copy_21
  · refine z_iload_n hc dX8_copy_12 3 rfl ?_
    refine z_runSi (As := [.int x3]) (rest := []) hc dX8_copy_13 (fun _ _ h => tX8_isSheet h) mpX8_isSheet miX8_isSheet kmX8_92 ⟨rfl, rfl, Nat.le_of_ble_eq_true rfl, Nat.le_of_ble_eq_true rfl⟩ ⟨Nat.le_refl _, Nat.le_refl _⟩ rfl (Nat.le_of_ble_eq_true rfl) (fun b4 σ5 => ?_)
    refine z_if_ne (tgt := 22) hc dX8_copy_16 (by decide) ?_ ?_
    · refine z_ldc hc dX8_copy_19 kcX8_98 ?_
      exact z_iret hc hr dX8_copy_21
    · refine z_aload_n hc dX8_copy_22 0 rfl ?_
      refine z_iconst (v := (0 : Int32)) hc dX8_copy_23 (by decide) ?_
      refine pfX8_82 hc dX8_copy_24 (fun σ6 => ?_)
      refine z_aload_n hc dX8_copy_27 0 rfl ?_
      refine gfX8_7 hc dX8_copy_28 ?_
      refine z_iload_n hc dX8_copy_31 1 rfl ?_
      refine z_iaload hc 1 (by decide) rfl dX8_copy_32 (fun v7 => ?_)
      refine z_if_lt (tgt := 45) hc dX8_copy_33 (by decide) ?_ ?_
      · refine z_sub [0] rfl ?_
        exact tX8_copy_45 hc hr N _
      · refine z_aload_n hc dX8_copy_36 0 rfl ?_
        refine gfX8_7 hc dX8_copy_37 ?_
        refine z_iload_n hc dX8_copy_40 3 rfl ?_
        refine z_iaload hc 1 (by decide) rfl dX8_copy_41 (fun v8 => ?_)
        refine z_if_ge (tgt := 51) hc dX8_copy_42 (by decide) ?_ ?_
        · refine z_aload_n hc dX8_copy_51 0 rfl ?_
          refine gfX8_7 hc dX8_copy_52 ?_
          refine z_iload_n hc dX8_copy_55 1 rfl ?_
          refine z_iaload hc 1 (by decide) rfl dX8_copy_56 (fun v9 => ?_)
          refine z_aload_n hc dX8_copy_57 0 rfl ?_
          refine gfX8_7 hc dX8_copy_58 ?_
          refine z_iload_n hc dX8_copy_61 3 rfl ?_
          refine z_iaload hc 1 (by decide) rfl dX8_copy_62 (fun v10 => ?_)
          refine z_icmp_eq (tgt := 72) hc dX8_copy_63 (by decide) ?_ ?_
          · refine z_iload_n hc dX8_copy_72 2 rfl ?_
            refine z_if_lt (tgt := 121) hc dX8_copy_73 (by decide) ?_ ?_
            · refine z_sub [0] rfl ?_
              exact tX8_copy_121 hc hr N _
            · refine z_iload hc dX8_copy_76 4 rfl ?_
              refine z_if_lt (tgt := 121) hc dX8_copy_78 (by decide) ?_ ?_
              · refine z_sub [0] rfl ?_
                exact tX8_copy_121 hc hr N _
              · refine z_iload hc dX8_copy_81 5 rfl ?_
                refine z_if_lt (tgt := 121) hc dX8_copy_83 (by decide) ?_ ?_
                · refine z_sub [0] rfl ?_
                  exact tX8_copy_121 hc hr N _
                · refine z_iload_n hc dX8_copy_86 2 rfl ?_
                  refine z_i2l hc dX8_copy_87 ?_
                  refine z_iload hc dX8_copy_88 5 rfl ?_
                  refine z_i2l hc dX8_copy_90 ?_
                  refine z_ladd hc dX8_copy_91 ?_
                  refine z_aload_n hc dX8_copy_92 0 rfl ?_
                  refine gfX8_13 hc dX8_copy_93 ?_
                  refine z_iload_n hc dX8_copy_96 1 rfl ?_
                  refine z_iaload hc 2 (by decide) rfl dX8_copy_97 (fun v11 => ?_)
                  refine z_i2l hc dX8_copy_98 ?_
                  refine z_lcmp_gt (tgt := 121) hc dX8_copy_99 dX8_copy_100 (by decide) ?_ ?_
                  · refine z_sub [0] rfl ?_
                    exact tX8_copy_121 hc hr N _
                  · refine z_iload hc dX8_copy_103 4 rfl ?_
                    refine z_i2l hc dX8_copy_105 ?_
                    refine z_iload hc dX8_copy_106 5 rfl ?_
                    refine z_i2l hc dX8_copy_108 ?_
                    refine z_ladd hc dX8_copy_109 ?_
                    refine z_aload_n hc dX8_copy_110 0 rfl ?_
                    refine gfX8_13 hc dX8_copy_111 ?_
                    refine z_iload_n hc dX8_copy_114 3 rfl ?_
                    refine z_iaload hc 2 (by decide) rfl dX8_copy_115 (fun v12 => ?_)
                    refine z_i2l hc dX8_copy_116 ?_
                    refine z_lcmp_le (tgt := 127) hc dX8_copy_117 dX8_copy_118 (by decide) ?_ ?_
                    · refine z_iload_n hc dX8_copy_127 2 rfl ?_
                      refine z_iload hc dX8_copy_128 4 rfl ?_
                      refine z_icmp_lt (tgt := 137) hc dX8_copy_130 (by decide) ?_ ?_
                      · refine z_iconst (v := (0 : Int32)) hc dX8_copy_137 (by decide) ?_
                        exact tX8_copy_138 hc hr N _ _ _ _ _ _ _
                      · refine z_iconst (v := (1 : Int32)) hc dX8_copy_133 (by decide) ?_
                        refine z_goto (tgt := 138) hc dX8_copy_134 (by decide) ?_
                        exact tX8_copy_138 hc hr N _ _ _ _ _ _ _
                    · refine z_sub [0] rfl ?_
                      exact tX8_copy_121 hc hr N _
          · refine z_aload_n hc dX8_copy_66 0 rfl ?_
            refine z_iconst (v := (5 : Int32)) hc dX8_copy_67 (by decide) ?_
            refine z_runVi (b0 := ad 0) (As := [.int (5 : Int32)]) (rest := []) hc dX8_copy_68 (fun _ _ h => tX8_finding h) mpX8_finding miX8_finding kmX8_99 ⟨rfl, rfl, Nat.le_of_ble_eq_true rfl, Nat.le_of_ble_eq_true rfl⟩ ⟨Nat.le_refl _, Nat.le_refl _⟩ zcM_rc0 rfl (Nat.le_of_ble_eq_true rfl) (fun b13 σ14 => ?_)
            exact z_iret hc hr dX8_copy_71
        · refine z_sub [0] rfl ?_
          exact tX8_copy_45 hc hr N _
set_option maxRecDepth 100000 in
set_option maxHeartbeats 4000000 in
theorem tX3_takeAway {l : Launch} {D : va_G} {ca : Nat → ClassId} {xa ad : Nat → Nat} {A : Nat → Prop} {N : Nat} {x1 : Int32} {σ : zSt} {a : Int32} {τ : zSt} (h : fX3_takeAway N x1 σ = some (a, τ)) : zCt l yX3_takeAway cX3_takeAway 3 (some .int) rmX3_takeAway D ca xa A (zwC ad ca) [.ref (ad 1), .int x1] σ (zI a) τ := by
  refine z_met (inj := zI) (lv := [(0, .ref (ad 1)), (1, .int x1)]) (by decide) (Nat.le_of_ble_eq_true rfl) rfl ?_ h
  intro p e s m args below meth c hc hr
  unfold fX3_takeAway
  refine z_aload_n hc dX3_takeAway_0 0 rfl ?_
  refine gfX3_16 hc dX3_takeAway_1 ?_
  refine z_iload_n hc dX3_takeAway_4 1 rfl ?_
  refine z_iaload hc 4 (by decide) rfl dX3_takeAway_5 (fun v1 => ?_)
  refine z_istore_n (lv' := [(2, .int v1), (0, .ref (ad 1)), (1, .int x1)]) hc dX3_takeAway_6 rfl (by decide) rfl ?_
  refine z_aload_n hc dX3_takeAway_7 1 rfl ?_
  refine gfX3_16 hc dX3_takeAway_8 ?_
  refine z_iload_n hc dX3_takeAway_11 2 rfl ?_
  refine z_iconst (v := (-1 : Int32)) hc dX3_takeAway_12 (by decide) ?_
  refine z_iastore hc 4 (by decide) (fun _ _ => rfl) dX3_takeAway_13 (fun σ2 => ?_)
  refine z_iload_n hc dX3_takeAway_14 0 rfl ?_
  exact z_iret hc hr dX3_takeAway_15
set_option maxRecDepth 100000 in
set_option maxHeartbeats 4000000 in
theorem tX7_drop {l : Launch} {D : va_G} {ca : Nat → ClassId} {xa ad : Nat → Nat} {A : Nat → Prop} {N : Nat} {x1 : Int32} {σ : zSt} {a : Int32} {τ : zSt} (h : fX7_drop N x1 σ = some (a, τ)) : zCt l yX7_drop cX7_drop 2 (some .int) rmX7_drop D ca xa A (zwC ad ca) [.ref (ad 0), .int x1] σ (zI a) τ := by
  refine z_met (inj := zI) (lv := [(0, .ref (ad 0)), (1, .int x1)]) (by decide) (Nat.le_of_ble_eq_true rfl) rfl ?_ h
  intro p e s m args below meth c hc hr
  unfold fX7_drop
  refine z_aload_n hc dX7_drop_0 0 rfl ?_
  refine gfX7_10 hc dX7_drop_1 ?_
  refine z_iload_n hc dX7_drop_4 1 rfl ?_
  refine z_runVNi (b0 := ad 1) (As := [.int x1]) (rest := []) hc dX7_drop_5 (fun _ _ h => tX3_isNumber h) mpX3_isNumber miX3_isNumber kmX7_58 ⟨rfl, rfl, Nat.le_of_ble_eq_true rfl, Nat.le_of_ble_eq_true rfl⟩ ⟨Nat.le_refl _, Nat.le_refl _⟩ zcC_rc1 rfl (Nat.le_of_ble_eq_true rfl) (fun b1 σ2 => ?_)
  refine z_if_ne (tgt := 14) hc dX7_drop_8 (by decide) ?_ ?_
  · refine z_ldc hc dX7_drop_11 kcX7_66 ?_
    exact z_iret hc hr dX7_drop_13
  · refine z_aload_n hc dX7_drop_14 0 rfl ?_
    refine gfX7_10 hc dX7_drop_15 ?_
    refine z_iload_n hc dX7_drop_18 1 rfl ?_
    refine z_runVNi (b0 := ad 1) (As := [.int x1]) (rest := []) hc dX7_drop_19 (fun _ _ h => tX3_isMissing h) mpX3_isMissing miX3_isMissing kmX7_78 ⟨rfl, rfl, Nat.le_of_ble_eq_true rfl, Nat.le_of_ble_eq_true rfl⟩ ⟨Nat.le_refl _, Nat.le_refl _⟩ zcC_rc1 rfl (Nat.le_of_ble_eq_true rfl) (fun b3 σ4 => ?_)
    refine z_if_eq (tgt := 31) hc dX7_drop_22 (by decide) ?_ ?_
    · refine z_aload_n hc dX7_drop_31 0 rfl ?_
      refine z_aload_n hc dX7_drop_32 0 rfl ?_
      refine gfX7_10 hc dX7_drop_33 ?_
      refine z_iload_n hc dX7_drop_36 1 rfl ?_
      refine z_runVNi (b0 := ad 1) (As := [.int x1]) (rest := [.ref (ad 0)]) hc dX7_drop_37 (fun _ _ h => tX3_takeAway h) mpX3_takeAway miX3_takeAway kmX7_96 ⟨rfl, rfl, Nat.le_of_ble_eq_true rfl, Nat.le_of_ble_eq_true rfl⟩ ⟨Nat.le_refl _, Nat.le_refl _⟩ zcC_rc1 rfl (Nat.le_of_ble_eq_true rfl) (fun b5 σ6 => ?_)
      refine z_runVi (b0 := ad 0) (As := [.int b5]) (rest := []) hc dX7_drop_40 (fun _ _ h => tX7_unfound h) mpX7_unfound miX7_unfound kmX7_75 ⟨rfl, rfl, Nat.le_of_ble_eq_true rfl, Nat.le_of_ble_eq_true rfl⟩ ⟨Nat.le_refl _, Nat.le_refl _⟩ zcC_rc0 rfl (Nat.le_of_ble_eq_true rfl) (fun b7 σ8 => ?_)
      exact z_iret hc hr dX7_drop_43
    · refine z_aload_n hc dX7_drop_25 0 rfl ?_
      refine z_iconst (v := (1 : Int32)) hc dX7_drop_26 (by decide) ?_
      refine z_runVi (b0 := ad 0) (As := [.int (1 : Int32)]) (rest := []) hc dX7_drop_27 (fun _ _ h => tX7_found h) mpX7_found miX7_found kmX7_67 ⟨rfl, rfl, Nat.le_of_ble_eq_true rfl, Nat.le_of_ble_eq_true rfl⟩ ⟨Nat.le_refl _, Nat.le_refl _⟩ zcC_rc0 rfl (Nat.le_of_ble_eq_true rfl) (fun b9 σ10 => ?_)
      exact z_iret hc hr dX7_drop_30
set_option maxRecDepth 100000 in
set_option maxHeartbeats 4000000 in
theorem tX8_drop {l : Launch} {D : va_G} {ca : Nat → ClassId} {xa ad : Nat → Nat} {A : Nat → Prop} {N : Nat} {x1 : Int32} {σ : zSt} {a : Int32} {τ : zSt} (h : fX8_drop N x1 σ = some (a, τ)) : zCt l yX8_drop cX8_drop 2 (some .int) rmX8_drop D ca xa A (zwM ad ca) [.ref (ad 0), .int x1] σ (zI a) τ := by
  refine z_met (inj := zI) (lv := [(0, .ref (ad 0)), (1, .int x1)]) (by decide) (Nat.le_of_ble_eq_true rfl) rfl ?_ h
  intro p e s m args below meth c hc hr
  unfold fX8_drop
  refine z_aload_n hc dX8_drop_0 0 rfl ?_
  refine z_iconst (v := (0 : Int32)) hc dX8_drop_1 (by decide) ?_
  refine pfX8_78 hc dX8_drop_2 (fun σ1 => ?_)
  refine z_iload_n hc dX8_drop_5 1 rfl ?_
  refine z_runSi (As := [.int x1]) (rest := []) hc dX8_drop_6 (fun _ _ h => tX8_isSheet h) mpX8_isSheet miX8_isSheet kmX8_92 ⟨rfl, rfl, Nat.le_of_ble_eq_true rfl, Nat.le_of_ble_eq_true rfl⟩ ⟨Nat.le_refl _, Nat.le_refl _⟩ rfl (Nat.le_of_ble_eq_true rfl) (fun b2 σ3 => ?_)
  refine z_if_ne (tgt := 15) hc dX8_drop_9 (by decide) ?_ ?_
  · refine z_ldc hc dX8_drop_12 kcX8_98 ?_
    exact z_iret hc hr dX8_drop_14
  · refine z_aload_n hc dX8_drop_15 0 rfl ?_
    refine z_iconst (v := (0 : Int32)) hc dX8_drop_16 (by decide) ?_
    refine pfX8_82 hc dX8_drop_17 (fun σ4 => ?_)
    refine z_aload_n hc dX8_drop_20 0 rfl ?_
    refine gfX8_7 hc dX8_drop_21 ?_
    refine z_iload_n hc dX8_drop_24 1 rfl ?_
    refine z_iaload hc 1 (by decide) rfl dX8_drop_25 (fun v5 => ?_)
    refine z_if_ge (tgt := 35) hc dX8_drop_26 (by decide) ?_ ?_
    · refine z_aload_n hc dX8_drop_35 0 rfl ?_
      refine gfX8_7 hc dX8_drop_36 ?_
      refine z_iload_n hc dX8_drop_39 1 rfl ?_
      refine z_iconst (v := (-1 : Int32)) hc dX8_drop_40 (by decide) ?_
      refine z_iastore hc 1 (by decide) (fun _ _ => rfl) dX8_drop_41 (fun σ6 => ?_)
      refine z_aload_n hc dX8_drop_42 0 rfl ?_
      refine gfX8_13 hc dX8_drop_43 ?_
      refine z_iload_n hc dX8_drop_46 1 rfl ?_
      refine z_iaload hc 2 (by decide) rfl dX8_drop_47 (fun v7 => ?_)
      exact z_iret hc hr dX8_drop_48
    · refine z_aload_n hc dX8_drop_29 0 rfl ?_
      refine z_iconst (v := (1 : Int32)) hc dX8_drop_30 (by decide) ?_
      refine z_runVi (b0 := ad 0) (As := [.int (1 : Int32)]) (rest := []) hc dX8_drop_31 (fun _ _ h => tX8_finding h) mpX8_finding miX8_finding kmX8_99 ⟨rfl, rfl, Nat.le_of_ble_eq_true rfl, Nat.le_of_ble_eq_true rfl⟩ ⟨Nat.le_refl _, Nat.le_refl _⟩ zcM_rc0 rfl (Nat.le_of_ble_eq_true rfl) (fun b8 σ9 => ?_)
      exact z_iret hc hr dX8_drop_34
set_option maxRecDepth 100000 in
set_option maxHeartbeats 4000000 in
theorem tX5_hasRoom {l : Launch} {D : va_G} {ca : Nat → ClassId} {xa ad : Nat → Nat} {A : Nat → Prop} {N : Nat} {x1 : Int32} {σ : zSt} {a : Int32} {τ : zSt} (h : fX5_hasRoom N x1 σ = some (a, τ)) : zCt l yX5_hasRoom cX5_hasRoom 2 (some .boolean) rmX5_hasRoom D ca xa A (zwC ad ca) [.ref (ad 5), .int x1] σ (zI a) τ := by
  refine z_met (inj := zI) (lv := [(0, .ref (ad 5)), (1, .int x1)]) (by decide) (Nat.le_of_ble_eq_true rfl) rfl ?_ h
  intro p e s m args below meth c hc hr
  unfold fX5_hasRoom
  refine z_iload_n hc dX5_hasRoom_0 1 rfl ?_
  refine z_sipush (v := (400 : Int32)) hc dX5_hasRoom_1 (by decide) ?_
  refine z_aload_n hc dX5_hasRoom_4 0 rfl ?_
  refine gfX5_15 hc dX5_hasRoom_5 ?_
  refine z_isub hc dX5_hasRoom_8 ?_
  refine z_icmp_gt (tgt := 16) hc dX5_hasRoom_9 (by decide) ?_ ?_
  · refine z_iconst (v := (0 : Int32)) hc dX5_hasRoom_16 (by decide) ?_
    exact z_zret hc hr dX5_hasRoom_17
  · refine z_iconst (v := (1 : Int32)) hc dX5_hasRoom_12 (by decide) ?_
    refine z_goto (tgt := 17) hc dX5_hasRoom_13 (by decide) ?_
    exact z_zret hc hr dX5_hasRoom_17
set_option maxRecDepth 100000 in
set_option maxHeartbeats 4000000 in
theorem tX5_append_5 {p : Program} {l : Launch} {e : Env} {s : State} {m : MethodId} {args : Array Value} {below : List Frame} {meth : Method} {c : Code} {D : va_G} {ca : Nat → ClassId} {xa ad : Nat → Nat} {A : Nat → Prop} (hc : zCx p s m args meth c cX5_append 5 RX5 D ca xa A (zwC ad ca)) (hr : meth.sig.returnType = (some .int)) (N : Nat)   : ∀ (n : Nat) (y1 : Int64) (x4 : Int32) (σ : zSt), zGO p l e rmX5_append s m args below meth c 0 0 (zwC ad ca) D A 5 (zQ below D A (zwC ad ca) args s zI) (fX5_append_5 N n y1 x4 σ) σ 5 [(0, .ref (ad 5)), (1, .long y1), (4, .int x4)] [] := by
  intro n
  induction n with
  | zero =>
    intro y1 x4 σ
    exact z_none
  | succ n ih =>
    intro y1 x4 σ
    unfold fX5_append_5
    refine z_iload hc dX5_append_5 2 rfl ?_
    refine z_if_lt (tgt := 54) hc dX5_append_7 (by decide) ?_ ?_
    · refine z_aload_n hc dX5_append_54 0 rfl ?_
      refine gfX5_15 hc dX5_append_55 ?_
      exact z_iret hc hr dX5_append_58
    · refine z_aload_n hc dX5_append_10 0 rfl ?_
      refine gfX5_15 hc dX5_append_11 ?_
      refine z_sipush (v := (400 : Int32)) hc dX5_append_14 (by decide) ?_
      refine z_icmp_ge (tgt := 54) hc dX5_append_17 (by decide) ?_ ?_
      · refine z_aload_n hc dX5_append_54 0 rfl ?_
        refine gfX5_15 hc dX5_append_55 ?_
        exact z_iret hc hr dX5_append_58
      · refine z_aload_n hc dX5_append_20 0 rfl ?_
        refine gfX5_11 hc dX5_append_21 ?_
        refine z_aload_n hc dX5_append_24 0 rfl ?_
        refine gfX5_15 hc dX5_append_25 ?_
        refine z_lload_n hc dX5_append_28 1 rfl ?_
        refine z_bipush (v := (8 : Int32)) hc dX5_append_29 (by decide) ?_
        refine z_iload hc dX5_append_31 2 rfl ?_
        refine z_imul hc dX5_append_33 ?_
        refine z_lshr hc dX5_append_34 ?_
        refine z_l2i hc dX5_append_35 ?_
        refine z_i2b hc dX5_append_36 ?_
        refine z_bastore hc 6 (by decide) (fun _ _ => rfl) dX5_append_37 (fun σ1 => ?_)
        refine z_aload_n hc dX5_append_38 0 rfl ?_
        refine z_dup hc dX5_append_39 rfl ?_
        refine gfX5_15 hc dX5_append_40 ?_
        refine z_iconst (v := (1 : Int32)) hc dX5_append_43 (by decide) ?_
        refine z_iadd hc dX5_append_44 ?_
        refine pfX5_15 hc dX5_append_45 (fun σ2 => ?_)
        refine z_iinc (v := (x4 + (-1 : Int32))) (lv' := [(4, .int (x4 + (-1 : Int32))), (0, .ref (ad 5)), (1, .long y1)]) hc dX5_append_48 2 rfl rfl (by decide) rfl ?_
        refine z_goto (tgt := 5) hc dX5_append_51 (by decide) ?_
        refine z_sub [1, 2, 0] rfl ?_
        exact ih _ _ _
set_option maxRecDepth 100000 in
set_option maxHeartbeats 4000000 in
theorem tX5_append {l : Launch} {D : va_G} {ca : Nat → ClassId} {xa ad : Nat → Nat} {A : Nat → Prop} {N : Nat} {y1 : Int64} {x3 : Int32} {σ : zSt} {a : Int32} {τ : zSt} (h : fX5_append N y1 x3 σ = some (a, τ)) : zCt l yX5_append cX5_append 5 (some .int) rmX5_append D ca xa A (zwC ad ca) [.ref (ad 5), .long y1, .int x3] σ (zI a) τ := by
  refine z_met (inj := zI) (lv := [(0, .ref (ad 5)), (1, .long y1), (3, .int x3)]) (by decide) (Nat.le_of_ble_eq_true rfl) rfl ?_ h
  intro p e s m args below meth c hc hr
  unfold fX5_append
  refine z_iload_n hc dX5_append_0 2 rfl ?_
  refine z_iconst (v := (1 : Int32)) hc dX5_append_1 (by decide) ?_
  refine z_isub hc dX5_append_2 ?_
  refine z_nm (fun v1 => ?_)
  refine z_istore (lv' := [(4, .int v1), (0, .ref (ad 5)), (1, .long y1), (3, .int x3)]) hc dX5_append_3 (by decide) rfl ?_
  refine z_sub [1, 2, 0] rfl ?_
  exact tX5_append_5 hc hr N N _ _ _
set_option maxRecDepth 100000 in
set_option maxHeartbeats 4000000 in
theorem tX7_feed {l : Launch} {D : va_G} {ca : Nat → ClassId} {xa ad : Nat → Nat} {A : Nat → Prop} {N : Nat} {y1 : Int64} {x3 : Int32} {σ : zSt} {a : Int32} {τ : zSt} (h : fX7_feed N y1 x3 σ = some (a, τ)) : zCt l yX7_feed cX7_feed 4 (some .int) rmX7_feed D ca xa A (zwC ad ca) [.ref (ad 0), .long y1, .int x3] σ (zI a) τ := by
  refine z_met (inj := zI) (lv := [(0, .ref (ad 0)), (1, .long y1), (3, .int x3)]) (by decide) (Nat.le_of_ble_eq_true rfl) rfl ?_ h
  intro p e s m args below meth c hc hr
  unfold fX7_feed
  refine z_iload_n hc dX7_feed_0 2 rfl ?_
  refine z_iconst (v := (1 : Int32)) hc dX7_feed_1 (by decide) ?_
  refine z_bipush (v := (8 : Int32)) hc dX7_feed_2 (by decide) ?_
  refine z_runSi (As := [.int x3, .int (1 : Int32), .int (8 : Int32)]) (rest := []) hc dX7_feed_4 (fun _ _ h => tX7_isWithin h) mpX7_isWithin miX7_isWithin kmX7_62 ⟨rfl, rfl, Nat.le_of_ble_eq_true rfl, Nat.le_of_ble_eq_true rfl⟩ ⟨Nat.le_refl _, Nat.le_refl _⟩ rfl (Nat.le_of_ble_eq_true rfl) (fun b1 σ2 => ?_)
  refine z_if_ne (tgt := 13) hc dX7_feed_7 (by decide) ?_ ?_
  · refine z_ldc hc dX7_feed_10 kcX7_66 ?_
    exact z_iret hc hr dX7_feed_12
  · refine z_aload_n hc dX7_feed_13 0 rfl ?_
    refine gfX7_19 hc dX7_feed_14 ?_
    refine z_iload_n hc dX7_feed_17 2 rfl ?_
    refine z_runVNi (b0 := ad 5) (As := [.int x3]) (rest := []) hc dX7_feed_18 (fun _ _ h => tX5_hasRoom h) mpX5_hasRoom miX5_hasRoom kmX7_99 ⟨rfl, rfl, Nat.le_of_ble_eq_true rfl, Nat.le_of_ble_eq_true rfl⟩ ⟨Nat.le_refl _, Nat.le_refl _⟩ zcC_rc5 rfl (Nat.le_of_ble_eq_true rfl) (fun b3 σ4 => ?_)
    refine z_if_ne (tgt := 27) hc dX7_feed_21 (by decide) ?_ ?_
    · refine z_ldc hc dX7_feed_24 kcX7_102 ?_
      exact z_iret hc hr dX7_feed_26
    · refine z_aload_n hc dX7_feed_27 0 rfl ?_
      refine gfX7_19 hc dX7_feed_28 ?_
      refine z_lload_n hc dX7_feed_31 1 rfl ?_
      refine z_iload_n hc dX7_feed_32 2 rfl ?_
      refine z_runVNi (b0 := ad 5) (As := [.long y1, .int x3]) (rest := []) hc dX7_feed_33 (fun _ _ h => tX5_append h) mpX5_append miX5_append kmX7_103 ⟨rfl, rfl, Nat.le_of_ble_eq_true rfl, Nat.le_of_ble_eq_true rfl⟩ ⟨Nat.le_refl _, Nat.le_refl _⟩ zcC_rc5 rfl (Nat.le_of_ble_eq_true rfl) (fun b5 σ6 => ?_)
      exact z_iret hc hr dX7_feed_36
set_option maxRecDepth 100000 in
set_option maxHeartbeats 4000000 in
theorem tX8_feed_40 {p : Program} {l : Launch} {e : Env} {s : State} {m : MethodId} {args : Array Value} {below : List Frame} {meth : Method} {c : Code} {D : va_G} {ca : Nat → ClassId} {xa ad : Nat → Nat} {A : Nat → Prop} (hc : zCx p s m args meth c cX8_feed 5 RX8 D ca xa A (zwM ad ca)) (hr : meth.sig.returnType = (some .int)) (N : Nat)   : ∀ (n : Nat) (y1 : Int64) (x4 : Int32) (σ : zSt), zGO p l e rmX8_feed s m args below meth c 0 0 (zwM ad ca) D A 5 (zQ below D A (zwM ad ca) args s zI) (fX8_feed_40 N n y1 x4 σ) σ 40 [(0, .ref (ad 0)), (1, .long y1), (4, .int x4)] [] := by
  intro n
  induction n with
  | zero =>
    intro y1 x4 σ
    exact z_none
  | succ n ih =>
    intro y1 x4 σ
    unfold fX8_feed_40
    refine z_iload hc dX8_feed_40 2 rfl ?_
    refine z_if_lt (tgt := 82) hc dX8_feed_42 (by decide) ?_ ?_
    · refine z_aload_n hc dX8_feed_82 0 rfl ?_
      refine gfX8_105 hc dX8_feed_83 ?_
      exact z_iret hc hr dX8_feed_86
    · refine z_aload_n hc dX8_feed_45 0 rfl ?_
      refine gfX8_50 hc dX8_feed_46 ?_
      refine z_aload_n hc dX8_feed_49 0 rfl ?_
      refine gfX8_105 hc dX8_feed_50 ?_
      refine z_lload_n hc dX8_feed_53 1 rfl ?_
      refine z_bipush (v := (8 : Int32)) hc dX8_feed_54 (by decide) ?_
      refine z_iload hc dX8_feed_56 2 rfl ?_
      refine z_imul hc dX8_feed_58 ?_
      refine z_lshr hc dX8_feed_59 ?_
      refine z_ldc2 hc dX8_feed_60 kcX8_109 ?_
      refine z_land hc dX8_feed_63 ?_
      refine z_l2i hc dX8_feed_64 ?_
      refine z_iastore hc 14 (by decide) (fun _ _ => rfl) dX8_feed_65 (fun σ1 => ?_)
      refine z_aload_n hc dX8_feed_66 0 rfl ?_
      refine z_dup hc dX8_feed_67 rfl ?_
      refine gfX8_105 hc dX8_feed_68 ?_
      refine z_iconst (v := (1 : Int32)) hc dX8_feed_71 (by decide) ?_
      refine z_iadd hc dX8_feed_72 ?_
      refine pfX8_105 hc dX8_feed_73 (fun σ2 => ?_)
      refine z_iinc (v := (x4 + (-1 : Int32))) (lv' := [(4, .int (x4 + (-1 : Int32))), (0, .ref (ad 0)), (1, .long y1)]) hc dX8_feed_76 2 rfl rfl (by decide) rfl ?_
      refine z_goto (tgt := 40) hc dX8_feed_79 (by decide) ?_
      refine z_sub [1, 2, 0] rfl ?_
      exact ih _ _ _
set_option maxRecDepth 100000 in
set_option maxHeartbeats 4000000 in
theorem tX8_feed {l : Launch} {D : va_G} {ca : Nat → ClassId} {xa ad : Nat → Nat} {A : Nat → Prop} {N : Nat} {y1 : Int64} {x3 : Int32} {σ : zSt} {a : Int32} {τ : zSt} (h : fX8_feed N y1 x3 σ = some (a, τ)) : zCt l yX8_feed cX8_feed 5 (some .int) rmX8_feed D ca xa A (zwM ad ca) [.ref (ad 0), .long y1, .int x3] σ (zI a) τ := by
  refine z_met (inj := zI) (lv := [(0, .ref (ad 0)), (1, .long y1), (3, .int x3)]) (by decide) (Nat.le_of_ble_eq_true rfl) rfl ?_ h
  intro p e s m args below meth c hc hr
  unfold fX8_feed
  refine z_aload_n hc dX8_feed_0 0 rfl ?_
  refine z_iconst (v := (0 : Int32)) hc dX8_feed_1 (by decide) ?_
  refine pfX8_78 hc dX8_feed_2 (fun σ1 => ?_)
  refine z_iload_n hc dX8_feed_5 2 rfl ?_
  refine z_i2l hc dX8_feed_6 ?_
  refine z_lconst (v := (1 : Int64)) hc dX8_feed_7 (by decide) ?_
  refine z_ldc2 hc dX8_feed_8 kcX8_103 ?_
  refine z_runSi (As := [.long x3.toInt64, .long (1 : Int64), .long (8 : Int64)]) (rest := []) hc dX8_feed_11 (fun _ _ h => tX8_in h) mpX8_in miX8_in kmX8_88 ⟨rfl, rfl, Nat.le_of_ble_eq_true rfl, Nat.le_of_ble_eq_true rfl⟩ ⟨Nat.le_refl _, Nat.le_refl _⟩ rfl (Nat.le_of_ble_eq_true rfl) (fun b2 σ3 => ?_)
  refine z_if_ne (tgt := 20) hc dX8_feed_14 (by decide) ?_ ?_
  · refine z_ldc hc dX8_feed_17 kcX8_98 ?_
    exact z_iret hc hr dX8_feed_19
  · refine z_aload_n hc dX8_feed_20 0 rfl ?_
    refine gfX8_105 hc dX8_feed_21 ?_
    refine z_iload_n hc dX8_feed_24 2 rfl ?_
    refine z_iadd hc dX8_feed_25 ?_
    refine z_sipush (v := (400 : Int32)) hc dX8_feed_26 (by decide) ?_
    refine z_icmp_le (tgt := 35) hc dX8_feed_29 (by decide) ?_ ?_
    · refine z_iload_n hc dX8_feed_35 2 rfl ?_
      refine z_iconst (v := (1 : Int32)) hc dX8_feed_36 (by decide) ?_
      refine z_isub hc dX8_feed_37 ?_
      refine z_nm (fun v4 => ?_)
      refine z_istore (lv' := [(4, .int v4), (0, .ref (ad 0)), (1, .long y1), (3, .int x3)]) hc dX8_feed_38 (by decide) rfl ?_
      refine z_sub [1, 2, 0] rfl ?_
      exact tX8_feed_40 hc hr N N _ _ _
    · refine z_ldc hc dX8_feed_32 kcX8_108 ?_
      exact z_iret hc hr dX8_feed_34
set_option maxRecDepth 100000 in
set_option maxHeartbeats 4000000 in
theorem tX5_sortAt_63 {p : Program} {l : Launch} {e : Env} {s : State} {m : MethodId} {args : Array Value} {below : List Frame} {meth : Method} {c : Code} {D : va_G} {ca : Nat → ClassId} {xa ad : Nat → Nat} {A : Nat → Prop} (hc : zCx p s m args meth c cX5_sortAt 3 RX5 D ca xa A (zwC ad ca)) (hr : meth.sig.returnType = (some .int)) (N : Nat)   (x2 : Int32) (σ : zSt) : zGO p l e rmX5_sortAt s m args below meth c 0 0 (zwC ad ca) D A 3 (zQ below D A (zwC ad ca) args s zI) (fX5_sortAt_63 N x2 σ) σ 63 [(2, .int x2)] [] := by
  unfold fX5_sortAt_63
  refine z_iload_n hc dX5_sortAt_63 0 rfl ?_
  refine z_bipush (v := (59 : Int32)) hc dX5_sortAt_64 (by decide) ?_
  refine z_icmp_ne (tgt := 73) hc dX5_sortAt_66 (by decide) ?_ ?_
  · refine z_iconst (v := (3 : Int32)) hc dX5_sortAt_69 (by decide) ?_
    refine z_goto (tgt := 74) hc dX5_sortAt_70 (by decide) ?_
    exact z_iret hc hr dX5_sortAt_74
  · refine z_iconst (v := (5 : Int32)) hc dX5_sortAt_73 (by decide) ?_
    exact z_iret hc hr dX5_sortAt_74
set_option maxRecDepth 100000 in
set_option maxHeartbeats 4000000 in
theorem tX5_sortAt_49 {p : Program} {l : Launch} {e : Env} {s : State} {m : MethodId} {args : Array Value} {below : List Frame} {meth : Method} {c : Code} {D : va_G} {ca : Nat → ClassId} {xa ad : Nat → Nat} {A : Nat → Prop} (hc : zCx p s m args meth c cX5_sortAt 3 RX5 D ca xa A (zwC ad ca)) (hr : meth.sig.returnType = (some .int)) (N : Nat)   (x2 : Int32) (σ : zSt) : zGO p l e rmX5_sortAt s m args below meth c 0 0 (zwC ad ca) D A 3 (zQ below D A (zwC ad ca) args s zI) (fX5_sortAt_49 N x2 σ) σ 49 [(2, .int x2)] [] := by
  unfold fX5_sortAt_49
  refine z_iload_n hc dX5_sortAt_49 0 rfl ?_
  refine z_bipush (v := (48 : Int32)) hc dX5_sortAt_50 (by decide) ?_
  refine z_icmp_lt (tgt := 63) hc dX5_sortAt_52 (by decide) ?_ ?_
  · exact tX5_sortAt_63 hc hr N _ _
  · refine z_iload_n hc dX5_sortAt_55 0 rfl ?_
    refine z_bipush (v := (57 : Int32)) hc dX5_sortAt_56 (by decide) ?_
    refine z_icmp_gt (tgt := 63) hc dX5_sortAt_58 (by decide) ?_ ?_
    · exact tX5_sortAt_63 hc hr N _ _
    · refine z_iconst (v := (2 : Int32)) hc dX5_sortAt_61 (by decide) ?_
      exact z_iret hc hr dX5_sortAt_62
set_option maxRecDepth 100000 in
set_option maxHeartbeats 4000000 in
theorem tX5_sortAt {l : Launch} {D : va_G} {ca : Nat → ClassId} {xa ad : Nat → Nat} {A : Nat → Prop} {N : Nat} {x1 : Int32} {σ : zSt} {a : Int32} {τ : zSt} (h : fX5_sortAt N x1 σ = some (a, τ)) : zCt l yX5_sortAt cX5_sortAt 3 (some .int) rmX5_sortAt D ca xa A (zwC ad ca) [.ref (ad 5), .int x1] σ (zI a) τ := by
  refine z_met (inj := zI) (lv := [(0, .ref (ad 5)), (1, .int x1)]) (by decide) (Nat.le_of_ble_eq_true rfl) rfl ?_ h
  intro p e s m args below meth c hc hr
  unfold fX5_sortAt
  refine z_iload_n hc dX5_sortAt_0 1 rfl ?_
  refine z_if_lt (tgt := 12) hc dX5_sortAt_1 (by decide) ?_ ?_
  · refine z_iconst (v := (0 : Int32)) hc dX5_sortAt_12 (by decide) ?_
    exact z_iret hc hr dX5_sortAt_13
  · refine z_iload_n hc dX5_sortAt_4 1 rfl ?_
    refine z_aload_n hc dX5_sortAt_5 0 rfl ?_
    refine gfX5_15 hc dX5_sortAt_6 ?_
    refine z_icmp_lt (tgt := 14) hc dX5_sortAt_9 (by decide) ?_ ?_
    · refine z_aload_n hc dX5_sortAt_14 0 rfl ?_
      refine gfX5_11 hc dX5_sortAt_15 ?_
      refine z_iload_n hc dX5_sortAt_18 1 rfl ?_
      refine z_baload hc 6 (by decide) rfl dX5_sortAt_19 (fun v1 => ?_)
      refine z_istore_n (lv' := [(2, .int v1), (0, .ref (ad 5)), (1, .int x1)]) hc dX5_sortAt_20 rfl (by decide) rfl ?_
      refine z_iload_n hc dX5_sortAt_21 0 rfl ?_
      refine z_bipush (v := (32 : Int32)) hc dX5_sortAt_22 (by decide) ?_
      refine z_icmp_eq (tgt := 33) hc dX5_sortAt_24 (by decide) ?_ ?_
      · refine z_iconst (v := (4 : Int32)) hc dX5_sortAt_33 (by decide) ?_
        exact z_iret hc hr dX5_sortAt_34
      · refine z_iload_n hc dX5_sortAt_27 0 rfl ?_
        refine z_bipush (v := (10 : Int32)) hc dX5_sortAt_28 (by decide) ?_
        refine z_icmp_ne (tgt := 35) hc dX5_sortAt_30 (by decide) ?_ ?_
        · refine z_iconst (v := (4 : Int32)) hc dX5_sortAt_33 (by decide) ?_
          exact z_iret hc hr dX5_sortAt_34
        · refine z_iload_n hc dX5_sortAt_35 0 rfl ?_
          refine z_bipush (v := (97 : Int32)) hc dX5_sortAt_36 (by decide) ?_
          refine z_icmp_lt (tgt := 49) hc dX5_sortAt_38 (by decide) ?_ ?_
          · refine z_sub [0] rfl ?_
            exact tX5_sortAt_49 hc hr N _ _
          · refine z_iload_n hc dX5_sortAt_41 0 rfl ?_
            refine z_bipush (v := (122 : Int32)) hc dX5_sortAt_42 (by decide) ?_
            refine z_icmp_gt (tgt := 49) hc dX5_sortAt_44 (by decide) ?_ ?_
            · refine z_sub [0] rfl ?_
              exact tX5_sortAt_49 hc hr N _ _
            · refine z_iconst (v := (1 : Int32)) hc dX5_sortAt_47 (by decide) ?_
              exact z_iret hc hr dX5_sortAt_48
    · refine z_iconst (v := (0 : Int32)) hc dX5_sortAt_12 (by decide) ?_
      exact z_iret hc hr dX5_sortAt_13
set_option maxRecDepth 100000 in
set_option maxHeartbeats 4000000 in
theorem tX5_takeWorth_55 {p : Program} {l : Launch} {e : Env} {s : State} {m : MethodId} {args : Array Value} {below : List Frame} {meth : Method} {c : Code} {D : va_G} {ca : Nat → ClassId} {xa ad : Nat → Nat} {A : Nat → Prop} (hc : zCx p s m args meth c cX5_takeWorth 2 RX5 D ca xa A (zwC ad ca)) (hr : meth.sig.returnType = none) (N : Nat)    (σ : zSt) : zGO p l e rmX5_takeWorth s m args below meth c 0 0 (zwC ad ca) D A 2 (zQ below D A (zwC ad ca) args s zV) (fX5_takeWorth_55 N σ) σ 55 [(0, .ref (ad 5))] [] := by
  unfold fX5_takeWorth_55
  refine z_aload_n hc dX5_takeWorth_55 0 rfl ?_
  refine gfX5_19 hc dX5_takeWorth_56 ?_
  refine z_aload_n hc dX5_takeWorth_59 0 rfl ?_
  refine gfX5_109 hc dX5_takeWorth_60 ?_
  refine z_isub hc dX5_takeWorth_63 ?_
  refine z_iconst (v := (4 : Int32)) hc dX5_takeWorth_64 (by decide) ?_
  refine z_icmp_le (tgt := 73) hc dX5_takeWorth_65 (by decide) ?_ ?_
  · exact z_vret hc hr dX5_takeWorth_73
  · refine z_aload_n hc dX5_takeWorth_68 0 rfl ?_
    refine z_iconst (v := (5 : Int32)) hc dX5_takeWorth_69 (by decide) ?_
    refine pfX5_25 hc dX5_takeWorth_70 (fun σ1 => ?_)
    exact z_vret hc hr dX5_takeWorth_73
set_option maxRecDepth 100000 in
set_option maxHeartbeats 4000000 in
theorem tX5_takeWorth_10 {p : Program} {l : Launch} {e : Env} {s : State} {m : MethodId} {args : Array Value} {below : List Frame} {meth : Method} {c : Code} {D : va_G} {ca : Nat → ClassId} {xa ad : Nat → Nat} {A : Nat → Prop} (hc : zCx p s m args meth c cX5_takeWorth 2 RX5 D ca xa A (zwC ad ca)) (hr : meth.sig.returnType = none) (N : Nat)   : ∀ (n : Nat) (x1 : Int32) (σ : zSt), zGO p l e rmX5_takeWorth s m args below meth c 0 0 (zwC ad ca) D A 2 (zQ below D A (zwC ad ca) args s zV) (fX5_takeWorth_10 N n x1 σ) σ 10 [(0, .ref (ad 5)), (1, .int x1)] [] := by
  intro n
  induction n with
  | zero =>
    intro x1 σ
    exact z_none
  | succ n ih =>
    intro x1 σ
    unfold fX5_takeWorth_10
    refine z_iload_n hc dX5_takeWorth_10 1 rfl ?_
    refine z_aload_n hc dX5_takeWorth_11 0 rfl ?_
    refine gfX5_19 hc dX5_takeWorth_12 ?_
    refine z_icmp_ge (tgt := 55) hc dX5_takeWorth_15 (by decide) ?_ ?_
    · refine z_sub [0] rfl ?_
      exact tX5_takeWorth_55 hc hr N _
    · refine z_iload_n hc dX5_takeWorth_18 1 rfl ?_
      refine z_aload_n hc dX5_takeWorth_19 0 rfl ?_
      refine gfX5_109 hc dX5_takeWorth_20 ?_
      refine z_iconst (v := (4 : Int32)) hc dX5_takeWorth_23 (by decide) ?_
      refine z_iadd hc dX5_takeWorth_24 ?_
      refine z_icmp_ge (tgt := 55) hc dX5_takeWorth_25 (by decide) ?_ ?_
      · refine z_sub [0] rfl ?_
        exact tX5_takeWorth_55 hc hr N _
      · refine z_aload_n hc dX5_takeWorth_28 0 rfl ?_
        refine z_bipush (v := (10 : Int32)) hc dX5_takeWorth_29 (by decide) ?_
        refine z_aload_n hc dX5_takeWorth_31 0 rfl ?_
        refine gfX5_59 hc dX5_takeWorth_32 ?_
        refine z_imul hc dX5_takeWorth_35 ?_
        refine z_aload_n hc dX5_takeWorth_36 0 rfl ?_
        refine gfX5_11 hc dX5_takeWorth_37 ?_
        refine z_iload_n hc dX5_takeWorth_40 1 rfl ?_
        refine z_baload hc 6 (by decide) rfl dX5_takeWorth_41 (fun v1 => ?_)
        refine z_iadd hc dX5_takeWorth_42 ?_
        refine z_bipush (v := (48 : Int32)) hc dX5_takeWorth_43 (by decide) ?_
        refine z_isub hc dX5_takeWorth_45 ?_
        refine pfX5_59 hc dX5_takeWorth_46 (fun σ2 => ?_)
        refine z_iinc (v := (x1 + (1 : Int32))) (lv' := [(1, .int (x1 + (1 : Int32))), (0, .ref (ad 5))]) hc dX5_takeWorth_49 1 rfl rfl (by decide) rfl ?_
        refine z_goto (tgt := 10) hc dX5_takeWorth_52 (by decide) ?_
        refine z_sub [1, 0] rfl ?_
        exact ih _ _
set_option maxRecDepth 100000 in
set_option maxHeartbeats 4000000 in
theorem tX5_takeWorth {l : Launch} {D : va_G} {ca : Nat → ClassId} {xa ad : Nat → Nat} {A : Nat → Prop} {N : Nat}  {σ : zSt} {a : Unit} {τ : zSt} (h : fX5_takeWorth N σ = some (a, τ)) : zCt l yX5_takeWorth cX5_takeWorth 2 none rmX5_takeWorth D ca xa A (zwC ad ca) [.ref (ad 5)] σ (zV a) τ := by
  refine z_met (inj := zV) (lv := [(0, .ref (ad 5))]) (by decide) (Nat.le_of_ble_eq_true rfl) rfl ?_ h
  intro p e s m args below meth c hc hr
  unfold fX5_takeWorth
  refine z_aload_n hc dX5_takeWorth_0 0 rfl ?_
  refine z_iconst (v := (0 : Int32)) hc dX5_takeWorth_1 (by decide) ?_
  refine pfX5_59 hc dX5_takeWorth_2 (fun σ1 => ?_)
  refine z_aload_n hc dX5_takeWorth_5 0 rfl ?_
  refine gfX5_109 hc dX5_takeWorth_6 ?_
  refine z_nm (fun v2 => ?_)
  refine z_istore_n (lv' := [(1, .int v2), (0, .ref (ad 5))]) hc dX5_takeWorth_9 rfl (by decide) rfl ?_
  refine z_sub [1, 0] rfl ?_
  exact tX5_takeWorth_10 hc hr N N _ _
set_option maxRecDepth 100000 in
set_option maxHeartbeats 4000000 in
theorem tX5_take_138 {p : Program} {l : Launch} {e : Env} {s : State} {m : MethodId} {args : Array Value} {below : List Frame} {meth : Method} {c : Code} {D : va_G} {ca : Nat → ClassId} {xa ad : Nat → Nat} {A : Nat → Prop} (hc : zCx p s m args meth c cX5_take 2 RX5 D ca xa A (zwC ad ca)) (hr : meth.sig.returnType = none) (N : Nat)    (σ : zSt) : zGO p l e rmX5_take s m args below meth c 0 0 (zwC ad ca) D A 2 (zQ below D A (zwC ad ca) args s zV) (fX5_take_138 N σ) σ 138 [(0, .ref (ad 5))] [] := by
  unfold fX5_take_138
  refine z_aload_n hc dX5_take_138 0 rfl ?_
  refine gfX5_25 hc dX5_take_139 ?_
  refine z_iconst (v := (2 : Int32)) hc dX5_take_142 (by decide) ?_
  refine z_icmp_ne (tgt := 150) hc dX5_take_143 (by decide) ?_ ?_
  · refine z_aload_n hc dX5_take_146 0 rfl ?_
    refine z_runVv (b0 := ad 5) (As := []) (rest := []) hc dX5_take_147 (fun _ _ h => tX5_takeWorth h) mpX5_takeWorth miX5_takeWorth kmX5_121 ⟨rfl, rfl, Nat.le_of_ble_eq_true rfl, Nat.le_of_ble_eq_true rfl⟩ ⟨Nat.le_refl _, Nat.le_refl _⟩ zcC_rc5 rfl (Nat.le_of_ble_eq_true rfl) (fun b1 σ2 => ?_)
    exact z_vret hc hr dX5_take_150
  · exact z_vret hc hr dX5_take_150
set_option maxRecDepth 100000 in
set_option maxHeartbeats 4000000 in
theorem tX5_take_95 {p : Program} {l : Launch} {e : Env} {s : State} {m : MethodId} {args : Array Value} {below : List Frame} {meth : Method} {c : Code} {D : va_G} {ca : Nat → ClassId} {xa ad : Nat → Nat} {A : Nat → Prop} (hc : zCx p s m args meth c cX5_take 2 RX5 D ca xa A (zwC ad ca)) (hr : meth.sig.returnType = none) (N : Nat)   : ∀ (n : Nat) (x1 : Int32) (σ : zSt), zGO p l e rmX5_take s m args below meth c 0 0 (zwC ad ca) D A 2 (zQ below D A (zwC ad ca) args s zV) (fX5_take_95 N n x1 σ) σ 95 [(0, .ref (ad 5)), (1, .int x1)] [] := by
  intro n
  induction n with
  | zero =>
    intro x1 σ
    exact z_none
  | succ n ih =>
    intro x1 σ
    unfold fX5_take_95
    refine z_iload_n hc dX5_take_95 1 rfl ?_
    refine z_if_eq (tgt := 138) hc dX5_take_96 (by decide) ?_ ?_
    · refine z_sub [0] rfl ?_
      exact tX5_take_138 hc hr N _
    · refine z_aload_n hc dX5_take_99 0 rfl ?_
      refine gfX5_19 hc dX5_take_100 ?_
      refine z_aload_n hc dX5_take_103 0 rfl ?_
      refine gfX5_15 hc dX5_take_104 ?_
      refine z_icmp_ge (tgt := 138) hc dX5_take_107 (by decide) ?_ ?_
      · refine z_sub [0] rfl ?_
        exact tX5_take_138 hc hr N _
      · refine z_aload_n hc dX5_take_110 0 rfl ?_
        refine z_aload_n hc dX5_take_111 0 rfl ?_
        refine gfX5_19 hc dX5_take_112 ?_
        refine z_runVi (b0 := ad 5) (As := [.int (σ.1 5 3)]) (rest := []) hc dX5_take_115 (fun _ _ h => tX5_sortAt h) mpX5_sortAt miX5_sortAt kmX5_112 ⟨rfl, rfl, Nat.le_of_ble_eq_true rfl, Nat.le_of_ble_eq_true rfl⟩ ⟨Nat.le_refl _, Nat.le_refl _⟩ zcC_rc5 rfl (Nat.le_of_ble_eq_true rfl) (fun b1 σ2 => ?_)
        refine z_aload_n hc dX5_take_118 0 rfl ?_
        refine gfX5_25 hc dX5_take_119 ?_
        refine z_icmp_ne (tgt := 138) hc dX5_take_122 (by decide) ?_ ?_
        · refine z_aload_n hc dX5_take_125 0 rfl ?_
          refine z_dup hc dX5_take_126 rfl ?_
          refine gfX5_19 hc dX5_take_127 ?_
          refine z_iconst (v := (1 : Int32)) hc dX5_take_130 (by decide) ?_
          refine z_iadd hc dX5_take_131 ?_
          refine pfX5_19 hc dX5_take_132 (fun σ3 => ?_)
          refine z_goto (tgt := 95) hc dX5_take_135 (by decide) ?_
          exact ih _ _
        · refine z_sub [0] rfl ?_
          exact tX5_take_138 hc hr N _
set_option maxRecDepth 100000 in
set_option maxHeartbeats 4000000 in
theorem tX5_take_94 {p : Program} {l : Launch} {e : Env} {s : State} {m : MethodId} {args : Array Value} {below : List Frame} {meth : Method} {c : Code} {D : va_G} {ca : Nat → ClassId} {xa ad : Nat → Nat} {A : Nat → Prop} (hc : zCx p s m args meth c cX5_take 2 RX5 D ca xa A (zwC ad ca)) (hr : meth.sig.returnType = none) (N : Nat)   (s0 : Int32) (σ : zSt) : zGO p l e rmX5_take s m args below meth c 0 0 (zwC ad ca) D A 2 (zQ below D A (zwC ad ca) args s zV) (fX5_take_94 N s0 σ) σ 94 [(0, .ref (ad 5))] [.int s0] := by
  unfold fX5_take_94
  refine z_istore_n (lv' := [(1, .int s0), (0, .ref (ad 5))]) hc dX5_take_94 rfl (by decide) rfl ?_
  refine z_sub [1, 0] rfl ?_
  exact tX5_take_95 hc hr N N _ _
set_option maxRecDepth 100000 in
set_option maxHeartbeats 4000000 in
theorem tX5_take_89 {p : Program} {l : Launch} {e : Env} {s : State} {m : MethodId} {args : Array Value} {below : List Frame} {meth : Method} {c : Code} {D : va_G} {ca : Nat → ClassId} {xa ad : Nat → Nat} {A : Nat → Prop} (hc : zCx p s m args meth c cX5_take 2 RX5 D ca xa A (zwC ad ca)) (hr : meth.sig.returnType = none) (N : Nat)    (σ : zSt) : zGO p l e rmX5_take s m args below meth c 0 0 (zwC ad ca) D A 2 (zQ below D A (zwC ad ca) args s zV) (fX5_take_89 N σ) σ 89 [(0, .ref (ad 5))] [] := by
  unfold fX5_take_89
  refine z_iconst (v := (1 : Int32)) hc dX5_take_89 (by decide) ?_
  refine z_goto (tgt := 94) hc dX5_take_90 (by decide) ?_
  exact tX5_take_94 hc hr N _ _
set_option maxRecDepth 100000 in
set_option maxHeartbeats 4000000 in
theorem tX5_take_44 {p : Program} {l : Launch} {e : Env} {s : State} {m : MethodId} {args : Array Value} {below : List Frame} {meth : Method} {c : Code} {D : va_G} {ca : Nat → ClassId} {xa ad : Nat → Nat} {A : Nat → Prop} (hc : zCx p s m args meth c cX5_take 2 RX5 D ca xa A (zwC ad ca)) (hr : meth.sig.returnType = none) (N : Nat)    (σ : zSt) : zGO p l e rmX5_take s m args below meth c 0 0 (zwC ad ca) D A 2 (zQ below D A (zwC ad ca) args s zV) (fX5_take_44 N σ) σ 44 [(0, .ref (ad 5))] [] := by
  unfold fX5_take_44
  refine z_aload_n hc dX5_take_44 0 rfl ?_
  refine z_aload_n hc dX5_take_45 0 rfl ?_
  refine z_aload_n hc dX5_take_46 0 rfl ?_
  refine gfX5_109 hc dX5_take_47 ?_
  refine z_runVi (b0 := ad 5) (As := [.int (σ.1 5 2)]) (rest := [.ref (ad 5)]) hc dX5_take_50 (fun _ _ h => tX5_sortAt h) mpX5_sortAt miX5_sortAt kmX5_112 ⟨rfl, rfl, Nat.le_of_ble_eq_true rfl, Nat.le_of_ble_eq_true rfl⟩ ⟨Nat.le_refl _, Nat.le_refl _⟩ zcC_rc5 rfl (Nat.le_of_ble_eq_true rfl) (fun b1 σ2 => ?_)
  refine pfX5_25 hc dX5_take_53 (fun σ3 => ?_)
  refine z_aload_n hc dX5_take_56 0 rfl ?_
  refine z_aload_n hc dX5_take_57 0 rfl ?_
  refine gfX5_109 hc dX5_take_58 ?_
  refine z_iconst (v := (1 : Int32)) hc dX5_take_61 (by decide) ?_
  refine z_iadd hc dX5_take_62 ?_
  refine z_aload_n hc dX5_take_63 0 rfl ?_
  refine gfX5_15 hc dX5_take_64 ?_
  refine z_mmin hc kminX5_116 ⟨Nat.le_of_ble_eq_true rfl, Nat.le_of_ble_eq_true rfl, Nat.le_refl _, Nat.le_refl _⟩ dX5_take_67 ?_
  refine pfX5_19 hc dX5_take_70 (fun σ4 => ?_)
  refine z_aload_n hc dX5_take_73 0 rfl ?_
  refine gfX5_25 hc dX5_take_74 ?_
  refine z_iconst (v := (1 : Int32)) hc dX5_take_77 (by decide) ?_
  refine z_icmp_eq (tgt := 89) hc dX5_take_78 (by decide) ?_ ?_
  · exact tX5_take_89 hc hr N _
  · refine z_aload_n hc dX5_take_81 0 rfl ?_
    refine gfX5_25 hc dX5_take_82 ?_
    refine z_iconst (v := (2 : Int32)) hc dX5_take_85 (by decide) ?_
    refine z_icmp_ne (tgt := 93) hc dX5_take_86 (by decide) ?_ ?_
    · exact tX5_take_89 hc hr N _
    · refine z_iconst (v := (0 : Int32)) hc dX5_take_93 (by decide) ?_
      exact tX5_take_94 hc hr N _ _
set_option maxRecDepth 100000 in
set_option maxHeartbeats 4000000 in
theorem tX5_take_8 {p : Program} {l : Launch} {e : Env} {s : State} {m : MethodId} {args : Array Value} {below : List Frame} {meth : Method} {c : Code} {D : va_G} {ca : Nat → ClassId} {xa ad : Nat → Nat} {A : Nat → Prop} (hc : zCx p s m args meth c cX5_take 2 RX5 D ca xa A (zwC ad ca)) (hr : meth.sig.returnType = none) (N : Nat)   : ∀ (n : Nat)  (σ : zSt), zGO p l e rmX5_take s m args below meth c 0 0 (zwC ad ca) D A 2 (zQ below D A (zwC ad ca) args s zV) (fX5_take_8 N n σ) σ 8 [(0, .ref (ad 5))] [] := by
  intro n
  induction n with
  | zero =>
    intro  σ
    exact z_none
  | succ n ih =>
    intro  σ
    unfold fX5_take_8
    refine z_aload_n hc dX5_take_8 0 rfl ?_
    refine gfX5_109 hc dX5_take_9 ?_
    refine z_aload_n hc dX5_take_12 0 rfl ?_
    refine gfX5_15 hc dX5_take_13 ?_
    refine z_icmp_ge (tgt := 44) hc dX5_take_16 (by decide) ?_ ?_
    · exact tX5_take_44 hc hr N _
    · refine z_aload_n hc dX5_take_19 0 rfl ?_
      refine z_aload_n hc dX5_take_20 0 rfl ?_
      refine gfX5_109 hc dX5_take_21 ?_
      refine z_runVi (b0 := ad 5) (As := [.int (σ.1 5 2)]) (rest := []) hc dX5_take_24 (fun _ _ h => tX5_sortAt h) mpX5_sortAt miX5_sortAt kmX5_112 ⟨rfl, rfl, Nat.le_of_ble_eq_true rfl, Nat.le_of_ble_eq_true rfl⟩ ⟨Nat.le_refl _, Nat.le_refl _⟩ zcC_rc5 rfl (Nat.le_of_ble_eq_true rfl) (fun b1 σ2 => ?_)
      refine z_iconst (v := (4 : Int32)) hc dX5_take_27 (by decide) ?_
      refine z_icmp_ne (tgt := 44) hc dX5_take_28 (by decide) ?_ ?_
      · refine z_aload_n hc dX5_take_31 0 rfl ?_
        refine z_dup hc dX5_take_32 rfl ?_
        refine gfX5_109 hc dX5_take_33 ?_
        refine z_iconst (v := (1 : Int32)) hc dX5_take_36 (by decide) ?_
        refine z_iadd hc dX5_take_37 ?_
        refine pfX5_109 hc dX5_take_38 (fun σ3 => ?_)
        refine z_goto (tgt := 8) hc dX5_take_41 (by decide) ?_
        exact ih  _
      · exact tX5_take_44 hc hr N _
set_option maxRecDepth 100000 in
set_option maxHeartbeats 4000000 in
theorem tX5_take {l : Launch} {D : va_G} {ca : Nat → ClassId} {xa ad : Nat → Nat} {A : Nat → Prop} {N : Nat}  {σ : zSt} {a : Unit} {τ : zSt} (h : fX5_take N σ = some (a, τ)) : zCt l yX5_take cX5_take 2 none rmX5_take D ca xa A (zwC ad ca) [.ref (ad 5)] σ (zV a) τ := by
  refine z_met (inj := zV) (lv := [(0, .ref (ad 5))]) (by decide) (Nat.le_of_ble_eq_true rfl) rfl ?_ h
  intro p e s m args below meth c hc hr
  unfold fX5_take
  refine z_aload_n hc dX5_take_0 0 rfl ?_
  refine z_aload_n hc dX5_take_1 0 rfl ?_
  refine gfX5_19 hc dX5_take_2 ?_
  refine pfX5_109 hc dX5_take_5 (fun σ1 => ?_)
  exact tX5_take_8 hc hr N N _
set_option maxRecDepth 100000 in
set_option maxHeartbeats 4000000 in
theorem tJ0_coder_7d493 {l : Launch} {D : va_G} {ca : Nat → ClassId} {xa ad : Nat → Nat} {A : Nat → Prop} {N : Nat} {w0 : Nat} {σ : zSt} {a : Int32} {τ : zSt} (h : fJ0_coder_7d493 N w0 σ = some (a, τ)) : zCt l yJ0_coder_7d493 cJ0_coder_7d493 1 (some .byte) rmJ0_coder_7d493 D ca xa A (zwC ad ca) [.ref (xa (10 + w0))] σ (zI a) τ := by
  refine z_met (inj := zI) (lv := [(0, .ref (xa (10 + w0)))]) (by decide) (Nat.le_of_ble_eq_true rfl) rfl ?_ h
  intro p e s m args below meth c hc hr
  unfold fJ0_coder_7d493
  refine z_guard ?_
  refine z_compact hc kfJ0_38 dJ0_coder_7d493_0 ?_
  refine z_if_eq (tgt := 13) hc dJ0_coder_7d493_3 (by decide) ?_ ?_
  · refine z_iconst (v := (1 : Int32)) hc dJ0_coder_7d493_13 (by decide) ?_
    exact z_nret hc hr dJ0_coder_7d493_14
  · refine z_aload_n hc dJ0_coder_7d493_6 0 rfl ?_
    refine z_strC hc kfJ0_15 dJ0_coder_7d493_7 ?_
    refine z_goto (tgt := 14) hc dJ0_coder_7d493_10 (by decide) ?_
    exact z_nret hc hr dJ0_coder_7d493_14
set_option maxRecDepth 100000 in
set_option maxHeartbeats 4000000 in
theorem tJ0_length_8abf5 {l : Launch} {D : va_G} {ca : Nat → ClassId} {xa ad : Nat → Nat} {A : Nat → Prop} {N : Nat} {w0 : Nat} {σ : zSt} {a : Int32} {τ : zSt} (h : fJ0_length_8abf5 N w0 σ = some (a, τ)) : zCt l yJ0_length_8abf5 cJ0_length_8abf5 1 (some .int) rmJ0_length_8abf5 D ca xa A (zwC ad ca) [.ref (xa (10 + w0))] σ (zI a) τ := by
  refine z_met (inj := zI) (lv := [(0, .ref (xa (10 + w0)))]) (by decide) (Nat.le_of_ble_eq_true rfl) rfl ?_ h
  intro p e s m args below meth c hc hr
  unfold fJ0_length_8abf5
  refine z_guard ?_
  refine z_aload_n hc dJ0_length_8abf5_0 0 rfl ?_
  refine z_strV hc kfJ0_9 dJ0_length_8abf5_1 ?_
  refine z_strLen hc dJ0_length_8abf5_4 ?_
  refine z_aload_n hc dJ0_length_8abf5_5 0 rfl ?_
  refine z_runStri (wi := w0) (As := []) (rest := [.int (Int32.ofNat (zSlen.getD w0 0))]) hc dJ0_length_8abf5_6 hwJ0_coder_7d493 (fun _ _ h => tJ0_coder_7d493 h) rfl mpJ0_coder_7d493 miJ0_coder_7d493 kmJ0_335 ⟨rfl, rfl, Nat.le_of_ble_eq_true rfl, Nat.le_of_ble_eq_true rfl⟩ ⟨Nat.le_refl _, Nat.le_refl _⟩ rfl (Nat.le_of_ble_eq_true rfl) (fun b1 σ2 => ?_)
  refine z_ishr hc dJ0_length_8abf5_9 ?_
  exact z_iret hc hr dJ0_length_8abf5_10
set_option maxRecDepth 100000 in
set_option maxHeartbeats 4000000 in
theorem tJ0_isLatin1_aae02 {l : Launch} {D : va_G} {ca : Nat → ClassId} {xa ad : Nat → Nat} {A : Nat → Prop} {N : Nat} {w0 : Nat} {σ : zSt} {a : Int32} {τ : zSt} (h : fJ0_isLatin1_aae02 N w0 σ = some (a, τ)) : zCt l yJ0_isLatin1_aae02 cJ0_isLatin1_aae02 1 (some .boolean) rmJ0_isLatin1_aae02 D ca xa A (zwC ad ca) [.ref (xa (10 + w0))] σ (zI a) τ := by
  refine z_met (inj := zI) (lv := [(0, .ref (xa (10 + w0)))]) (by decide) (Nat.le_of_ble_eq_true rfl) rfl ?_ h
  intro p e s m args below meth c hc hr
  unfold fJ0_isLatin1_aae02
  refine z_guard ?_
  refine z_compact hc kfJ0_38 dJ0_isLatin1_aae02_0 ?_
  refine z_if_eq (tgt := 17) hc dJ0_isLatin1_aae02_3 (by decide) ?_ ?_
  · refine z_iconst (v := (0 : Int32)) hc dJ0_isLatin1_aae02_17 (by decide) ?_
    exact z_zret hc hr dJ0_isLatin1_aae02_18
  · refine z_aload_n hc dJ0_isLatin1_aae02_6 0 rfl ?_
    refine z_strC hc kfJ0_15 dJ0_isLatin1_aae02_7 ?_
    refine z_if_ne (tgt := 17) hc dJ0_isLatin1_aae02_10 (by decide) ?_ ?_
    · refine z_iconst (v := (1 : Int32)) hc dJ0_isLatin1_aae02_13 (by decide) ?_
      refine z_goto (tgt := 18) hc dJ0_isLatin1_aae02_14 (by decide) ?_
      exact z_zret hc hr dJ0_isLatin1_aae02_18
    · refine z_iconst (v := (0 : Int32)) hc dJ0_isLatin1_aae02_17 (by decide) ?_
      exact z_zret hc hr dJ0_isLatin1_aae02_18
set_option maxRecDepth 100000 in
set_option maxHeartbeats 4000000 in
theorem tJ1_charAt_3b067 {l : Launch} {D : va_G} {ca : Nat → ClassId} {xa ad : Nat → Nat} {A : Nat → Prop} {N : Nat} {w0 : Nat} {x1 : Int32} {σ : zSt} {a : Int32} {τ : zSt} (h : fJ1_charAt_3b067 N w0 x1 σ = some (a, τ)) : zCt l yJ1_charAt_3b067 cJ1_charAt_3b067 2 (some .char) rmJ1_charAt_3b067 D ca xa A (zwC ad ca) [.ref (xa (20 + w0)), .int x1] σ (zI a) τ := by
  refine z_met (inj := zI) (lv := [(0, .ref (xa (20 + w0))), (1, .int x1)]) (by decide) (Nat.le_of_ble_eq_true rfl) rfl ?_ h
  intro p e s m args below meth c hc hr
  unfold fJ1_charAt_3b067
  refine z_iload_n hc dJ1_charAt_3b067_0 1 rfl ?_
  refine z_aload_n hc dJ1_charAt_3b067_1 0 rfl ?_
  refine z_strLen hc dJ1_charAt_3b067_2 ?_
  refine z_runSv (As := [.int x1, .int (Int32.ofNat (zSlen.getD w0 0))]) (rest := []) hc dJ1_charAt_3b067_3 (fun _ _ h => tJ0_checkIndex_df160 h) mpJ0_checkIndex_df160 miJ0_checkIndex_df160 kmJ1_9 ⟨rfl, rfl, Nat.le_of_ble_eq_true rfl, Nat.le_of_ble_eq_true rfl⟩ ⟨Nat.le_refl _, Nat.le_refl _⟩ rfl (Nat.le_of_ble_eq_true rfl) (fun b1 σ2 => ?_)
  refine z_aload_n hc dJ1_charAt_3b067_6 0 rfl ?_
  refine z_iload_n hc dJ1_charAt_3b067_7 1 rfl ?_
  refine z_strAt hc dJ1_charAt_3b067_8 (fun v3 => ?_)
  refine z_sipush (v := (255 : Int32)) hc dJ1_charAt_3b067_9 (by decide) ?_
  refine z_iand hc dJ1_charAt_3b067_12 ?_
  refine z_i2c hc dJ1_charAt_3b067_13 ?_
  exact z_nret hc hr dJ1_charAt_3b067_14
set_option maxRecDepth 100000 in
set_option maxHeartbeats 4000000 in
theorem tJ0_charAt_5068e {l : Launch} {D : va_G} {ca : Nat → ClassId} {xa ad : Nat → Nat} {A : Nat → Prop} {N : Nat} {w0 : Nat} {x1 : Int32} {σ : zSt} {a : Int32} {τ : zSt} (h : fJ0_charAt_5068e N w0 x1 σ = some (a, τ)) : zCt l yJ0_charAt_5068e cJ0_charAt_5068e 2 (some .char) rmJ0_charAt_5068e D ca xa A (zwC ad ca) [.ref (xa (10 + w0)), .int x1] σ (zI a) τ := by
  refine z_met (inj := zI) (lv := [(0, .ref (xa (10 + w0))), (1, .int x1)]) (by decide) (Nat.le_of_ble_eq_true rfl) rfl ?_ h
  intro p e s m args below meth c hc hr
  unfold fJ0_charAt_5068e
  refine z_guard ?_
  refine z_aload_n hc dJ0_charAt_5068e_0 0 rfl ?_
  refine z_runStri (wi := w0) (As := []) (rest := []) hc dJ0_charAt_5068e_1 hwJ0_isLatin1_aae02 (fun _ _ h => tJ0_isLatin1_aae02 h) rfl mpJ0_isLatin1_aae02 miJ0_isLatin1_aae02 kmJ0_492 ⟨rfl, rfl, Nat.le_of_ble_eq_true rfl, Nat.le_of_ble_eq_true rfl⟩ ⟨Nat.le_refl _, Nat.le_refl _⟩ rfl (Nat.le_of_ble_eq_true rfl) (fun b1 σ2 => ?_)
  refine z_if_eq (tgt := 16) hc dJ0_charAt_5068e_4 (by decide) ?_ ?_
  · refine z_aload_n hc dJ0_charAt_5068e_16 0 rfl ?_
    refine z_strV hc kfJ0_9 dJ0_charAt_5068e_17 ?_
    refine z_iload_n hc dJ0_charAt_5068e_20 1 rfl ?_
    exact z_none
  · refine z_aload_n hc dJ0_charAt_5068e_7 0 rfl ?_
    refine z_strV hc kfJ0_9 dJ0_charAt_5068e_8 ?_
    refine z_iload_n hc dJ0_charAt_5068e_11 1 rfl ?_
    refine z_runSi (As := [.ref (xa (20 + w0)), .int x1]) (rest := []) hc dJ0_charAt_5068e_12 (fun _ _ h => tJ1_charAt_3b067 h) mpJ1_charAt_3b067 miJ1_charAt_3b067 kmJ0_495 ⟨rfl, rfl, Nat.le_of_ble_eq_true rfl, Nat.le_of_ble_eq_true rfl⟩ ⟨Nat.le_refl _, Nat.le_refl _⟩ rfl (Nat.le_of_ble_eq_true rfl) (fun b3 σ4 => ?_)
    exact z_nret hc hr dJ0_charAt_5068e_15
set_option maxRecDepth 100000 in
set_option maxHeartbeats 4000000 in
theorem tX5_isWord_28 {p : Program} {l : Launch} {e : Env} {s : State} {m : MethodId} {args : Array Value} {below : List Frame} {meth : Method} {c : Code} {D : va_G} {ca : Nat → ClassId} {xa ad : Nat → Nat} {A : Nat → Prop} (hc : zCx p s m args meth c cX5_isWord 3 RX5 D ca xa A (zwC ad ca)) (hr : meth.sig.returnType = (some .boolean)) (N : Nat)   : ∀ (n : Nat) (w1 : Nat) (x2 : Int32) (σ : zSt), zGO p l e rmX5_isWord s m args below meth c 0 0 (zwC ad ca) D A 3 (zQ below D A (zwC ad ca) args s zI) (fX5_isWord_28 N n w1 x2 σ) σ 28 [(0, .ref (ad 5)), (1, .ref (xa (10 + w1))), (2, .int x2)] [] := by
  intro n
  induction n with
  | zero =>
    intro w1 x2 σ
    exact z_none
  | succ n ih =>
    intro w1 x2 σ
    unfold fX5_isWord_28
    refine z_iload_n hc dX5_isWord_28 2 rfl ?_
    refine z_aload_n hc dX5_isWord_29 1 rfl ?_
    refine z_runStri (wi := w1) (As := []) (rest := [.int x2]) hc dX5_isWord_30 hwJ0_length_8abf5 (fun _ _ h => tJ0_length_8abf5 h) rfl mpJ0_length_8abf5 miJ0_length_8abf5 kmX5_124 ⟨rfl, rfl, Nat.le_of_ble_eq_true rfl, Nat.le_of_ble_eq_true rfl⟩ ⟨Nat.le_refl _, Nat.le_refl _⟩ rfl (Nat.le_of_ble_eq_true rfl) (fun b1 σ2 => ?_)
    refine z_icmp_ge (tgt := 63) hc dX5_isWord_33 (by decide) ?_ ?_
    · refine z_iconst (v := (1 : Int32)) hc dX5_isWord_63 (by decide) ?_
      exact z_zret hc hr dX5_isWord_64
    · refine z_aload_n hc dX5_isWord_36 0 rfl ?_
      refine gfX5_11 hc dX5_isWord_37 ?_
      refine z_aload_n hc dX5_isWord_40 0 rfl ?_
      refine gfX5_109 hc dX5_isWord_41 ?_
      refine z_iload_n hc dX5_isWord_44 2 rfl ?_
      refine z_iadd hc dX5_isWord_45 ?_
      refine z_baload hc 6 (by decide) rfl dX5_isWord_46 (fun v3 => ?_)
      refine z_aload_n hc dX5_isWord_47 1 rfl ?_
      refine z_iload_n hc dX5_isWord_48 2 rfl ?_
      refine z_runStri (wi := w1) (As := [.int x2]) (rest := [.int v3]) hc dX5_isWord_49 hwJ0_charAt_5068e (fun _ _ h => tJ0_charAt_5068e h) rfl mpJ0_charAt_5068e miJ0_charAt_5068e kmX5_128 ⟨rfl, rfl, Nat.le_of_ble_eq_true rfl, Nat.le_of_ble_eq_true rfl⟩ ⟨Nat.le_refl _, Nat.le_refl _⟩ rfl (Nat.le_of_ble_eq_true rfl) (fun b4 σ5 => ?_)
      refine z_icmp_eq (tgt := 57) hc dX5_isWord_52 (by decide) ?_ ?_
      · refine z_iinc (v := (x2 + (1 : Int32))) (lv' := [(2, .int (x2 + (1 : Int32))), (0, .ref (ad 5)), (1, .ref (xa (10 + w1)))]) hc dX5_isWord_57 2 rfl rfl (by decide) rfl ?_
        refine z_goto (tgt := 28) hc dX5_isWord_60 (by decide) ?_
        refine z_sub [1, 2, 0] rfl ?_
        exact ih _ _ _
      · refine z_iconst (v := (0 : Int32)) hc dX5_isWord_55 (by decide) ?_
        exact z_zret hc hr dX5_isWord_56
set_option maxRecDepth 100000 in
set_option maxHeartbeats 4000000 in
theorem tX5_isWord {l : Launch} {D : va_G} {ca : Nat → ClassId} {xa ad : Nat → Nat} {A : Nat → Prop} {N : Nat} {w1 : Nat} {σ : zSt} {a : Int32} {τ : zSt} (h : fX5_isWord N w1 σ = some (a, τ)) : zCt l yX5_isWord cX5_isWord 3 (some .boolean) rmX5_isWord D ca xa A (zwC ad ca) [.ref (ad 5), .ref (xa (10 + w1))] σ (zI a) τ := by
  refine z_met (inj := zI) (lv := [(0, .ref (ad 5)), (1, .ref (xa (10 + w1)))]) (by decide) (Nat.le_of_ble_eq_true rfl) rfl ?_ h
  intro p e s m args below meth c hc hr
  unfold fX5_isWord
  refine z_aload_n hc dX5_isWord_0 0 rfl ?_
  refine gfX5_25 hc dX5_isWord_1 ?_
  refine z_iconst (v := (1 : Int32)) hc dX5_isWord_4 (by decide) ?_
  refine z_icmp_ne (tgt := 24) hc dX5_isWord_5 (by decide) ?_ ?_
  · refine z_aload_n hc dX5_isWord_8 0 rfl ?_
    refine gfX5_19 hc dX5_isWord_9 ?_
    refine z_aload_n hc dX5_isWord_12 0 rfl ?_
    refine gfX5_109 hc dX5_isWord_13 ?_
    refine z_isub hc dX5_isWord_16 ?_
    refine z_aload_n hc dX5_isWord_17 1 rfl ?_
    refine z_runStri (wi := w1) (As := []) (rest := [.int ((σ.1 5 3) - (σ.1 5 2))]) hc dX5_isWord_18 hwJ0_length_8abf5 (fun _ _ h => tJ0_length_8abf5 h) rfl mpJ0_length_8abf5 miJ0_length_8abf5 kmX5_124 ⟨rfl, rfl, Nat.le_of_ble_eq_true rfl, Nat.le_of_ble_eq_true rfl⟩ ⟨Nat.le_refl _, Nat.le_refl _⟩ rfl (Nat.le_of_ble_eq_true rfl) (fun b1 σ2 => ?_)
    refine z_icmp_eq (tgt := 26) hc dX5_isWord_21 (by decide) ?_ ?_
    · refine z_iconst (v := (0 : Int32)) hc dX5_isWord_26 (by decide) ?_
      refine z_istore_n (lv' := [(2, .int (0 : Int32)), (0, .ref (ad 5)), (1, .ref (xa (10 + w1)))]) hc dX5_isWord_27 rfl (by decide) rfl ?_
      refine z_sub [1, 2, 0] rfl ?_
      exact tX5_isWord_28 hc hr N N _ _ _
    · refine z_iconst (v := (0 : Int32)) hc dX5_isWord_24 (by decide) ?_
      exact z_zret hc hr dX5_isWord_25
  · refine z_iconst (v := (0 : Int32)) hc dX5_isWord_24 (by decide) ?_
    exact z_zret hc hr dX5_isWord_25
set_option maxRecDepth 100000 in
set_option maxHeartbeats 4000000 in
theorem tX2_addNode {l : Launch} {D : va_G} {ca : Nat → ClassId} {xa ad : Nat → Nat} {A : Nat → Prop} {N : Nat} {x1 : Int32} {x2 : Int32} {σ : zSt} {a : Unit} {τ : zSt} (h : fX2_addNode N x1 x2 σ = some (a, τ)) : zCt l yX2_addNode cX2_addNode 3 none rmX2_addNode D ca xa A (zwC ad ca) [.ref (ad 7), .int x1, .int x2] σ (zV a) τ := by
  refine z_met (inj := zV) (lv := [(0, .ref (ad 7)), (1, .int x1), (2, .int x2)]) (by decide) (Nat.le_of_ble_eq_true rfl) rfl ?_ h
  intro p e s m args below meth c hc hr
  unfold fX2_addNode
  refine z_aload_n hc dX2_addNode_0 0 rfl ?_
  refine gfX2_51 hc dX2_addNode_1 ?_
  refine z_bipush (v := (20 : Int32)) hc dX2_addNode_4 (by decide) ?_
  refine z_icmp_lt (tgt := 10) hc dX2_addNode_6 (by decide) ?_ ?_
  · refine z_aload_n hc dX2_addNode_10 0 rfl ?_
    refine gfX2_9 hc dX2_addNode_11 ?_
    refine z_aload_n hc dX2_addNode_14 0 rfl ?_
    refine gfX2_51 hc dX2_addNode_15 ?_
    refine z_iload_n hc dX2_addNode_18 1 rfl ?_
    refine z_iastore hc 8 (by decide) (fun _ _ => rfl) dX2_addNode_19 (fun σ1 => ?_)
    refine z_aload_n hc dX2_addNode_20 0 rfl ?_
    refine gfX2_15 hc dX2_addNode_21 ?_
    refine z_aload_n hc dX2_addNode_24 0 rfl ?_
    refine gfX2_51 hc dX2_addNode_25 ?_
    refine z_iload_n hc dX2_addNode_28 2 rfl ?_
    refine z_iastore hc 9 (by decide) (fun _ _ => rfl) dX2_addNode_29 (fun σ2 => ?_)
    refine z_aload_n hc dX2_addNode_30 0 rfl ?_
    refine gfX2_18 hc dX2_addNode_31 ?_
    refine z_aload_n hc dX2_addNode_34 0 rfl ?_
    refine gfX2_51 hc dX2_addNode_35 ?_
    refine z_iconst (v := (0 : Int32)) hc dX2_addNode_38 (by decide) ?_
    refine z_iastore hc 10 (by decide) (fun _ _ => rfl) dX2_addNode_39 (fun σ3 => ?_)
    refine z_aload_n hc dX2_addNode_40 0 rfl ?_
    refine gfX2_21 hc dX2_addNode_41 ?_
    refine z_aload_n hc dX2_addNode_44 0 rfl ?_
    refine gfX2_51 hc dX2_addNode_45 ?_
    refine z_sipush (v := (9999 : Int32)) hc dX2_addNode_48 (by decide) ?_
    refine z_iastore hc 11 (by decide) (fun _ _ => rfl) dX2_addNode_51 (fun σ4 => ?_)
    refine z_aload_n hc dX2_addNode_52 0 rfl ?_
    refine gfX2_24 hc dX2_addNode_53 ?_
    refine z_aload_n hc dX2_addNode_56 0 rfl ?_
    refine gfX2_51 hc dX2_addNode_57 ?_
    refine z_iconst (v := (0 : Int32)) hc dX2_addNode_60 (by decide) ?_
    refine z_iastore hc 12 (by decide) (fun _ _ => rfl) dX2_addNode_61 (fun σ5 => ?_)
    refine z_aload_n hc dX2_addNode_62 0 rfl ?_
    refine z_dup hc dX2_addNode_63 rfl ?_
    refine gfX2_51 hc dX2_addNode_64 ?_
    refine z_iconst (v := (1 : Int32)) hc dX2_addNode_67 (by decide) ?_
    refine z_iadd hc dX2_addNode_68 ?_
    refine pfX2_51 hc dX2_addNode_69 (fun σ6 => ?_)
    exact z_vret hc hr dX2_addNode_72
  · exact z_vret hc hr dX2_addNode_9
set_option maxRecDepth 100000 in
set_option maxHeartbeats 4000000 in
theorem tX5_readSign {l : Launch} {D : va_G} {ca : Nat → ClassId} {xa ad : Nat → Nat} {A : Nat → Prop} {N : Nat}  {σ : zSt} {a : Int32} {τ : zSt} (h : fX5_readSign N σ = some (a, τ)) : zCt l yX5_readSign cX5_readSign 1 (some .int) rmX5_readSign D ca xa A (zwC ad ca) [.ref (ad 5)] σ (zI a) τ := by
  refine z_met (inj := zI) (lv := [(0, .ref (ad 5))]) (by decide) (Nat.le_of_ble_eq_true rfl) rfl ?_ h
  intro p e s m args below meth c hc hr
  unfold fX5_readSign
  refine z_aload_n hc dX5_readSign_0 0 rfl ?_
  refine gfX5_25 hc dX5_readSign_1 ?_
  refine z_iconst (v := (3 : Int32)) hc dX5_readSign_4 (by decide) ?_
  refine z_icmp_eq (tgt := 10) hc dX5_readSign_5 (by decide) ?_ ?_
  · refine z_aload_n hc dX5_readSign_10 0 rfl ?_
    refine z_runVv (b0 := ad 5) (As := []) (rest := []) hc dX5_readSign_11 (fun _ _ h => tX5_take h) mpX5_take miX5_take kmX5_22 ⟨rfl, rfl, Nat.le_of_ble_eq_true rfl, Nat.le_of_ble_eq_true rfl⟩ ⟨Nat.le_refl _, Nat.le_refl _⟩ zcC_rc5 rfl (Nat.le_of_ble_eq_true rfl) (fun b1 σ2 => ?_)
    refine z_iconst (v := (0 : Int32)) hc dX5_readSign_14 (by decide) ?_
    exact z_iret hc hr dX5_readSign_15
  · refine z_iconst (v := (1 : Int32)) hc dX5_readSign_8 (by decide) ?_
    exact z_iret hc hr dX5_readSign_9
set_option maxRecDepth 100000 in
set_option maxHeartbeats 4000000 in
theorem tX5_readGround {l : Launch} {D : va_G} {ca : Nat → ClassId} {xa ad : Nat → Nat} {A : Nat → Prop} {N : Nat} {x2 : Int32} {σ : zSt} {a : Int32} {τ : zSt} (h : fX5_readGround N x2 σ = some (a, τ)) : zCt l yX5_readGround cX5_readGround 3 (some .int) rmX5_readGround D ca xa A (zwC ad ca) [.ref (ad 5), .ref (ad 7), .int x2] σ (zI a) τ := by
  refine z_met (inj := zI) (lv := [(0, .ref (ad 5)), (1, .ref (ad 7)), (2, .int x2)]) (by decide) (Nat.le_of_ble_eq_true rfl) rfl ?_ h
  intro p e s m args below meth c hc hr
  unfold fX5_readGround
  refine z_aload_n hc dX5_readGround_0 1 rfl ?_
  refine gfX5_54 hc dX5_readGround_1 ?_
  refine z_bipush (v := (20 : Int32)) hc dX5_readGround_4 (by decide) ?_
  refine z_icmp_lt (tgt := 11) hc dX5_readGround_6 (by decide) ?_ ?_
  · refine z_aload_n hc dX5_readGround_11 0 rfl ?_
    refine z_runVv (b0 := ad 5) (As := []) (rest := []) hc dX5_readGround_12 (fun _ _ h => tX5_take h) mpX5_take miX5_take kmX5_22 ⟨rfl, rfl, Nat.le_of_ble_eq_true rfl, Nat.le_of_ble_eq_true rfl⟩ ⟨Nat.le_refl _, Nat.le_refl _⟩ zcC_rc5 rfl (Nat.le_of_ble_eq_true rfl) (fun b1 σ2 => ?_)
    refine z_aload_n hc dX5_readGround_15 0 rfl ?_
    refine gfX5_25 hc dX5_readGround_16 ?_
    refine z_iconst (v := (2 : Int32)) hc dX5_readGround_19 (by decide) ?_
    refine z_icmp_eq (tgt := 25) hc dX5_readGround_20 (by decide) ?_ ?_
    · refine z_aload_n hc dX5_readGround_25 0 rfl ?_
      refine gfX5_59 hc dX5_readGround_26 ?_
      refine z_bipush (v := (9 : Int32)) hc dX5_readGround_29 (by decide) ?_
      refine z_icmp_le (tgt := 36) hc dX5_readGround_31 (by decide) ?_ ?_
      · refine z_aload_n hc dX5_readGround_36 1 rfl ?_
        refine z_iload_n hc dX5_readGround_37 2 rfl ?_
        refine z_aload_n hc dX5_readGround_38 0 rfl ?_
        refine gfX5_59 hc dX5_readGround_39 ?_
        refine z_runVNv (b0 := ad 7) (As := [.int x2, .int (σ2.1 5 5)]) (rest := []) hc dX5_readGround_42 (fun _ _ h => tX2_addNode h) mpX2_addNode miX2_addNode kmX5_62 ⟨rfl, rfl, Nat.le_of_ble_eq_true rfl, Nat.le_of_ble_eq_true rfl⟩ ⟨Nat.le_refl _, Nat.le_refl _⟩ zcC_rc7 rfl (Nat.le_of_ble_eq_true rfl) (fun b3 σ4 => ?_)
        refine z_aload_n hc dX5_readGround_45 0 rfl ?_
        refine z_runVv (b0 := ad 5) (As := []) (rest := []) hc dX5_readGround_46 (fun _ _ h => tX5_take h) mpX5_take miX5_take kmX5_22 ⟨rfl, rfl, Nat.le_of_ble_eq_true rfl, Nat.le_of_ble_eq_true rfl⟩ ⟨Nat.le_refl _, Nat.le_refl _⟩ zcC_rc5 rfl (Nat.le_of_ble_eq_true rfl) (fun b5 σ6 => ?_)
        refine z_aload_n hc dX5_readGround_49 0 rfl ?_
        refine z_runVi (b0 := ad 5) (As := []) (rest := []) hc dX5_readGround_50 (fun _ _ h => tX5_readSign h) mpX5_readSign miX5_readSign kmX5_66 ⟨rfl, rfl, Nat.le_of_ble_eq_true rfl, Nat.le_of_ble_eq_true rfl⟩ ⟨Nat.le_refl _, Nat.le_refl _⟩ zcC_rc5 rfl (Nat.le_of_ble_eq_true rfl) (fun b7 σ8 => ?_)
        exact z_iret hc hr dX5_readGround_53
      · refine z_iconst (v := (2 : Int32)) hc dX5_readGround_34 (by decide) ?_
        exact z_iret hc hr dX5_readGround_35
    · refine z_iconst (v := (1 : Int32)) hc dX5_readGround_23 (by decide) ?_
      exact z_iret hc hr dX5_readGround_24
  · refine z_iconst (v := (3 : Int32)) hc dX5_readGround_9 (by decide) ?_
    exact z_iret hc hr dX5_readGround_10
set_option maxRecDepth 100000 in
set_option maxHeartbeats 4000000 in
theorem tX5_readClaim {l : Launch} {D : va_G} {ca : Nat → ClassId} {xa ad : Nat → Nat} {A : Nat → Prop} {N : Nat}  {σ : zSt} {a : Int32} {τ : zSt} (h : fX5_readClaim N σ = some (a, τ)) : zCt l yX5_readClaim cX5_readClaim 2 (some .int) rmX5_readClaim D ca xa A (zwC ad ca) [.ref (ad 5), .ref (ad 7)] σ (zI a) τ := by
  refine z_met (inj := zI) (lv := [(0, .ref (ad 5)), (1, .ref (ad 7))]) (by decide) (Nat.le_of_ble_eq_true rfl) rfl ?_ h
  intro p e s m args below meth c hc hr
  unfold fX5_readClaim
  refine z_aload_n hc dX5_readClaim_0 1 rfl ?_
  refine gfX5_54 hc dX5_readClaim_1 ?_
  refine z_bipush (v := (20 : Int32)) hc dX5_readClaim_4 (by decide) ?_
  refine z_icmp_lt (tgt := 11) hc dX5_readClaim_6 (by decide) ?_ ?_
  · refine z_aload_n hc dX5_readClaim_11 1 rfl ?_
    refine z_iconst (v := (2 : Int32)) hc dX5_readClaim_12 (by decide) ?_
    refine z_iconst (v := (0 : Int32)) hc dX5_readClaim_13 (by decide) ?_
    refine z_runVNv (b0 := ad 7) (As := [.int (2 : Int32), .int (0 : Int32)]) (rest := []) hc dX5_readClaim_14 (fun _ _ h => tX2_addNode h) mpX2_addNode miX2_addNode kmX5_62 ⟨rfl, rfl, Nat.le_of_ble_eq_true rfl, Nat.le_of_ble_eq_true rfl⟩ ⟨Nat.le_refl _, Nat.le_refl _⟩ zcC_rc7 rfl (Nat.le_of_ble_eq_true rfl) (fun b1 σ2 => ?_)
    refine z_aload_n hc dX5_readClaim_17 0 rfl ?_
    refine z_runVv (b0 := ad 5) (As := []) (rest := []) hc dX5_readClaim_18 (fun _ _ h => tX5_take h) mpX5_take miX5_take kmX5_22 ⟨rfl, rfl, Nat.le_of_ble_eq_true rfl, Nat.le_of_ble_eq_true rfl⟩ ⟨Nat.le_refl _, Nat.le_refl _⟩ zcC_rc5 rfl (Nat.le_of_ble_eq_true rfl) (fun b3 σ4 => ?_)
    refine z_aload_n hc dX5_readClaim_21 0 rfl ?_
    refine z_runVi (b0 := ad 5) (As := []) (rest := []) hc dX5_readClaim_22 (fun _ _ h => tX5_readSign h) mpX5_readSign miX5_readSign kmX5_66 ⟨rfl, rfl, Nat.le_of_ble_eq_true rfl, Nat.le_of_ble_eq_true rfl⟩ ⟨Nat.le_refl _, Nat.le_refl _⟩ zcC_rc5 rfl (Nat.le_of_ble_eq_true rfl) (fun b5 σ6 => ?_)
    exact z_iret hc hr dX5_readClaim_25
  · refine z_iconst (v := (3 : Int32)) hc dX5_readClaim_9 (by decide) ?_
    exact z_iret hc hr dX5_readClaim_10
set_option maxRecDepth 100000 in
set_option maxHeartbeats 4000000 in
theorem tX5_formTold {l : Launch} {D : va_G} {ca : Nat → ClassId} {xa ad : Nat → Nat} {A : Nat → Prop} {N : Nat}  {σ : zSt} {a : Int32} {τ : zSt} (h : fX5_formTold N σ = some (a, τ)) : zCt l yX5_formTold cX5_formTold 1 (some .int) rmX5_formTold D ca xa A (zwC ad ca) [.ref (ad 5)] σ (zI a) τ := by
  refine z_met (inj := zI) (lv := [(0, .ref (ad 5))]) (by decide) (Nat.le_of_ble_eq_true rfl) rfl ?_ h
  intro p e s m args below meth c hc hr
  unfold fX5_formTold
  refine z_aload_n hc dX5_formTold_0 0 rfl ?_
  refine z_ldcS (i := 4) hc dX5_formTold_1 (by decide) rfl ?_
  refine z_runVi (b0 := ad 5) (As := [.ref (xa (10 + 4))]) (rest := []) hc dX5_formTold_3 (fun _ _ h => tX5_isWord h) mpX5_isWord miX5_isWord kmX5_34 ⟨rfl, rfl, Nat.le_of_ble_eq_true rfl, Nat.le_of_ble_eq_true rfl⟩ ⟨Nat.le_refl _, Nat.le_refl _⟩ zcC_rc5 rfl (Nat.le_of_ble_eq_true rfl) (fun b1 σ2 => ?_)
  refine z_if_eq (tgt := 11) hc dX5_formTold_6 (by decide) ?_ ?_
  · refine z_aload_n hc dX5_formTold_11 0 rfl ?_
    refine z_ldcS (i := 5) hc dX5_formTold_12 (by decide) rfl ?_
    refine z_runVi (b0 := ad 5) (As := [.ref (xa (10 + 5))]) (rest := []) hc dX5_formTold_14 (fun _ _ h => tX5_isWord h) mpX5_isWord miX5_isWord kmX5_34 ⟨rfl, rfl, Nat.le_of_ble_eq_true rfl, Nat.le_of_ble_eq_true rfl⟩ ⟨Nat.le_refl _, Nat.le_refl _⟩ zcC_rc5 rfl (Nat.le_of_ble_eq_true rfl) (fun b3 σ4 => ?_)
    refine z_if_eq (tgt := 22) hc dX5_formTold_17 (by decide) ?_ ?_
    · refine z_aload_n hc dX5_formTold_22 0 rfl ?_
      refine z_ldcS (i := 6) hc dX5_formTold_23 (by decide) rfl ?_
      refine z_runVi (b0 := ad 5) (As := [.ref (xa (10 + 6))]) (rest := []) hc dX5_formTold_25 (fun _ _ h => tX5_isWord h) mpX5_isWord miX5_isWord kmX5_34 ⟨rfl, rfl, Nat.le_of_ble_eq_true rfl, Nat.le_of_ble_eq_true rfl⟩ ⟨Nat.le_refl _, Nat.le_refl _⟩ zcC_rc5 rfl (Nat.le_of_ble_eq_true rfl) (fun b5 σ6 => ?_)
      refine z_if_eq (tgt := 33) hc dX5_formTold_28 (by decide) ?_ ?_
      · refine z_aload_n hc dX5_formTold_33 0 rfl ?_
        refine z_ldcS (i := 7) hc dX5_formTold_34 (by decide) rfl ?_
        refine z_runVi (b0 := ad 5) (As := [.ref (xa (10 + 7))]) (rest := []) hc dX5_formTold_36 (fun _ _ h => tX5_isWord h) mpX5_isWord miX5_isWord kmX5_34 ⟨rfl, rfl, Nat.le_of_ble_eq_true rfl, Nat.le_of_ble_eq_true rfl⟩ ⟨Nat.le_refl _, Nat.le_refl _⟩ zcC_rc5 rfl (Nat.le_of_ble_eq_true rfl) (fun b7 σ8 => ?_)
        refine z_if_eq (tgt := 46) hc dX5_formTold_39 (by decide) ?_ ?_
        · refine z_iconst (v := (-1 : Int32)) hc dX5_formTold_46 (by decide) ?_
          exact z_iret hc hr dX5_formTold_47
        · refine z_iconst (v := (3 : Int32)) hc dX5_formTold_42 (by decide) ?_
          refine z_goto (tgt := 47) hc dX5_formTold_43 (by decide) ?_
          exact z_iret hc hr dX5_formTold_47
      · refine z_iconst (v := (2 : Int32)) hc dX5_formTold_31 (by decide) ?_
        exact z_iret hc hr dX5_formTold_32
    · refine z_iconst (v := (1 : Int32)) hc dX5_formTold_20 (by decide) ?_
      exact z_iret hc hr dX5_formTold_21
  · refine z_iconst (v := (0 : Int32)) hc dX5_formTold_9 (by decide) ?_
    exact z_iret hc hr dX5_formTold_10
set_option maxRecDepth 100000 in
set_option maxHeartbeats 4000000 in
theorem tX2_hasNode {l : Launch} {D : va_G} {ca : Nat → ClassId} {xa ad : Nat → Nat} {A : Nat → Prop} {N : Nat} {x1 : Int32} {σ : zSt} {a : Int32} {τ : zSt} (h : fX2_hasNode N x1 σ = some (a, τ)) : zCt l yX2_hasNode cX2_hasNode 2 (some .boolean) rmX2_hasNode D ca xa A (zwC ad ca) [.ref (ad 7), .int x1] σ (zI a) τ := by
  refine z_met (inj := zI) (lv := [(0, .ref (ad 7)), (1, .int x1)]) (by decide) (Nat.le_of_ble_eq_true rfl) rfl ?_ h
  intro p e s m args below meth c hc hr
  unfold fX2_hasNode
  refine z_iload_n hc dX2_hasNode_0 1 rfl ?_
  refine z_if_lt (tgt := 16) hc dX2_hasNode_1 (by decide) ?_ ?_
  · refine z_iconst (v := (0 : Int32)) hc dX2_hasNode_16 (by decide) ?_
    exact z_zret hc hr dX2_hasNode_17
  · refine z_iload_n hc dX2_hasNode_4 1 rfl ?_
    refine z_aload_n hc dX2_hasNode_5 0 rfl ?_
    refine gfX2_51 hc dX2_hasNode_6 ?_
    refine z_icmp_ge (tgt := 16) hc dX2_hasNode_9 (by decide) ?_ ?_
    · refine z_iconst (v := (0 : Int32)) hc dX2_hasNode_16 (by decide) ?_
      exact z_zret hc hr dX2_hasNode_17
    · refine z_iconst (v := (1 : Int32)) hc dX2_hasNode_12 (by decide) ?_
      refine z_goto (tgt := 17) hc dX2_hasNode_13 (by decide) ?_
      exact z_zret hc hr dX2_hasNode_17
set_option maxRecDepth 100000 in
set_option maxHeartbeats 4000000 in
theorem tX2_isClaim {l : Launch} {D : va_G} {ca : Nat → ClassId} {xa ad : Nat → Nat} {A : Nat → Prop} {N : Nat} {x1 : Int32} {σ : zSt} {a : Int32} {τ : zSt} (h : fX2_isClaim N x1 σ = some (a, τ)) : zCt l yX2_isClaim cX2_isClaim 2 (some .boolean) rmX2_isClaim D ca xa A (zwC ad ca) [.ref (ad 7), .int x1] σ (zI a) τ := by
  refine z_met (inj := zI) (lv := [(0, .ref (ad 7)), (1, .int x1)]) (by decide) (Nat.le_of_ble_eq_true rfl) rfl ?_ h
  intro p e s m args below meth c hc hr
  unfold fX2_isClaim
  refine z_aload_n hc dX2_isClaim_0 0 rfl ?_
  refine z_iload_n hc dX2_isClaim_1 1 rfl ?_
  refine z_runVi (b0 := ad 7) (As := [.int x1]) (rest := []) hc dX2_isClaim_2 (fun _ _ h => tX2_hasNode h) mpX2_hasNode miX2_hasNode kmX2_55 ⟨rfl, rfl, Nat.le_of_ble_eq_true rfl, Nat.le_of_ble_eq_true rfl⟩ ⟨Nat.le_refl _, Nat.le_refl _⟩ zcC_rc7 rfl (Nat.le_of_ble_eq_true rfl) (fun b1 σ2 => ?_)
  refine z_if_eq (tgt := 22) hc dX2_isClaim_5 (by decide) ?_ ?_
  · refine z_iconst (v := (0 : Int32)) hc dX2_isClaim_22 (by decide) ?_
    exact z_zret hc hr dX2_isClaim_23
  · refine z_aload_n hc dX2_isClaim_8 0 rfl ?_
    refine gfX2_9 hc dX2_isClaim_9 ?_
    refine z_iload_n hc dX2_isClaim_12 1 rfl ?_
    refine z_iaload hc 8 (by decide) rfl dX2_isClaim_13 (fun v3 => ?_)
    refine z_iconst (v := (2 : Int32)) hc dX2_isClaim_14 (by decide) ?_
    refine z_icmp_ne (tgt := 22) hc dX2_isClaim_15 (by decide) ?_ ?_
    · refine z_iconst (v := (1 : Int32)) hc dX2_isClaim_18 (by decide) ?_
      refine z_goto (tgt := 23) hc dX2_isClaim_19 (by decide) ?_
      exact z_zret hc hr dX2_isClaim_23
    · refine z_iconst (v := (0 : Int32)) hc dX2_isClaim_22 (by decide) ?_
      exact z_zret hc hr dX2_isClaim_23
set_option maxRecDepth 100000 in
set_option maxHeartbeats 4000000 in
theorem tX2_addStep_52 {p : Program} {l : Launch} {e : Env} {s : State} {m : MethodId} {args : Array Value} {below : List Frame} {meth : Method} {c : Code} {D : va_G} {ca : Nat → ClassId} {xa ad : Nat → Nat} {A : Nat → Prop} (hc : zCx p s m args meth c cX2_addStep 5 RX2 D ca xa A (zwC ad ca)) (hr : meth.sig.returnType = (some .int)) (N : Nat)   : ∀ (n : Nat) (x3 : Int32) (x4 : Int32) (σ : zSt), zGO p l e rmX2_addStep s m args below meth c 0 0 (zwC ad ca) D A 5 (zQ below D A (zwC ad ca) args s zI) (fX2_addStep_52 N n x3 x4 σ) σ 52 [(0, .ref (ad 7)), (3, .int x3), (4, .int x4)] [] := by
  intro n
  induction n with
  | zero =>
    intro x3 x4 σ
    exact z_none
  | succ n ih =>
    intro x3 x4 σ
    unfold fX2_addStep_52
    refine z_iload hc dX2_addStep_52 2 rfl ?_
    refine z_iconst (v := (3 : Int32)) hc dX2_addStep_54 (by decide) ?_
    refine z_icmp_ge (tgt := 76) hc dX2_addStep_55 (by decide) ?_ ?_
    · refine z_aload_n hc dX2_addStep_76 0 rfl ?_
      refine z_iload_n hc dX2_addStep_77 1 rfl ?_
      refine z_iconst (v := (1 : Int32)) hc dX2_addStep_78 (by decide) ?_
      refine z_iadd hc dX2_addStep_79 ?_
      refine pfX2_59 hc dX2_addStep_80 (fun σ1 => ?_)
      refine z_iload_n hc dX2_addStep_83 1 rfl ?_
      exact z_iret hc hr dX2_addStep_84
    · refine z_aload_n hc dX2_addStep_58 0 rfl ?_
      refine gfX2_45 hc dX2_addStep_59 ?_
      refine z_iload_n hc dX2_addStep_62 1 rfl ?_
      refine z_iconst (v := (3 : Int32)) hc dX2_addStep_63 (by decide) ?_
      refine z_imul hc dX2_addStep_64 ?_
      refine z_iload hc dX2_addStep_65 2 rfl ?_
      refine z_iadd hc dX2_addStep_67 ?_
      refine z_iconst (v := (0 : Int32)) hc dX2_addStep_68 (by decide) ?_
      refine z_iastore hc 19 (by decide) (fun _ _ => rfl) dX2_addStep_69 (fun σ2 => ?_)
      refine z_iinc (v := (x4 + (1 : Int32))) (lv' := [(4, .int (x4 + (1 : Int32))), (0, .ref (ad 7)), (3, .int x3)]) hc dX2_addStep_70 2 rfl rfl (by decide) rfl ?_
      refine z_goto (tgt := 52) hc dX2_addStep_73 (by decide) ?_
      refine z_sub [1, 2, 0] rfl ?_
      exact ih _ _ _
set_option maxRecDepth 100000 in
set_option maxHeartbeats 4000000 in
theorem tX2_addStep {l : Launch} {D : va_G} {ca : Nat → ClassId} {xa ad : Nat → Nat} {A : Nat → Prop} {N : Nat} {x1 : Int32} {x2 : Int32} {σ : zSt} {a : Int32} {τ : zSt} (h : fX2_addStep N x1 x2 σ = some (a, τ)) : zCt l yX2_addStep cX2_addStep 5 (some .int) rmX2_addStep D ca xa A (zwC ad ca) [.ref (ad 7), .int x1, .int x2] σ (zI a) τ := by
  refine z_met (inj := zI) (lv := [(0, .ref (ad 7)), (1, .int x1), (2, .int x2)]) (by decide) (Nat.le_of_ble_eq_true rfl) rfl ?_ h
  intro p e s m args below meth c hc hr
  unfold fX2_addStep
  refine z_aload_n hc dX2_addStep_0 0 rfl ?_
  refine gfX2_59 hc dX2_addStep_1 ?_
  refine z_bipush (v := (15 : Int32)) hc dX2_addStep_4 (by decide) ?_
  refine z_mmin hc kminX2_69 ⟨Nat.le_of_ble_eq_true rfl, Nat.le_of_ble_eq_true rfl, Nat.le_refl _, Nat.le_refl _⟩ dX2_addStep_6 ?_
  refine z_nm (fun v1 => ?_)
  refine z_istore_n (lv' := [(3, .int v1), (0, .ref (ad 7)), (1, .int x1), (2, .int x2)]) hc dX2_addStep_9 rfl (by decide) rfl ?_
  refine z_aload_n hc dX2_addStep_10 1 rfl ?_
  refine gfX2_27 hc dX2_addStep_11 ?_
  refine z_iload_n hc dX2_addStep_14 0 rfl ?_
  refine z_iload_n hc dX2_addStep_15 2 rfl ?_
  refine z_iastore hc 13 (by decide) (fun _ _ => rfl) dX2_addStep_16 (fun σ2 => ?_)
  refine z_aload_n hc dX2_addStep_17 1 rfl ?_
  refine gfX2_30 hc dX2_addStep_18 ?_
  refine z_iload_n hc dX2_addStep_21 0 rfl ?_
  refine z_iload_n hc dX2_addStep_22 3 rfl ?_
  refine z_iastore hc 14 (by decide) (fun _ _ => rfl) dX2_addStep_23 (fun σ3 => ?_)
  refine z_aload_n hc dX2_addStep_24 1 rfl ?_
  refine gfX2_33 hc dX2_addStep_25 ?_
  refine z_iload_n hc dX2_addStep_28 0 rfl ?_
  refine z_iconst (v := (0 : Int32)) hc dX2_addStep_29 (by decide) ?_
  refine z_iastore hc 15 (by decide) (fun _ _ => rfl) dX2_addStep_30 (fun σ4 => ?_)
  refine z_aload_n hc dX2_addStep_31 1 rfl ?_
  refine gfX2_36 hc dX2_addStep_32 ?_
  refine z_iload_n hc dX2_addStep_35 0 rfl ?_
  refine z_iconst (v := (0 : Int32)) hc dX2_addStep_36 (by decide) ?_
  refine z_iastore hc 16 (by decide) (fun _ _ => rfl) dX2_addStep_37 (fun σ5 => ?_)
  refine z_aload_n hc dX2_addStep_38 1 rfl ?_
  refine gfX2_42 hc dX2_addStep_39 ?_
  refine z_iload_n hc dX2_addStep_42 0 rfl ?_
  refine z_tab (N := 0) (f := zTW) (ref := "") hc (zexZ1 hc) kfX2_66 dX2_addStep_43 ?_
  refine z_iload_n hc dX2_addStep_46 2 rfl ?_
  refine z_tabld hc (zexT1 hc) dX2_addStep_47 (fun v6 => ?_)
  refine z_iastore hc 18 (by decide) (fun _ _ => rfl) dX2_addStep_48 (fun σ7 => ?_)
  refine z_iconst (v := (0 : Int32)) hc dX2_addStep_49 (by decide) ?_
  refine z_istore (lv' := [(4, .int (0 : Int32)), (3, .int v1), (0, .ref (ad 7)), (1, .int x1), (2, .int x2)]) hc dX2_addStep_50 (by decide) rfl ?_
  refine z_sub [2, 1, 0] rfl ?_
  exact tX2_addStep_52 hc hr N N _ _ _
set_option maxRecDepth 100000 in
set_option maxHeartbeats 4000000 in
theorem tX7_bitAt {l : Launch} {D : va_G} {ca : Nat → ClassId} {xa ad : Nat → Nat} {A : Nat → Prop} {N : Nat} {x0 : Int32} {x1 : Int32} {σ : zSt} {a : Int32} {τ : zSt} (h : fX7_bitAt N x0 x1 σ = some (a, τ)) : zCt l yX7_bitAt cX7_bitAt 2 (some .int) rmX7_bitAt D ca xa A (zwC ad ca) [.int x0, .int x1] σ (zI a) τ := by
  refine z_met (inj := zI) (lv := [(0, .int x0), (1, .int x1)]) (by decide) (Nat.le_of_ble_eq_true rfl) rfl ?_ h
  intro p e s m args below meth c hc hr
  unfold fX7_bitAt
  refine z_iload_n hc dX7_bitAt_0 0 rfl ?_
  refine z_iload_n hc dX7_bitAt_1 1 rfl ?_
  refine z_ishr hc dX7_bitAt_2 ?_
  refine z_iconst (v := (1 : Int32)) hc dX7_bitAt_3 (by decide) ?_
  refine z_iand hc dX7_bitAt_4 ?_
  exact z_iret hc hr dX7_bitAt_5
set_option maxRecDepth 100000 in
set_option maxHeartbeats 4000000 in
theorem tX2_hasPart {l : Launch} {D : va_G} {ca : Nat → ClassId} {xa ad : Nat → Nat} {A : Nat → Prop} {N : Nat} {x1 : Int32} {x2 : Int32} {σ : zSt} {a : Int32} {τ : zSt} (h : fX2_hasPart N x1 x2 σ = some (a, τ)) : zCt l yX2_hasPart cX2_hasPart 3 (some .boolean) rmX2_hasPart D ca xa A (zwC ad ca) [.ref (ad 7), .int x1, .int x2] σ (zI a) τ := by
  refine z_met (inj := zI) (lv := [(0, .ref (ad 7)), (1, .int x1), (2, .int x2)]) (by decide) (Nat.le_of_ble_eq_true rfl) rfl ?_ h
  intro p e s m args below meth c hc hr
  unfold fX2_hasPart
  refine z_aload_n hc dX2_hasPart_0 0 rfl ?_
  refine gfX2_36 hc dX2_hasPart_1 ?_
  refine z_iload_n hc dX2_hasPart_4 1 rfl ?_
  refine z_iaload hc 16 (by decide) rfl dX2_hasPart_5 (fun v1 => ?_)
  refine z_iload_n hc dX2_hasPart_6 2 rfl ?_
  refine z_runSNi (As := [.int v1, .int x2]) (rest := []) hc dX2_hasPart_7 (fun _ _ h => tX7_bitAt h) mpX7_bitAt miX7_bitAt kmX2_62 ⟨rfl, rfl, Nat.le_of_ble_eq_true rfl, Nat.le_of_ble_eq_true rfl⟩ ⟨Nat.le_refl _, Nat.le_refl _⟩ rfl (Nat.le_of_ble_eq_true rfl) (fun b2 σ3 => ?_)
  refine z_iconst (v := (1 : Int32)) hc dX2_hasPart_10 (by decide) ?_
  refine z_icmp_ne (tgt := 18) hc dX2_hasPart_11 (by decide) ?_ ?_
  · refine z_iconst (v := (1 : Int32)) hc dX2_hasPart_14 (by decide) ?_
    refine z_goto (tgt := 19) hc dX2_hasPart_15 (by decide) ?_
    exact z_zret hc hr dX2_hasPart_19
  · refine z_iconst (v := (0 : Int32)) hc dX2_hasPart_18 (by decide) ?_
    exact z_zret hc hr dX2_hasPart_19
set_option maxRecDepth 100000 in
set_option maxHeartbeats 4000000 in
theorem tX2_addPart {l : Launch} {D : va_G} {ca : Nat → ClassId} {xa ad : Nat → Nat} {A : Nat → Prop} {N : Nat} {x1 : Int32} {x2 : Int32} {σ : zSt} {a : Unit} {τ : zSt} (h : fX2_addPart N x1 x2 σ = some (a, τ)) : zCt l yX2_addPart cX2_addPart 3 none rmX2_addPart D ca xa A (zwC ad ca) [.ref (ad 7), .int x1, .int x2] σ (zV a) τ := by
  refine z_met (inj := zV) (lv := [(0, .ref (ad 7)), (1, .int x1), (2, .int x2)]) (by decide) (Nat.le_of_ble_eq_true rfl) rfl ?_ h
  intro p e s m args below meth c hc hr
  unfold fX2_addPart
  refine z_aload_n hc dX2_addPart_0 0 rfl ?_
  refine gfX2_33 hc dX2_addPart_1 ?_
  refine z_iload_n hc dX2_addPart_4 1 rfl ?_
  refine z_iaload hc 15 (by decide) rfl dX2_addPart_5 (fun v1 => ?_)
  refine z_bipush (v := (6 : Int32)) hc dX2_addPart_6 (by decide) ?_
  refine z_icmp_lt (tgt := 12) hc dX2_addPart_8 (by decide) ?_ ?_
  · refine z_aload_n hc dX2_addPart_12 0 rfl ?_
    refine gfX2_39 hc dX2_addPart_13 ?_
    refine z_iload_n hc dX2_addPart_16 1 rfl ?_
    refine z_bipush (v := (6 : Int32)) hc dX2_addPart_17 (by decide) ?_
    refine z_imul hc dX2_addPart_19 ?_
    refine z_aload_n hc dX2_addPart_20 0 rfl ?_
    refine gfX2_33 hc dX2_addPart_21 ?_
    refine z_iload_n hc dX2_addPart_24 1 rfl ?_
    refine z_iaload hc 15 (by decide) rfl dX2_addPart_25 (fun v2 => ?_)
    refine z_iadd hc dX2_addPart_26 ?_
    refine z_iload_n hc dX2_addPart_27 2 rfl ?_
    refine z_iastore hc 17 (by decide) (fun _ _ => rfl) dX2_addPart_28 (fun σ3 => ?_)
    refine z_aload_n hc dX2_addPart_29 0 rfl ?_
    refine gfX2_36 hc dX2_addPart_30 ?_
    refine z_iload_n hc dX2_addPart_33 1 rfl ?_
    refine z_dup2_11 hc dX2_addPart_34 rfl rfl ?_
    refine z_iaload hc 16 (by decide) rfl dX2_addPart_35 (fun v4 => ?_)
    refine z_iconst (v := (1 : Int32)) hc dX2_addPart_36 (by decide) ?_
    refine z_iload_n hc dX2_addPart_37 2 rfl ?_
    refine z_ishl hc dX2_addPart_38 ?_
    refine z_ior hc dX2_addPart_39 ?_
    refine z_iastore hc 16 (by decide) (fun _ _ => rfl) dX2_addPart_40 (fun σ5 => ?_)
    refine z_aload_n hc dX2_addPart_41 0 rfl ?_
    refine gfX2_33 hc dX2_addPart_42 ?_
    refine z_iload_n hc dX2_addPart_45 1 rfl ?_
    refine z_dup2_11 hc dX2_addPart_46 rfl rfl ?_
    refine z_iaload hc 15 (by decide) rfl dX2_addPart_47 (fun v6 => ?_)
    refine z_iconst (v := (1 : Int32)) hc dX2_addPart_48 (by decide) ?_
    refine z_iadd hc dX2_addPart_49 ?_
    refine z_iastore hc 15 (by decide) (fun _ _ => rfl) dX2_addPart_50 (fun σ7 => ?_)
    exact z_vret hc hr dX2_addPart_51
  · exact z_vret hc hr dX2_addPart_11
set_option maxRecDepth 100000 in
set_option maxHeartbeats 4000000 in
theorem tX5_readPart {l : Launch} {D : va_G} {ca : Nat → ClassId} {xa ad : Nat → Nat} {A : Nat → Prop} {N : Nat} {x2 : Int32} {σ : zSt} {a : Int32} {τ : zSt} (h : fX5_readPart N x2 σ = some (a, τ)) : zCt l yX5_readPart cX5_readPart 3 (some .int) rmX5_readPart D ca xa A (zwC ad ca) [.ref (ad 5), .ref (ad 7), .int x2] σ (zI a) τ := by
  refine z_met (inj := zI) (lv := [(0, .ref (ad 5)), (1, .ref (ad 7)), (2, .int x2)]) (by decide) (Nat.le_of_ble_eq_true rfl) rfl ?_ h
  intro p e s m args below meth c hc hr
  unfold fX5_readPart
  refine z_aload_n hc dX5_readPart_0 0 rfl ?_
  refine gfX5_25 hc dX5_readPart_1 ?_
  refine z_iconst (v := (2 : Int32)) hc dX5_readPart_4 (by decide) ?_
  refine z_icmp_eq (tgt := 10) hc dX5_readPart_5 (by decide) ?_ ?_
  · refine z_aload_n hc dX5_readPart_10 1 rfl ?_
    refine z_aload_n hc dX5_readPart_11 0 rfl ?_
    refine gfX5_59 hc dX5_readPart_12 ?_
    refine z_runVNi (b0 := ad 7) (As := [.int (σ.1 5 5)]) (rest := []) hc dX5_readPart_15 (fun _ _ h => tX2_hasNode h) mpX2_hasNode miX2_hasNode kmX5_87 ⟨rfl, rfl, Nat.le_of_ble_eq_true rfl, Nat.le_of_ble_eq_true rfl⟩ ⟨Nat.le_refl _, Nat.le_refl _⟩ zcC_rc7 rfl (Nat.le_of_ble_eq_true rfl) (fun b1 σ2 => ?_)
    refine z_if_eq (tgt := 33) hc dX5_readPart_18 (by decide) ?_ ?_
    · refine z_iconst (v := (2 : Int32)) hc dX5_readPart_33 (by decide) ?_
      exact z_iret hc hr dX5_readPart_34
    · refine z_aload_n hc dX5_readPart_21 1 rfl ?_
      refine z_iload_n hc dX5_readPart_22 2 rfl ?_
      refine z_aload_n hc dX5_readPart_23 0 rfl ?_
      refine gfX5_59 hc dX5_readPart_24 ?_
      refine z_runVNi (b0 := ad 7) (As := [.int x2, .int (σ2.1 5 5)]) (rest := []) hc dX5_readPart_27 (fun _ _ h => tX2_hasPart h) mpX2_hasPart miX2_hasPart kmX5_90 ⟨rfl, rfl, Nat.le_of_ble_eq_true rfl, Nat.le_of_ble_eq_true rfl⟩ ⟨Nat.le_refl _, Nat.le_refl _⟩ zcC_rc7 rfl (Nat.le_of_ble_eq_true rfl) (fun b3 σ4 => ?_)
      refine z_if_eq (tgt := 35) hc dX5_readPart_30 (by decide) ?_ ?_
      · refine z_aload_n hc dX5_readPart_35 1 rfl ?_
        refine gfX5_94 hc dX5_readPart_36 ?_
        refine z_iload_n hc dX5_readPart_39 2 rfl ?_
        refine z_iaload hc 15 (by decide) rfl dX5_readPart_40 (fun v5 => ?_)
        refine z_bipush (v := (6 : Int32)) hc dX5_readPart_41 (by decide) ?_
        refine z_icmp_lt (tgt := 48) hc dX5_readPart_43 (by decide) ?_ ?_
        · refine z_aload_n hc dX5_readPart_48 1 rfl ?_
          refine z_iload_n hc dX5_readPart_49 2 rfl ?_
          refine z_aload_n hc dX5_readPart_50 0 rfl ?_
          refine gfX5_59 hc dX5_readPart_51 ?_
          refine z_runVNv (b0 := ad 7) (As := [.int x2, .int (σ4.1 5 5)]) (rest := []) hc dX5_readPart_54 (fun _ _ h => tX2_addPart h) mpX2_addPart miX2_addPart kmX5_98 ⟨rfl, rfl, Nat.le_of_ble_eq_true rfl, Nat.le_of_ble_eq_true rfl⟩ ⟨Nat.le_refl _, Nat.le_refl _⟩ zcC_rc7 rfl (Nat.le_of_ble_eq_true rfl) (fun b6 σ7 => ?_)
          refine z_aload_n hc dX5_readPart_57 0 rfl ?_
          refine z_runVv (b0 := ad 5) (As := []) (rest := []) hc dX5_readPart_58 (fun _ _ h => tX5_take h) mpX5_take miX5_take kmX5_22 ⟨rfl, rfl, Nat.le_of_ble_eq_true rfl, Nat.le_of_ble_eq_true rfl⟩ ⟨Nat.le_refl _, Nat.le_refl _⟩ zcC_rc5 rfl (Nat.le_of_ble_eq_true rfl) (fun b8 σ9 => ?_)
          refine z_iconst (v := (0 : Int32)) hc dX5_readPart_61 (by decide) ?_
          exact z_iret hc hr dX5_readPart_62
        · refine z_iconst (v := (3 : Int32)) hc dX5_readPart_46 (by decide) ?_
          exact z_iret hc hr dX5_readPart_47
      · refine z_iconst (v := (2 : Int32)) hc dX5_readPart_33 (by decide) ?_
        exact z_iret hc hr dX5_readPart_34
  · refine z_iconst (v := (1 : Int32)) hc dX5_readPart_8 (by decide) ?_
    exact z_iret hc hr dX5_readPart_9
set_option maxRecDepth 100000 in
set_option maxHeartbeats 4000000 in
theorem tX5_readStep_112 {p : Program} {l : Launch} {e : Env} {s : State} {m : MethodId} {args : Array Value} {below : List Frame} {meth : Method} {c : Code} {D : va_G} {ca : Nat → ClassId} {xa ad : Nat → Nat} {A : Nat → Prop} (hc : zCx p s m args meth c cX5_readStep 6 RX5 D ca xa A (zwC ad ca)) (hr : meth.sig.returnType = (some .int)) (N : Nat)   (x4 : Int32) (σ : zSt) : zGO p l e rmX5_readStep s m args below meth c 0 0 (zwC ad ca) D A 6 (zQ below D A (zwC ad ca) args s zI) (fX5_readStep_112 N x4 σ) σ 112 [(0, .ref (ad 5)), (4, .int x4)] [] := by
  unfold fX5_readStep_112
  refine z_iload hc dX5_readStep_112 1 rfl ?_
  refine z_if_eq (tgt := 122) hc dX5_readStep_114 (by decide) ?_ ?_
  · refine z_aload_n hc dX5_readStep_122 0 rfl ?_
    refine z_runVi (b0 := ad 5) (As := []) (rest := []) hc dX5_readStep_123 (fun _ _ h => tX5_readSign h) mpX5_readSign miX5_readSign kmX5_66 ⟨rfl, rfl, Nat.le_of_ble_eq_true rfl, Nat.le_of_ble_eq_true rfl⟩ ⟨Nat.le_refl _, Nat.le_refl _⟩ zcC_rc5 rfl (Nat.le_of_ble_eq_true rfl) (fun b1 σ2 => ?_)
    exact z_iret hc hr dX5_readStep_126
  · refine z_iload hc dX5_readStep_117 1 rfl ?_
    refine z_goto (tgt := 126) hc dX5_readStep_119 (by decide) ?_
    exact z_iret hc hr dX5_readStep_126
set_option maxRecDepth 100000 in
set_option maxHeartbeats 4000000 in
theorem tX5_readStep_78 {p : Program} {l : Launch} {e : Env} {s : State} {m : MethodId} {args : Array Value} {below : List Frame} {meth : Method} {c : Code} {D : va_G} {ca : Nat → ClassId} {xa ad : Nat → Nat} {A : Nat → Prop} (hc : zCx p s m args meth c cX5_readStep 6 RX5 D ca xa A (zwC ad ca)) (hr : meth.sig.returnType = (some .int)) (N : Nat)   : ∀ (n : Nat) (x3 : Int32) (x4 : Int32) (x5 : Int32) (σ : zSt), zGO p l e rmX5_readStep s m args below meth c 0 0 (zwC ad ca) D A 6 (zQ below D A (zwC ad ca) args s zI) (fX5_readStep_78 N n x3 x4 x5 σ) σ 78 [(0, .ref (ad 5)), (1, .ref (ad 7)), (3, .int x3), (4, .int x4), (5, .int x5)] [] := by
  intro n
  induction n with
  | zero =>
    intro x3 x4 x5 σ
    exact z_none
  | succ n ih =>
    intro x3 x4 x5 σ
    unfold fX5_readStep_78
    refine z_iload hc dX5_readStep_78 4 rfl ?_
    refine z_bipush (v := (6 : Int32)) hc dX5_readStep_80 (by decide) ?_
    refine z_icmp_ge (tgt := 112) hc dX5_readStep_82 (by decide) ?_ ?_
    · refine z_sub [0, 3] rfl ?_
      exact tX5_readStep_112 hc hr N _ _
    · refine z_iload hc dX5_readStep_85 3 rfl ?_
      refine z_if_ne (tgt := 112) hc dX5_readStep_87 (by decide) ?_ ?_
      · refine z_aload_n hc dX5_readStep_90 0 rfl ?_
        refine gfX5_25 hc dX5_readStep_91 ?_
        refine z_iconst (v := (2 : Int32)) hc dX5_readStep_94 (by decide) ?_
        refine z_icmp_ne (tgt := 112) hc dX5_readStep_95 (by decide) ?_ ?_
        · refine z_aload_n hc dX5_readStep_98 0 rfl ?_
          refine z_aload_n hc dX5_readStep_99 1 rfl ?_
          refine z_iload_n hc dX5_readStep_100 2 rfl ?_
          refine z_runVi (b0 := ad 5) (As := [.ref (ad 7), .int x3]) (rest := []) hc dX5_readStep_101 (fun _ _ h => tX5_readPart h) mpX5_readPart miX5_readPart kmX5_84 ⟨rfl, rfl, Nat.le_of_ble_eq_true rfl, Nat.le_of_ble_eq_true rfl⟩ ⟨Nat.le_refl _, Nat.le_refl _⟩ zcC_rc5 rfl (Nat.le_of_ble_eq_true rfl) (fun b1 σ2 => ?_)
          refine z_istore (lv' := [(4, .int b1), (0, .ref (ad 5)), (1, .ref (ad 7)), (3, .int x3), (5, .int x5)]) hc dX5_readStep_104 (by decide) rfl ?_
          refine z_iinc (v := (x5 + (1 : Int32))) (lv' := [(5, .int (x5 + (1 : Int32))), (4, .int b1), (0, .ref (ad 5)), (1, .ref (ad 7)), (3, .int x3)]) hc dX5_readStep_106 4 rfl rfl (by decide) rfl ?_
          refine z_goto (tgt := 78) hc dX5_readStep_109 (by decide) ?_
          refine z_sub [2, 3, 4, 1, 0] rfl ?_
          exact ih _ _ _ _
        · refine z_sub [0, 3] rfl ?_
          exact tX5_readStep_112 hc hr N _ _
      · refine z_sub [0, 3] rfl ?_
        exact tX5_readStep_112 hc hr N _ _
set_option maxRecDepth 100000 in
set_option maxHeartbeats 4000000 in
theorem tX5_readStep {l : Launch} {D : va_G} {ca : Nat → ClassId} {xa ad : Nat → Nat} {A : Nat → Prop} {N : Nat}  {σ : zSt} {a : Int32} {τ : zSt} (h : fX5_readStep N σ = some (a, τ)) : zCt l yX5_readStep cX5_readStep 6 (some .int) rmX5_readStep D ca xa A (zwC ad ca) [.ref (ad 5), .ref (ad 7)] σ (zI a) τ := by
  refine z_met (inj := zI) (lv := [(0, .ref (ad 5)), (1, .ref (ad 7))]) (by decide) (Nat.le_of_ble_eq_true rfl) rfl ?_ h
  intro p e s m args below meth c hc hr
  unfold fX5_readStep
  refine z_aload_n hc dX5_readStep_0 1 rfl ?_
  refine gfX5_70 hc dX5_readStep_1 ?_
  refine z_bipush (v := (16 : Int32)) hc dX5_readStep_4 (by decide) ?_
  refine z_icmp_lt (tgt := 11) hc dX5_readStep_6 (by decide) ?_ ?_
  · refine z_aload_n hc dX5_readStep_11 0 rfl ?_
    refine z_runVv (b0 := ad 5) (As := []) (rest := []) hc dX5_readStep_12 (fun _ _ h => tX5_take h) mpX5_take miX5_take kmX5_22 ⟨rfl, rfl, Nat.le_of_ble_eq_true rfl, Nat.le_of_ble_eq_true rfl⟩ ⟨Nat.le_refl _, Nat.le_refl _⟩ zcC_rc5 rfl (Nat.le_of_ble_eq_true rfl) (fun b1 σ2 => ?_)
    refine z_aload_n hc dX5_readStep_15 0 rfl ?_
    refine z_runVi (b0 := ad 5) (As := []) (rest := []) hc dX5_readStep_16 (fun _ _ h => tX5_formTold h) mpX5_formTold miX5_formTold kmX5_73 ⟨rfl, rfl, Nat.le_of_ble_eq_true rfl, Nat.le_of_ble_eq_true rfl⟩ ⟨Nat.le_refl _, Nat.le_refl _⟩ zcC_rc5 rfl (Nat.le_of_ble_eq_true rfl) (fun b3 σ4 => ?_)
    refine z_istore_n (lv' := [(2, .int b3), (0, .ref (ad 5)), (1, .ref (ad 7))]) hc dX5_readStep_19 rfl (by decide) rfl ?_
    refine z_iload_n hc dX5_readStep_20 0 rfl ?_
    refine z_if_ge (tgt := 26) hc dX5_readStep_21 (by decide) ?_ ?_
    · refine z_aload_n hc dX5_readStep_26 1 rfl ?_
      refine z_runVv (b0 := ad 5) (As := []) (rest := []) hc dX5_readStep_27 (fun _ _ h => tX5_take h) mpX5_take miX5_take kmX5_22 ⟨rfl, rfl, Nat.le_of_ble_eq_true rfl, Nat.le_of_ble_eq_true rfl⟩ ⟨Nat.le_refl _, Nat.le_refl _⟩ zcC_rc5 rfl (Nat.le_of_ble_eq_true rfl) (fun b5 σ6 => ?_)
      refine z_aload_n hc dX5_readStep_30 1 rfl ?_
      refine gfX5_25 hc dX5_readStep_31 ?_
      refine z_iconst (v := (2 : Int32)) hc dX5_readStep_34 (by decide) ?_
      refine z_icmp_eq (tgt := 40) hc dX5_readStep_35 (by decide) ?_ ?_
      · refine z_aload_n hc dX5_readStep_40 2 rfl ?_
        refine z_aload_n hc dX5_readStep_41 1 rfl ?_
        refine gfX5_59 hc dX5_readStep_42 ?_
        refine z_runVNi (b0 := ad 7) (As := [.int (σ6.1 5 5)]) (rest := []) hc dX5_readStep_45 (fun _ _ h => tX2_isClaim h) mpX2_isClaim miX2_isClaim kmX5_76 ⟨rfl, rfl, Nat.le_of_ble_eq_true rfl, Nat.le_of_ble_eq_true rfl⟩ ⟨Nat.le_refl _, Nat.le_refl _⟩ zcC_rc7 rfl (Nat.le_of_ble_eq_true rfl) (fun b7 σ8 => ?_)
        refine z_if_ne (tgt := 53) hc dX5_readStep_48 (by decide) ?_ ?_
        · refine z_iconst (v := (2 : Int32)) hc dX5_readStep_51 (by decide) ?_
          exact z_iret hc hr dX5_readStep_52
        · refine z_aload_n hc dX5_readStep_53 2 rfl ?_
          refine z_iload_n hc dX5_readStep_54 0 rfl ?_
          refine z_aload_n hc dX5_readStep_55 1 rfl ?_
          refine gfX5_59 hc dX5_readStep_56 ?_
          refine z_runVNi (b0 := ad 7) (As := [.int b3, .int (σ8.1 5 5)]) (rest := []) hc dX5_readStep_59 (fun _ _ h => tX2_addStep h) mpX2_addStep miX2_addStep kmX5_80 ⟨rfl, rfl, Nat.le_of_ble_eq_true rfl, Nat.le_of_ble_eq_true rfl⟩ ⟨Nat.le_refl _, Nat.le_refl _⟩ zcC_rc7 rfl (Nat.le_of_ble_eq_true rfl) (fun b9 σ10 => ?_)
          refine z_istore_n (lv' := [(3, .int b9), (2, .int b3), (0, .ref (ad 5)), (1, .ref (ad 7))]) hc dX5_readStep_62 rfl (by decide) rfl ?_
          refine z_aload_n hc dX5_readStep_63 2 rfl ?_
          refine z_runVv (b0 := ad 5) (As := []) (rest := []) hc dX5_readStep_64 (fun _ _ h => tX5_take h) mpX5_take miX5_take kmX5_22 ⟨rfl, rfl, Nat.le_of_ble_eq_true rfl, Nat.le_of_ble_eq_true rfl⟩ ⟨Nat.le_refl _, Nat.le_refl _⟩ zcC_rc5 rfl (Nat.le_of_ble_eq_true rfl) (fun b11 σ12 => ?_)
          refine z_aload_n hc dX5_readStep_67 2 rfl ?_
          refine z_aload_n hc dX5_readStep_68 3 rfl ?_
          refine z_iload_n hc dX5_readStep_69 0 rfl ?_
          refine z_runVi (b0 := ad 5) (As := [.ref (ad 7), .int b9]) (rest := []) hc dX5_readStep_70 (fun _ _ h => tX5_readPart h) mpX5_readPart miX5_readPart kmX5_84 ⟨rfl, rfl, Nat.le_of_ble_eq_true rfl, Nat.le_of_ble_eq_true rfl⟩ ⟨Nat.le_refl _, Nat.le_refl _⟩ zcC_rc5 rfl (Nat.le_of_ble_eq_true rfl) (fun b13 σ14 => ?_)
          refine z_istore (lv' := [(4, .int b13), (3, .int b9), (2, .int b3), (0, .ref (ad 5)), (1, .ref (ad 7))]) hc dX5_readStep_73 (by decide) rfl ?_
          refine z_iconst (v := (0 : Int32)) hc dX5_readStep_75 (by decide) ?_
          refine z_istore (lv' := [(5, .int (0 : Int32)), (4, .int b13), (3, .int b9), (2, .int b3), (0, .ref (ad 5)), (1, .ref (ad 7))]) hc dX5_readStep_76 (by decide) rfl ?_
          refine z_sub [4, 5, 2, 1, 0] rfl ?_
          exact tX5_readStep_78 hc hr N N _ _ _ _
      · refine z_iconst (v := (1 : Int32)) hc dX5_readStep_38 (by decide) ?_
        exact z_iret hc hr dX5_readStep_39
    · refine z_iconst (v := (1 : Int32)) hc dX5_readStep_24 (by decide) ?_
      exact z_iret hc hr dX5_readStep_25
  · refine z_iconst (v := (3 : Int32)) hc dX5_readStep_9 (by decide) ?_
    exact z_iret hc hr dX5_readStep_10
set_option maxRecDepth 100000 in
set_option maxHeartbeats 4000000 in
theorem tX5_readSentence {l : Launch} {D : va_G} {ca : Nat → ClassId} {xa ad : Nat → Nat} {A : Nat → Prop} {N : Nat}  {σ : zSt} {a : Int32} {τ : zSt} (h : fX5_readSentence N σ = some (a, τ)) : zCt l yX5_readSentence cX5_readSentence 2 (some .int) rmX5_readSentence D ca xa A (zwC ad ca) [.ref (ad 5), .ref (ad 7)] σ (zI a) τ := by
  refine z_met (inj := zI) (lv := [(0, .ref (ad 5)), (1, .ref (ad 7))]) (by decide) (Nat.le_of_ble_eq_true rfl) rfl ?_ h
  intro p e s m args below meth c hc hr
  unfold fX5_readSentence
  refine z_aload_n hc dX5_readSentence_0 0 rfl ?_
  refine z_ldcS (i := 0) hc dX5_readSentence_1 (by decide) rfl ?_
  refine z_runVi (b0 := ad 5) (As := [.ref (xa (10 + 0))]) (rest := []) hc dX5_readSentence_3 (fun _ _ h => tX5_isWord h) mpX5_isWord miX5_isWord kmX5_34 ⟨rfl, rfl, Nat.le_of_ble_eq_true rfl, Nat.le_of_ble_eq_true rfl⟩ ⟨Nat.le_refl _, Nat.le_refl _⟩ zcC_rc5 rfl (Nat.le_of_ble_eq_true rfl) (fun b1 σ2 => ?_)
  refine z_if_eq (tgt := 16) hc dX5_readSentence_6 (by decide) ?_ ?_
  · refine z_aload_n hc dX5_readSentence_16 0 rfl ?_
    refine z_ldcS (i := 1) hc dX5_readSentence_17 (by decide) rfl ?_
    refine z_runVi (b0 := ad 5) (As := [.ref (xa (10 + 1))]) (rest := []) hc dX5_readSentence_19 (fun _ _ h => tX5_isWord h) mpX5_isWord miX5_isWord kmX5_34 ⟨rfl, rfl, Nat.le_of_ble_eq_true rfl, Nat.le_of_ble_eq_true rfl⟩ ⟨Nat.le_refl _, Nat.le_refl _⟩ zcC_rc5 rfl (Nat.le_of_ble_eq_true rfl) (fun b3 σ4 => ?_)
    refine z_if_eq (tgt := 32) hc dX5_readSentence_22 (by decide) ?_ ?_
    · refine z_aload_n hc dX5_readSentence_32 0 rfl ?_
      refine z_ldcS (i := 2) hc dX5_readSentence_33 (by decide) rfl ?_
      refine z_runVi (b0 := ad 5) (As := [.ref (xa (10 + 2))]) (rest := []) hc dX5_readSentence_35 (fun _ _ h => tX5_isWord h) mpX5_isWord miX5_isWord kmX5_34 ⟨rfl, rfl, Nat.le_of_ble_eq_true rfl, Nat.le_of_ble_eq_true rfl⟩ ⟨Nat.le_refl _, Nat.le_refl _⟩ zcC_rc5 rfl (Nat.le_of_ble_eq_true rfl) (fun b5 σ6 => ?_)
      refine z_if_eq (tgt := 47) hc dX5_readSentence_38 (by decide) ?_ ?_
      · refine z_aload_n hc dX5_readSentence_47 0 rfl ?_
        refine z_ldcS (i := 3) hc dX5_readSentence_48 (by decide) rfl ?_
        refine z_runVi (b0 := ad 5) (As := [.ref (xa (10 + 3))]) (rest := []) hc dX5_readSentence_50 (fun _ _ h => tX5_isWord h) mpX5_isWord miX5_isWord kmX5_34 ⟨rfl, rfl, Nat.le_of_ble_eq_true rfl, Nat.le_of_ble_eq_true rfl⟩ ⟨Nat.le_refl _, Nat.le_refl _⟩ zcC_rc5 rfl (Nat.le_of_ble_eq_true rfl) (fun b7 σ8 => ?_)
        refine z_if_eq (tgt := 62) hc dX5_readSentence_53 (by decide) ?_ ?_
        · refine z_iconst (v := (1 : Int32)) hc dX5_readSentence_62 (by decide) ?_
          exact z_iret hc hr dX5_readSentence_63
        · refine z_aload_n hc dX5_readSentence_56 0 rfl ?_
          refine z_aload_n hc dX5_readSentence_57 1 rfl ?_
          refine z_runVi (b0 := ad 5) (As := [.ref (ad 7)]) (rest := []) hc dX5_readSentence_58 (fun _ _ h => tX5_readStep h) mpX5_readStep miX5_readStep kmX5_51 ⟨rfl, rfl, Nat.le_of_ble_eq_true rfl, Nat.le_of_ble_eq_true rfl⟩ ⟨Nat.le_refl _, Nat.le_refl _⟩ zcC_rc5 rfl (Nat.le_of_ble_eq_true rfl) (fun b9 σ10 => ?_)
          exact z_iret hc hr dX5_readSentence_61
      · refine z_aload_n hc dX5_readSentence_41 0 rfl ?_
        refine z_aload_n hc dX5_readSentence_42 1 rfl ?_
        refine z_runVi (b0 := ad 5) (As := [.ref (ad 7)]) (rest := []) hc dX5_readSentence_43 (fun _ _ h => tX5_readClaim h) mpX5_readClaim miX5_readClaim kmX5_46 ⟨rfl, rfl, Nat.le_of_ble_eq_true rfl, Nat.le_of_ble_eq_true rfl⟩ ⟨Nat.le_refl _, Nat.le_refl _⟩ zcC_rc5 rfl (Nat.le_of_ble_eq_true rfl) (fun b11 σ12 => ?_)
        exact z_iret hc hr dX5_readSentence_46
    · refine z_aload_n hc dX5_readSentence_25 0 rfl ?_
      refine z_aload_n hc dX5_readSentence_26 1 rfl ?_
      refine z_iconst (v := (1 : Int32)) hc dX5_readSentence_27 (by decide) ?_
      refine z_runVi (b0 := ad 5) (As := [.ref (ad 7), .int (1 : Int32)]) (rest := []) hc dX5_readSentence_28 (fun _ _ h => tX5_readGround h) mpX5_readGround miX5_readGround kmX5_38 ⟨rfl, rfl, Nat.le_of_ble_eq_true rfl, Nat.le_of_ble_eq_true rfl⟩ ⟨Nat.le_refl _, Nat.le_refl _⟩ zcC_rc5 rfl (Nat.le_of_ble_eq_true rfl) (fun b13 σ14 => ?_)
      exact z_iret hc hr dX5_readSentence_31
  · refine z_aload_n hc dX5_readSentence_9 0 rfl ?_
    refine z_aload_n hc dX5_readSentence_10 1 rfl ?_
    refine z_iconst (v := (0 : Int32)) hc dX5_readSentence_11 (by decide) ?_
    refine z_runVi (b0 := ad 5) (As := [.ref (ad 7), .int (0 : Int32)]) (rest := []) hc dX5_readSentence_12 (fun _ _ h => tX5_readGround h) mpX5_readGround miX5_readGround kmX5_38 ⟨rfl, rfl, Nat.le_of_ble_eq_true rfl, Nat.le_of_ble_eq_true rfl⟩ ⟨Nat.le_refl _, Nat.le_refl _⟩ zcC_rc5 rfl (Nat.le_of_ble_eq_true rfl) (fun b15 σ16 => ?_)
    exact z_iret hc hr dX5_readSentence_15
set_option maxRecDepth 100000 in
set_option maxHeartbeats 4000000 in
theorem tX5_read_43 {p : Program} {l : Launch} {e : Env} {s : State} {m : MethodId} {args : Array Value} {below : List Frame} {meth : Method} {c : Code} {D : va_G} {ca : Nat → ClassId} {xa ad : Nat → Nat} {A : Nat → Prop} (hc : zCx p s m args meth c cX5_read 4 RX5 D ca xa A (zwC ad ca)) (hr : meth.sig.returnType = (some .int)) (N : Nat)   (x2 : Int32) (σ : zSt) : zGO p l e rmX5_read s m args below meth c 0 0 (zwC ad ca) D A 4 (zQ below D A (zwC ad ca) args s zI) (fX5_read_43 N x2 σ) σ 43 [(0, .ref (ad 5)), (2, .int x2)] [] := by
  unfold fX5_read_43
  refine z_aload_n hc dX5_read_43 0 rfl ?_
  refine z_iconst (v := (0 : Int32)) hc dX5_read_44 (by decide) ?_
  refine pfX5_15 hc dX5_read_45 (fun σ1 => ?_)
  refine z_iload_n hc dX5_read_48 1 rfl ?_
  exact z_iret hc hr dX5_read_49
set_option maxRecDepth 100000 in
set_option maxHeartbeats 4000000 in
theorem tX5_read_13 {p : Program} {l : Launch} {e : Env} {s : State} {m : MethodId} {args : Array Value} {below : List Frame} {meth : Method} {c : Code} {D : va_G} {ca : Nat → ClassId} {xa ad : Nat → Nat} {A : Nat → Prop} (hc : zCx p s m args meth c cX5_read 4 RX5 D ca xa A (zwC ad ca)) (hr : meth.sig.returnType = (some .int)) (N : Nat)   : ∀ (n : Nat) (x2 : Int32) (x3 : Int32) (σ : zSt), zGO p l e rmX5_read s m args below meth c 0 0 (zwC ad ca) D A 4 (zQ below D A (zwC ad ca) args s zI) (fX5_read_13 N n x2 x3 σ) σ 13 [(0, .ref (ad 5)), (1, .ref (ad 7)), (2, .int x2), (3, .int x3)] [] := by
  intro n
  induction n with
  | zero =>
    intro x2 x3 σ
    exact z_none
  | succ n ih =>
    intro x2 x3 σ
    unfold fX5_read_13
    refine z_iload_n hc dX5_read_13 3 rfl ?_
    refine z_sipush (v := (400 : Int32)) hc dX5_read_14 (by decide) ?_
    refine z_icmp_ge (tgt := 43) hc dX5_read_17 (by decide) ?_ ?_
    · refine z_sub [0, 2] rfl ?_
      exact tX5_read_43 hc hr N _ _
    · refine z_aload_n hc dX5_read_20 0 rfl ?_
      refine gfX5_25 hc dX5_read_21 ?_
      refine z_if_eq (tgt := 43) hc dX5_read_24 (by decide) ?_ ?_
      · refine z_sub [0, 2] rfl ?_
        exact tX5_read_43 hc hr N _ _
      · refine z_iload_n hc dX5_read_27 2 rfl ?_
        refine z_if_ne (tgt := 43) hc dX5_read_28 (by decide) ?_ ?_
        · refine z_aload_n hc dX5_read_31 0 rfl ?_
          refine z_aload_n hc dX5_read_32 1 rfl ?_
          refine z_runVi (b0 := ad 5) (As := [.ref (ad 7)]) (rest := []) hc dX5_read_33 (fun _ _ h => tX5_readSentence h) mpX5_readSentence miX5_readSentence kmX5_28 ⟨rfl, rfl, Nat.le_of_ble_eq_true rfl, Nat.le_of_ble_eq_true rfl⟩ ⟨Nat.le_refl _, Nat.le_refl _⟩ zcC_rc5 rfl (Nat.le_of_ble_eq_true rfl) (fun b1 σ2 => ?_)
          refine z_istore_n (lv' := [(2, .int b1), (0, .ref (ad 5)), (1, .ref (ad 7)), (3, .int x3)]) hc dX5_read_36 rfl (by decide) rfl ?_
          refine z_iinc (v := (x3 + (1 : Int32))) (lv' := [(3, .int (x3 + (1 : Int32))), (2, .int b1), (0, .ref (ad 5)), (1, .ref (ad 7))]) hc dX5_read_37 3 rfl rfl (by decide) rfl ?_
          refine z_goto (tgt := 13) hc dX5_read_40 (by decide) ?_
          refine z_sub [2, 3, 1, 0] rfl ?_
          exact ih _ _ _
        · refine z_sub [0, 2] rfl ?_
          exact tX5_read_43 hc hr N _ _
set_option maxRecDepth 100000 in
set_option maxHeartbeats 4000000 in
theorem tX5_read {l : Launch} {D : va_G} {ca : Nat → ClassId} {xa ad : Nat → Nat} {A : Nat → Prop} {N : Nat}  {σ : zSt} {a : Int32} {τ : zSt} (h : fX5_read N σ = some (a, τ)) : zCt l yX5_read cX5_read 4 (some .int) rmX5_read D ca xa A (zwC ad ca) [.ref (ad 5), .ref (ad 7)] σ (zI a) τ := by
  refine z_met (inj := zI) (lv := [(0, .ref (ad 5)), (1, .ref (ad 7))]) (by decide) (Nat.le_of_ble_eq_true rfl) rfl ?_ h
  intro p e s m args below meth c hc hr
  unfold fX5_read
  refine z_aload_n hc dX5_read_0 0 rfl ?_
  refine z_iconst (v := (0 : Int32)) hc dX5_read_1 (by decide) ?_
  refine pfX5_19 hc dX5_read_2 (fun σ1 => ?_)
  refine z_aload_n hc dX5_read_5 0 rfl ?_
  refine z_runVv (b0 := ad 5) (As := []) (rest := []) hc dX5_read_6 (fun _ _ h => tX5_take h) mpX5_take miX5_take kmX5_22 ⟨rfl, rfl, Nat.le_of_ble_eq_true rfl, Nat.le_of_ble_eq_true rfl⟩ ⟨Nat.le_refl _, Nat.le_refl _⟩ zcC_rc5 rfl (Nat.le_of_ble_eq_true rfl) (fun b2 σ3 => ?_)
  refine z_iconst (v := (0 : Int32)) hc dX5_read_9 (by decide) ?_
  refine z_istore_n (lv' := [(2, .int (0 : Int32)), (0, .ref (ad 5)), (1, .ref (ad 7))]) hc dX5_read_10 rfl (by decide) rfl ?_
  refine z_iconst (v := (0 : Int32)) hc dX5_read_11 (by decide) ?_
  refine z_istore_n (lv' := [(3, .int (0 : Int32)), (2, .int (0 : Int32)), (0, .ref (ad 5)), (1, .ref (ad 7))]) hc dX5_read_12 rfl (by decide) rfl ?_
  refine z_sub [2, 3, 1, 0] rfl ?_
  exact tX5_read_13 hc hr N N _ _ _
set_option maxRecDepth 100000 in
set_option maxHeartbeats 4000000 in
theorem tX2_cutBack {l : Launch} {D : va_G} {ca : Nat → ClassId} {xa ad : Nat → Nat} {A : Nat → Prop} {N : Nat} {x1 : Int32} {x2 : Int32} {σ : zSt} {a : Unit} {τ : zSt} (h : fX2_cutBack N x1 x2 σ = some (a, τ)) : zCt l yX2_cutBack cX2_cutBack 3 none rmX2_cutBack D ca xa A (zwC ad ca) [.ref (ad 7), .int x1, .int x2] σ (zV a) τ := by
  refine z_met (inj := zV) (lv := [(0, .ref (ad 7)), (1, .int x1), (2, .int x2)]) (by decide) (Nat.le_of_ble_eq_true rfl) rfl ?_ h
  intro p e s m args below meth c hc hr
  unfold fX2_cutBack
  refine z_aload_n hc dX2_cutBack_0 0 rfl ?_
  refine z_iload_n hc dX2_cutBack_1 1 rfl ?_
  refine pfX2_51 hc dX2_cutBack_2 (fun σ1 => ?_)
  refine z_aload_n hc dX2_cutBack_5 0 rfl ?_
  refine z_iload_n hc dX2_cutBack_6 2 rfl ?_
  refine pfX2_59 hc dX2_cutBack_7 (fun σ2 => ?_)
  exact z_vret hc hr dX2_cutBack_10
set_option maxRecDepth 100000 in
set_option maxHeartbeats 4000000 in
theorem tX7_net {l : Launch} {D : va_G} {ca : Nat → ClassId} {xa ad : Nat → Nat} {A : Nat → Prop} {N : Nat}  {σ : zSt} {a : Int32} {τ : zSt} (h : fX7_net N σ = some (a, τ)) : zCt l yX7_net cX7_net 4 (some .int) rmX7_net D ca xa A (zwC ad ca) [.ref (ad 0)] σ (zI a) τ := by
  refine z_met (inj := zI) (lv := [(0, .ref (ad 0))]) (by decide) (Nat.le_of_ble_eq_true rfl) rfl ?_ h
  intro p e s m args below meth c hc hr
  unfold fX7_net
  refine z_aload_n hc dX7_net_0 0 rfl ?_
  refine gfX7_26 hc dX7_net_1 ?_
  refine gfX7_107 hc dX7_net_4 ?_
  refine z_nm (fun v1 => ?_)
  refine z_istore_n (lv' := [(1, .int v1), (0, .ref (ad 0))]) hc dX7_net_7 rfl (by decide) rfl ?_
  refine z_aload_n hc dX7_net_8 1 rfl ?_
  refine gfX7_26 hc dX7_net_9 ?_
  refine gfX7_110 hc dX7_net_12 ?_
  refine z_nm (fun v2 => ?_)
  refine z_istore_n (lv' := [(2, .int v2), (1, .int v1), (0, .ref (ad 0))]) hc dX7_net_15 rfl (by decide) rfl ?_
  refine z_aload_n hc dX7_net_16 2 rfl ?_
  refine gfX7_19 hc dX7_net_17 ?_
  refine z_aload_n hc dX7_net_20 2 rfl ?_
  refine gfX7_26 hc dX7_net_21 ?_
  refine z_runVNi (b0 := ad 5) (As := [.ref (ad 7)]) (rest := []) hc dX7_net_24 (fun _ _ h => tX5_read h) mpX5_read miX5_read kmX7_113 ⟨rfl, rfl, Nat.le_of_ble_eq_true rfl, Nat.le_of_ble_eq_true rfl⟩ ⟨Nat.le_refl _, Nat.le_refl _⟩ zcC_rc5 rfl (Nat.le_of_ble_eq_true rfl) (fun b3 σ4 => ?_)
  refine z_istore_n (lv' := [(3, .int b3), (2, .int v2), (1, .int v1), (0, .ref (ad 0))]) hc dX7_net_27 rfl (by decide) rfl ?_
  refine z_iload_n hc dX7_net_28 0 rfl ?_
  refine z_if_ne (tgt := 40) hc dX7_net_29 (by decide) ?_ ?_
  · refine z_aload_n hc dX7_net_32 3 rfl ?_
    refine gfX7_26 hc dX7_net_33 ?_
    refine gfX7_107 hc dX7_net_36 ?_
    exact z_iret hc hr dX7_net_39
  · refine z_aload_n hc dX7_net_40 3 rfl ?_
    refine gfX7_26 hc dX7_net_41 ?_
    refine z_iload_n hc dX7_net_44 2 rfl ?_
    refine z_iload_n hc dX7_net_45 1 rfl ?_
    refine z_runVNv (b0 := ad 7) (As := [.int v1, .int v2]) (rest := []) hc dX7_net_46 (fun _ _ h => tX2_cutBack h) mpX2_cutBack miX2_cutBack kmX7_117 ⟨rfl, rfl, Nat.le_of_ble_eq_true rfl, Nat.le_of_ble_eq_true rfl⟩ ⟨Nat.le_refl _, Nat.le_refl _⟩ zcC_rc7 rfl (Nat.le_of_ble_eq_true rfl) (fun b5 σ6 => ?_)
    refine z_aload_n hc dX7_net_49 3 rfl ?_
    refine z_iload_n hc dX7_net_50 0 rfl ?_
    refine pfX7_51 hc dX7_net_51 (fun σ7 => ?_)
    refine z_ldc hc dX7_net_54 kcX7_121 ?_
    refine z_aload_n hc dX7_net_56 3 rfl ?_
    refine gfX7_19 hc dX7_net_57 ?_
    refine gfX7_122 hc dX7_net_60 ?_
    refine z_isub hc dX7_net_63 ?_
    exact z_iret hc hr dX7_net_64
set_option maxRecDepth 100000 in
set_option maxHeartbeats 4000000 in
theorem tX8_byteAt {l : Launch} {D : va_G} {ca : Nat → ClassId} {xa ad : Nat → Nat} {A : Nat → Prop} {N : Nat} {x1 : Int32} {σ : zSt} {a : Int32} {τ : zSt} (h : fX8_byteAt N x1 σ = some (a, τ)) : zCt l yX8_byteAt cX8_byteAt 2 (some .int) rmX8_byteAt D ca xa A (zwM ad ca) [.ref (ad 0), .int x1] σ (zI a) τ := by
  refine z_met (inj := zI) (lv := [(0, .ref (ad 0)), (1, .int x1)]) (by decide) (Nat.le_of_ble_eq_true rfl) rfl ?_ h
  intro p e s m args below meth c hc hr
  unfold fX8_byteAt
  refine z_iload_n hc dX8_byteAt_0 1 rfl ?_
  refine z_aload_n hc dX8_byteAt_1 0 rfl ?_
  refine gfX8_111 hc dX8_byteAt_2 ?_
  refine z_icmp_ge (tgt := 17) hc dX8_byteAt_5 (by decide) ?_ ?_
  · refine z_ldc hc dX8_byteAt_17 kcX8_114 ?_
    exact z_iret hc hr dX8_byteAt_19
  · refine z_aload_n hc dX8_byteAt_8 0 rfl ?_
    refine gfX8_50 hc dX8_byteAt_9 ?_
    refine z_iload_n hc dX8_byteAt_12 1 rfl ?_
    refine z_iaload hc 14 (by decide) rfl dX8_byteAt_13 (fun v1 => ?_)
    refine z_goto (tgt := 19) hc dX8_byteAt_14 (by decide) ?_
    exact z_iret hc hr dX8_byteAt_19
set_option maxRecDepth 100000 in
set_option maxHeartbeats 4000000 in
theorem tX8_isLetter {l : Launch} {D : va_G} {ca : Nat → ClassId} {xa ad : Nat → Nat} {A : Nat → Prop} {N : Nat} {x0 : Int32} {σ : zSt} {a : Int32} {τ : zSt} (h : fX8_isLetter N x0 σ = some (a, τ)) : zCt l yX8_isLetter cX8_isLetter 1 (some .boolean) rmX8_isLetter D ca xa A (zwM ad ca) [.int x0] σ (zI a) τ := by
  refine z_met (inj := zI) (lv := [(0, .int x0)]) (by decide) (Nat.le_of_ble_eq_true rfl) rfl ?_ h
  intro p e s m args below meth c hc hr
  unfold fX8_isLetter
  refine z_iload_n hc dX8_isLetter_0 0 rfl ?_
  refine z_bipush (v := (97 : Int32)) hc dX8_isLetter_1 (by decide) ?_
  refine z_icmp_lt (tgt := 16) hc dX8_isLetter_3 (by decide) ?_ ?_
  · refine z_iconst (v := (0 : Int32)) hc dX8_isLetter_16 (by decide) ?_
    exact z_zret hc hr dX8_isLetter_17
  · refine z_iload_n hc dX8_isLetter_6 0 rfl ?_
    refine z_bipush (v := (122 : Int32)) hc dX8_isLetter_7 (by decide) ?_
    refine z_icmp_gt (tgt := 16) hc dX8_isLetter_9 (by decide) ?_ ?_
    · refine z_iconst (v := (0 : Int32)) hc dX8_isLetter_16 (by decide) ?_
      exact z_zret hc hr dX8_isLetter_17
    · refine z_iconst (v := (1 : Int32)) hc dX8_isLetter_12 (by decide) ?_
      refine z_goto (tgt := 17) hc dX8_isLetter_13 (by decide) ?_
      exact z_zret hc hr dX8_isLetter_17
set_option maxRecDepth 100000 in
set_option maxHeartbeats 4000000 in
theorem tX8_isFigure {l : Launch} {D : va_G} {ca : Nat → ClassId} {xa ad : Nat → Nat} {A : Nat → Prop} {N : Nat} {x0 : Int32} {σ : zSt} {a : Int32} {τ : zSt} (h : fX8_isFigure N x0 σ = some (a, τ)) : zCt l yX8_isFigure cX8_isFigure 1 (some .boolean) rmX8_isFigure D ca xa A (zwM ad ca) [.int x0] σ (zI a) τ := by
  refine z_met (inj := zI) (lv := [(0, .int x0)]) (by decide) (Nat.le_of_ble_eq_true rfl) rfl ?_ h
  intro p e s m args below meth c hc hr
  unfold fX8_isFigure
  refine z_iload_n hc dX8_isFigure_0 0 rfl ?_
  refine z_bipush (v := (48 : Int32)) hc dX8_isFigure_1 (by decide) ?_
  refine z_icmp_lt (tgt := 16) hc dX8_isFigure_3 (by decide) ?_ ?_
  · refine z_iconst (v := (0 : Int32)) hc dX8_isFigure_16 (by decide) ?_
    exact z_zret hc hr dX8_isFigure_17
  · refine z_iload_n hc dX8_isFigure_6 0 rfl ?_
    refine z_bipush (v := (57 : Int32)) hc dX8_isFigure_7 (by decide) ?_
    refine z_icmp_gt (tgt := 16) hc dX8_isFigure_9 (by decide) ?_ ?_
    · refine z_iconst (v := (0 : Int32)) hc dX8_isFigure_16 (by decide) ?_
      exact z_zret hc hr dX8_isFigure_17
    · refine z_iconst (v := (1 : Int32)) hc dX8_isFigure_12 (by decide) ?_
      refine z_goto (tgt := 17) hc dX8_isFigure_13 (by decide) ?_
      exact z_zret hc hr dX8_isFigure_17
set_option maxRecDepth 100000 in
set_option maxHeartbeats 4000000 in
theorem tX8_next_26 {p : Program} {l : Launch} {e : Env} {s : State} {m : MethodId} {args : Array Value} {below : List Frame} {meth : Method} {c : Code} {D : va_G} {ca : Nat → ClassId} {xa ad : Nat → Nat} {A : Nat → Prop} (hc : zCx p s m args meth c cX8_next 2 RX8 D ca xa A (zwM ad ca)) (hr : meth.sig.returnType = none) (N : Nat) (k0 : zSt → Option (Unit × zSt)) (hk0 : ∀ (σ : zSt), zGO p l e rmX8_next s m args below meth c 0 0 (zwM ad ca) D A 2 (zQ below D A (zwM ad ca) args s zV) (k0 σ) σ 0 [(0, .ref (ad 0))] [])  (σ : zSt) : zGO p l e rmX8_next s m args below meth c 0 0 (zwM ad ca) D A 2 (zQ below D A (zwM ad ca) args s zV) (fX8_next_26 N k0 σ) σ 26 [(0, .ref (ad 0))] [] := by
  unfold fX8_next_26
  refine z_aload_n hc dX8_next_26 0 rfl ?_
  refine z_dup hc dX8_next_27 rfl ?_
  refine gfX8_115 hc dX8_next_28 ?_
  refine z_iconst (v := (1 : Int32)) hc dX8_next_31 (by decide) ?_
  refine z_iadd hc dX8_next_32 ?_
  refine pfX8_115 hc dX8_next_33 (fun σ1 => ?_)
  refine z_goto (tgt := 0) hc dX8_next_36 (by decide) ?_
  exact hk0  _
set_option maxRecDepth 100000 in
set_option maxHeartbeats 4000000 in
theorem tX8_next_196 {p : Program} {l : Launch} {e : Env} {s : State} {m : MethodId} {args : Array Value} {below : List Frame} {meth : Method} {c : Code} {D : va_G} {ca : Nat → ClassId} {xa ad : Nat → Nat} {A : Nat → Prop} (hc : zCx p s m args meth c cX8_next 2 RX8 D ca xa A (zwM ad ca)) (hr : meth.sig.returnType = none) (N : Nat)    (σ : zSt) : zGO p l e rmX8_next s m args below meth c 0 0 (zwM ad ca) D A 2 (zQ below D A (zwM ad ca) args s zV) (fX8_next_196 N σ) σ 196 [(0, .ref (ad 0))] [] := by
  unfold fX8_next_196
  refine z_aload_n hc dX8_next_196 0 rfl ?_
  refine z_aload_n hc dX8_next_197 0 rfl ?_
  refine gfX8_115 hc dX8_next_198 ?_
  refine pfX8_133 hc dX8_next_201 (fun σ1 => ?_)
  exact z_vret hc hr dX8_next_204
set_option maxRecDepth 100000 in
set_option maxHeartbeats 4000000 in
theorem tX8_next_77 {p : Program} {l : Launch} {e : Env} {s : State} {m : MethodId} {args : Array Value} {below : List Frame} {meth : Method} {c : Code} {D : va_G} {ca : Nat → ClassId} {xa ad : Nat → Nat} {A : Nat → Prop} (hc : zCx p s m args meth c cX8_next 2 RX8 D ca xa A (zwM ad ca)) (hr : meth.sig.returnType = none) (N : Nat)   : ∀ (n : Nat)  (σ : zSt), zGO p l e rmX8_next s m args below meth c 0 0 (zwM ad ca) D A 2 (zQ below D A (zwM ad ca) args s zV) (fX8_next_77 N n σ) σ 77 [(0, .ref (ad 0))] [] := by
  intro n
  induction n with
  | zero =>
    intro  σ
    exact z_none
  | succ n ih =>
    intro  σ
    unfold fX8_next_77
    refine z_aload_n hc dX8_next_77 0 rfl ?_
    refine z_aload_n hc dX8_next_78 0 rfl ?_
    refine gfX8_115 hc dX8_next_79 ?_
    refine z_runVi (b0 := ad 0) (As := [.int (σ.1 0 23)]) (rest := []) hc dX8_next_82 (fun _ _ h => tX8_byteAt h) mpX8_byteAt miX8_byteAt kmX8_118 ⟨rfl, rfl, Nat.le_of_ble_eq_true rfl, Nat.le_of_ble_eq_true rfl⟩ ⟨Nat.le_refl _, Nat.le_refl _⟩ zcM_rc0 rfl (Nat.le_of_ble_eq_true rfl) (fun b1 σ2 => ?_)
    refine z_runSi (As := [.int b1]) (rest := []) hc dX8_next_85 (fun _ _ h => tX8_isLetter h) mpX8_isLetter miX8_isLetter kmX8_127 ⟨rfl, rfl, Nat.le_of_ble_eq_true rfl, Nat.le_of_ble_eq_true rfl⟩ ⟨Nat.le_refl _, Nat.le_refl _⟩ rfl (Nat.le_of_ble_eq_true rfl) (fun b3 σ4 => ?_)
    refine z_if_eq (tgt := 104) hc dX8_next_88 (by decide) ?_ ?_
    · refine z_aload_n hc dX8_next_104 0 rfl ?_
      refine z_iconst (v := (2 : Int32)) hc dX8_next_105 (by decide) ?_
      refine pfX8_124 hc dX8_next_106 (fun σ5 => ?_)
      refine z_goto (tgt := 196) hc dX8_next_109 (by decide) ?_
      exact tX8_next_196 hc hr N _
    · refine z_aload_n hc dX8_next_91 0 rfl ?_
      refine z_dup hc dX8_next_92 rfl ?_
      refine gfX8_115 hc dX8_next_93 ?_
      refine z_iconst (v := (1 : Int32)) hc dX8_next_96 (by decide) ?_
      refine z_iadd hc dX8_next_97 ?_
      refine pfX8_115 hc dX8_next_98 (fun σ6 => ?_)
      refine z_goto (tgt := 77) hc dX8_next_101 (by decide) ?_
      exact ih  _
set_option maxRecDepth 100000 in
set_option maxHeartbeats 4000000 in
theorem tX8_next_165 {p : Program} {l : Launch} {e : Env} {s : State} {m : MethodId} {args : Array Value} {below : List Frame} {meth : Method} {c : Code} {D : va_G} {ca : Nat → ClassId} {xa ad : Nat → Nat} {A : Nat → Prop} (hc : zCx p s m args meth c cX8_next 2 RX8 D ca xa A (zwM ad ca)) (hr : meth.sig.returnType = none) (N : Nat)   (s0 : Int32) (σ : zSt) : zGO p l e rmX8_next s m args below meth c 0 0 (zwM ad ca) D A 2 (zQ below D A (zwM ad ca) args s zV) (fX8_next_165 N s0 σ) σ 165 [(0, .ref (ad 0))] [.int s0, .ref (ad 0)] := by
  unfold fX8_next_165
  refine pfX8_124 hc dX8_next_165 (fun σ1 => ?_)
  refine z_goto (tgt := 196) hc dX8_next_168 (by decide) ?_
  exact tX8_next_196 hc hr N _
set_option maxRecDepth 100000 in
set_option maxHeartbeats 4000000 in
theorem tX8_next_119 {p : Program} {l : Launch} {e : Env} {s : State} {m : MethodId} {args : Array Value} {below : List Frame} {meth : Method} {c : Code} {D : va_G} {ca : Nat → ClassId} {xa ad : Nat → Nat} {A : Nat → Prop} (hc : zCx p s m args meth c cX8_next 2 RX8 D ca xa A (zwM ad ca)) (hr : meth.sig.returnType = none) (N : Nat)   : ∀ (n : Nat)  (σ : zSt), zGO p l e rmX8_next s m args below meth c 0 0 (zwM ad ca) D A 2 (zQ below D A (zwM ad ca) args s zV) (fX8_next_119 N n σ) σ 119 [(0, .ref (ad 0))] [] := by
  intro n
  induction n with
  | zero =>
    intro  σ
    exact z_none
  | succ n ih =>
    intro  σ
    unfold fX8_next_119
    refine z_aload_n hc dX8_next_119 0 rfl ?_
    refine z_aload_n hc dX8_next_120 0 rfl ?_
    refine gfX8_115 hc dX8_next_121 ?_
    refine z_runVi (b0 := ad 0) (As := [.int (σ.1 0 23)]) (rest := []) hc dX8_next_124 (fun _ _ h => tX8_byteAt h) mpX8_byteAt miX8_byteAt kmX8_118 ⟨rfl, rfl, Nat.le_of_ble_eq_true rfl, Nat.le_of_ble_eq_true rfl⟩ ⟨Nat.le_refl _, Nat.le_refl _⟩ zcM_rc0 rfl (Nat.le_of_ble_eq_true rfl) (fun b1 σ2 => ?_)
    refine z_runSi (As := [.int b1]) (rest := []) hc dX8_next_127 (fun _ _ h => tX8_isFigure h) mpX8_isFigure miX8_isFigure kmX8_130 ⟨rfl, rfl, Nat.le_of_ble_eq_true rfl, Nat.le_of_ble_eq_true rfl⟩ ⟨Nat.le_refl _, Nat.le_refl _⟩ rfl (Nat.le_of_ble_eq_true rfl) (fun b3 σ4 => ?_)
    refine z_if_eq (tgt := 146) hc dX8_next_130 (by decide) ?_ ?_
    · refine z_aload_n hc dX8_next_146 0 rfl ?_
      refine z_aload_n hc dX8_next_147 0 rfl ?_
      refine gfX8_115 hc dX8_next_148 ?_
      refine z_aload_n hc dX8_next_151 0 rfl ?_
      refine gfX8_121 hc dX8_next_152 ?_
      refine z_isub hc dX8_next_155 ?_
      refine z_iconst (v := (4 : Int32)) hc dX8_next_156 (by decide) ?_
      refine z_icmp_le (tgt := 164) hc dX8_next_157 (by decide) ?_ ?_
      · refine z_iconst (v := (3 : Int32)) hc dX8_next_164 (by decide) ?_
        exact tX8_next_165 hc hr N _ _
      · refine z_iconst (v := (0 : Int32)) hc dX8_next_160 (by decide) ?_
        refine z_goto (tgt := 165) hc dX8_next_161 (by decide) ?_
        exact tX8_next_165 hc hr N _ _
    · refine z_aload_n hc dX8_next_133 0 rfl ?_
      refine z_dup hc dX8_next_134 rfl ?_
      refine gfX8_115 hc dX8_next_135 ?_
      refine z_iconst (v := (1 : Int32)) hc dX8_next_138 (by decide) ?_
      refine z_iadd hc dX8_next_139 ?_
      refine pfX8_115 hc dX8_next_140 (fun σ5 => ?_)
      refine z_goto (tgt := 119) hc dX8_next_143 (by decide) ?_
      exact ih  _
set_option maxRecDepth 100000 in
set_option maxHeartbeats 4000000 in
theorem tX8_next_193 {p : Program} {l : Launch} {e : Env} {s : State} {m : MethodId} {args : Array Value} {below : List Frame} {meth : Method} {c : Code} {D : va_G} {ca : Nat → ClassId} {xa ad : Nat → Nat} {A : Nat → Prop} (hc : zCx p s m args meth c cX8_next 2 RX8 D ca xa A (zwM ad ca)) (hr : meth.sig.returnType = none) (N : Nat)   (s0 : Int32) (σ : zSt) : zGO p l e rmX8_next s m args below meth c 0 0 (zwM ad ca) D A 2 (zQ below D A (zwM ad ca) args s zV) (fX8_next_193 N s0 σ) σ 193 [(0, .ref (ad 0))] [.int s0, .ref (ad 0)] := by
  unfold fX8_next_193
  refine pfX8_124 hc dX8_next_193 (fun σ1 => ?_)
  exact tX8_next_196 hc hr N _
set_option maxRecDepth 100000 in
set_option maxHeartbeats 4000000 in
theorem tX8_next_0 {p : Program} {l : Launch} {e : Env} {s : State} {m : MethodId} {args : Array Value} {below : List Frame} {meth : Method} {c : Code} {D : va_G} {ca : Nat → ClassId} {xa ad : Nat → Nat} {A : Nat → Prop} (hc : zCx p s m args meth c cX8_next 2 RX8 D ca xa A (zwM ad ca)) (hr : meth.sig.returnType = none) (N : Nat)   : ∀ (n : Nat)  (σ : zSt), zGO p l e rmX8_next s m args below meth c 0 0 (zwM ad ca) D A 2 (zQ below D A (zwM ad ca) args s zV) (fX8_next_0 N n σ) σ 0 [(0, .ref (ad 0))] [] := by
  intro n
  induction n with
  | zero =>
    intro  σ
    exact z_none
  | succ n ih =>
    intro  σ
    unfold fX8_next_0
    refine z_aload_n hc dX8_next_0 0 rfl ?_
    refine z_aload_n hc dX8_next_1 0 rfl ?_
    refine gfX8_115 hc dX8_next_2 ?_
    refine z_runVi (b0 := ad 0) (As := [.int (σ.1 0 23)]) (rest := []) hc dX8_next_5 (fun _ _ h => tX8_byteAt h) mpX8_byteAt miX8_byteAt kmX8_118 ⟨rfl, rfl, Nat.le_of_ble_eq_true rfl, Nat.le_of_ble_eq_true rfl⟩ ⟨Nat.le_refl _, Nat.le_refl _⟩ zcM_rc0 rfl (Nat.le_of_ble_eq_true rfl) (fun b1 σ2 => ?_)
    refine z_bipush (v := (32 : Int32)) hc dX8_next_8 (by decide) ?_
    refine z_icmp_eq (tgt := 26) hc dX8_next_10 (by decide) ?_ ?_
    · exact tX8_next_26 hc hr N _ (ih) _
    · refine z_aload_n hc dX8_next_13 0 rfl ?_
      refine z_aload_n hc dX8_next_14 0 rfl ?_
      refine gfX8_115 hc dX8_next_15 ?_
      refine z_runVi (b0 := ad 0) (As := [.int (σ2.1 0 23)]) (rest := []) hc dX8_next_18 (fun _ _ h => tX8_byteAt h) mpX8_byteAt miX8_byteAt kmX8_118 ⟨rfl, rfl, Nat.le_of_ble_eq_true rfl, Nat.le_of_ble_eq_true rfl⟩ ⟨Nat.le_refl _, Nat.le_refl _⟩ zcM_rc0 rfl (Nat.le_of_ble_eq_true rfl) (fun b3 σ4 => ?_)
      refine z_bipush (v := (10 : Int32)) hc dX8_next_21 (by decide) ?_
      refine z_icmp_ne (tgt := 39) hc dX8_next_23 (by decide) ?_ ?_
      · exact tX8_next_26 hc hr N _ (ih) _
      · refine z_aload_n hc dX8_next_39 0 rfl ?_
        refine z_aload_n hc dX8_next_40 0 rfl ?_
        refine gfX8_115 hc dX8_next_41 ?_
        refine pfX8_121 hc dX8_next_44 (fun σ5 => ?_)
        refine z_aload_n hc dX8_next_47 0 rfl ?_
        refine z_aload_n hc dX8_next_48 0 rfl ?_
        refine gfX8_115 hc dX8_next_49 ?_
        refine z_runVi (b0 := ad 0) (As := [.int (σ5.1 0 23)]) (rest := []) hc dX8_next_52 (fun _ _ h => tX8_byteAt h) mpX8_byteAt miX8_byteAt kmX8_118 ⟨rfl, rfl, Nat.le_of_ble_eq_true rfl, Nat.le_of_ble_eq_true rfl⟩ ⟨Nat.le_refl _, Nat.le_refl _⟩ zcM_rc0 rfl (Nat.le_of_ble_eq_true rfl) (fun b6 σ7 => ?_)
        refine z_istore_n (lv' := [(1, .int b6), (0, .ref (ad 0))]) hc dX8_next_55 rfl (by decide) rfl ?_
        refine z_iload_n hc dX8_next_56 0 rfl ?_
        refine z_ldc hc dX8_next_57 kcX8_114 ?_
        refine z_icmp_ne (tgt := 70) hc dX8_next_59 (by decide) ?_ ?_
        · refine z_aload_n hc dX8_next_62 1 rfl ?_
          refine z_iconst (v := (1 : Int32)) hc dX8_next_63 (by decide) ?_
          refine pfX8_124 hc dX8_next_64 (fun σ8 => ?_)
          refine z_goto (tgt := 196) hc dX8_next_67 (by decide) ?_
          refine z_sub [1] rfl ?_
          exact tX8_next_196 hc hr N _
        · refine z_iload_n hc dX8_next_70 0 rfl ?_
          refine z_runSi (As := [.int b6]) (rest := []) hc dX8_next_71 (fun _ _ h => tX8_isLetter h) mpX8_isLetter miX8_isLetter kmX8_127 ⟨rfl, rfl, Nat.le_of_ble_eq_true rfl, Nat.le_of_ble_eq_true rfl⟩ ⟨Nat.le_refl _, Nat.le_refl _⟩ rfl (Nat.le_of_ble_eq_true rfl) (fun b9 σ10 => ?_)
          refine z_if_eq (tgt := 112) hc dX8_next_74 (by decide) ?_ ?_
          · refine z_iload_n hc dX8_next_112 0 rfl ?_
            refine z_runSi (As := [.int b6]) (rest := []) hc dX8_next_113 (fun _ _ h => tX8_isFigure h) mpX8_isFigure miX8_isFigure kmX8_130 ⟨rfl, rfl, Nat.le_of_ble_eq_true rfl, Nat.le_of_ble_eq_true rfl⟩ ⟨Nat.le_refl _, Nat.le_refl _⟩ rfl (Nat.le_of_ble_eq_true rfl) (fun b11 σ12 => ?_)
            refine z_if_eq (tgt := 171) hc dX8_next_116 (by decide) ?_ ?_
            · refine z_aload_n hc dX8_next_171 1 rfl ?_
              refine z_dup hc dX8_next_172 rfl ?_
              refine gfX8_115 hc dX8_next_173 ?_
              refine z_iconst (v := (1 : Int32)) hc dX8_next_176 (by decide) ?_
              refine z_iadd hc dX8_next_177 ?_
              refine pfX8_115 hc dX8_next_178 (fun σ13 => ?_)
              refine z_aload_n hc dX8_next_181 1 rfl ?_
              refine z_iload_n hc dX8_next_182 0 rfl ?_
              refine z_bipush (v := (59 : Int32)) hc dX8_next_183 (by decide) ?_
              refine z_icmp_ne (tgt := 192) hc dX8_next_185 (by decide) ?_ ?_
              · refine z_iconst (v := (4 : Int32)) hc dX8_next_188 (by decide) ?_
                refine z_goto (tgt := 193) hc dX8_next_189 (by decide) ?_
                refine z_sub [1] rfl ?_
                exact tX8_next_193 hc hr N _ _
              · refine z_iconst (v := (0 : Int32)) hc dX8_next_192 (by decide) ?_
                refine z_sub [1] rfl ?_
                exact tX8_next_193 hc hr N _ _
            · refine z_sub [1] rfl ?_
              exact tX8_next_119 hc hr N N _
          · refine z_sub [1] rfl ?_
            exact tX8_next_77 hc hr N N _
set_option maxRecDepth 100000 in
set_option maxHeartbeats 4000000 in
theorem tX8_next {l : Launch} {D : va_G} {ca : Nat → ClassId} {xa ad : Nat → Nat} {A : Nat → Prop} {N : Nat}  {σ : zSt} {a : Unit} {τ : zSt} (h : fX8_next N σ = some (a, τ)) : zCt l yX8_next cX8_next 2 none rmX8_next D ca xa A (zwM ad ca) [.ref (ad 0)] σ (zV a) τ := by
  refine z_met (inj := zV) (lv := [(0, .ref (ad 0))]) (by decide) (Nat.le_of_ble_eq_true rfl) rfl ?_ h
  intro p e s m args below meth c hc hr
  unfold fX8_next
  exact tX8_next_0 hc hr N N _
set_option maxRecDepth 100000 in
set_option maxHeartbeats 4000000 in
theorem tX8_word_7 {p : Program} {l : Launch} {e : Env} {s : State} {m : MethodId} {args : Array Value} {below : List Frame} {meth : Method} {c : Code} {D : va_G} {ca : Nat → ClassId} {xa ad : Nat → Nat} {A : Nat → Prop} (hc : zCx p s m args meth c cX8_word 4 RX8 D ca xa A (zwM ad ca)) (hr : meth.sig.returnType = (some .long)) (N : Nat)   : ∀ (n : Nat) (y1 : Int64) (x3 : Int32) (σ : zSt), zGO p l e rmX8_word s m args below meth c 0 0 (zwM ad ca) D A 4 (zQ below D A (zwM ad ca) args s zL) (fX8_word_7 N n y1 x3 σ) σ 7 [(0, .ref (ad 0)), (1, .long y1), (3, .int x3)] [] := by
  intro n
  induction n with
  | zero =>
    intro y1 x3 σ
    exact z_none
  | succ n ih =>
    intro y1 x3 σ
    unfold fX8_word_7
    refine z_iload_n hc dX8_word_7 2 rfl ?_
    refine z_aload_n hc dX8_word_8 0 rfl ?_
    refine gfX8_133 hc dX8_word_9 ?_
    refine z_icmp_ge (tgt := 56) hc dX8_word_12 (by decide) ?_ ?_
    · refine z_lload_n hc dX8_word_56 1 rfl ?_
      exact z_lret hc hr dX8_word_57
    · refine z_aload_n hc dX8_word_15 0 rfl ?_
      refine gfX8_124 hc dX8_word_16 ?_
      refine z_iconst (v := (2 : Int32)) hc dX8_word_19 (by decide) ?_
      refine z_icmp_ne (tgt := 56) hc dX8_word_20 (by decide) ?_ ?_
      · refine z_aload_n hc dX8_word_23 0 rfl ?_
        refine gfX8_133 hc dX8_word_24 ?_
        refine z_aload_n hc dX8_word_27 0 rfl ?_
        refine gfX8_121 hc dX8_word_28 ?_
        refine z_isub hc dX8_word_31 ?_
        refine z_bipush (v := (8 : Int32)) hc dX8_word_32 (by decide) ?_
        refine z_icmp_ge (tgt := 56) hc dX8_word_34 (by decide) ?_ ?_
        · refine z_lload_n hc dX8_word_56 1 rfl ?_
          exact z_lret hc hr dX8_word_57
        · refine z_lload_n hc dX8_word_37 1 rfl ?_
          refine z_bipush (v := (8 : Int32)) hc dX8_word_38 (by decide) ?_
          refine z_lshl hc dX8_word_40 ?_
          refine z_aload_n hc dX8_word_41 0 rfl ?_
          refine gfX8_50 hc dX8_word_42 ?_
          refine z_iload_n hc dX8_word_45 2 rfl ?_
          refine z_iaload hc 14 (by decide) rfl dX8_word_46 (fun v1 => ?_)
          refine z_i2l hc dX8_word_47 ?_
          refine z_lor hc dX8_word_48 ?_
          refine z_nmL (fun v2 => ?_)
          refine z_lstore_n (lv' := [(1, .long v2), (0, .ref (ad 0)), (3, .int x3)]) hc dX8_word_49 rfl (by decide) rfl ?_
          refine z_iinc (v := (x3 + (1 : Int32))) (lv' := [(3, .int (x3 + (1 : Int32))), (1, .long v2), (0, .ref (ad 0))]) hc dX8_word_50 2 rfl rfl (by decide) rfl ?_
          refine z_goto (tgt := 7) hc dX8_word_53 (by decide) ?_
          refine z_sub [2, 1, 0] rfl ?_
          exact ih _ _ _
      · refine z_lload_n hc dX8_word_56 1 rfl ?_
        exact z_lret hc hr dX8_word_57
set_option maxRecDepth 100000 in
set_option maxHeartbeats 4000000 in
theorem tX8_word {l : Launch} {D : va_G} {ca : Nat → ClassId} {xa ad : Nat → Nat} {A : Nat → Prop} {N : Nat}  {σ : zSt} {a : Int64} {τ : zSt} (h : fX8_word N σ = some (a, τ)) : zCt l yX8_word cX8_word 4 (some .long) rmX8_word D ca xa A (zwM ad ca) [.ref (ad 0)] σ (zL a) τ := by
  refine z_met (inj := zL) (lv := [(0, .ref (ad 0))]) (by decide) (Nat.le_of_ble_eq_true rfl) rfl ?_ h
  intro p e s m args below meth c hc hr
  unfold fX8_word
  refine z_lconst (v := (0 : Int64)) hc dX8_word_0 (by decide) ?_
  refine z_lstore_n (lv' := [(1, .long (0 : Int64)), (0, .ref (ad 0))]) hc dX8_word_1 rfl (by decide) rfl ?_
  refine z_aload_n hc dX8_word_2 1 rfl ?_
  refine gfX8_121 hc dX8_word_3 ?_
  refine z_nm (fun v1 => ?_)
  refine z_istore_n (lv' := [(3, .int v1), (1, .long (0 : Int64)), (0, .ref (ad 0))]) hc dX8_word_6 rfl (by decide) rfl ?_
  refine z_sub [2, 1, 0] rfl ?_
  exact tX8_word_7 hc hr N N _ _ _
set_option maxRecDepth 100000 in
set_option maxHeartbeats 4000000 in
theorem tX8_bad {l : Launch} {D : va_G} {ca : Nat → ClassId} {xa ad : Nat → Nat} {A : Nat → Prop} {N : Nat} {x1 : Int32} {σ : zSt} {a : Unit} {τ : zSt} (h : fX8_bad N x1 σ = some (a, τ)) : zCt l yX8_bad cX8_bad 2 none rmX8_bad D ca xa A (zwM ad ca) [.ref (ad 0), .int x1] σ (zV a) τ := by
  refine z_met (inj := zV) (lv := [(0, .ref (ad 0)), (1, .int x1)]) (by decide) (Nat.le_of_ble_eq_true rfl) rfl ?_ h
  intro p e s m args below meth c hc hr
  unfold fX8_bad
  refine z_aload_n hc dX8_bad_0 0 rfl ?_
  refine gfX8_136 hc dX8_bad_1 ?_
  refine z_if_ne (tgt := 20) hc dX8_bad_4 (by decide) ?_ ?_
  · refine z_aload_n hc dX8_bad_7 0 rfl ?_
    refine z_iload_n hc dX8_bad_8 1 rfl ?_
    refine pfX8_136 hc dX8_bad_9 (fun σ1 => ?_)
    refine z_aload_n hc dX8_bad_12 0 rfl ?_
    refine z_aload_n hc dX8_bad_13 0 rfl ?_
    refine gfX8_121 hc dX8_bad_14 ?_
    refine pfX8_139 hc dX8_bad_17 (fun σ2 => ?_)
    exact z_vret hc hr dX8_bad_20
  · exact z_vret hc hr dX8_bad_20
set_option maxRecDepth 100000 in
set_option maxHeartbeats 4000000 in
theorem tX8_must_9 {p : Program} {l : Launch} {e : Env} {s : State} {m : MethodId} {args : Array Value} {below : List Frame} {meth : Method} {c : Code} {D : va_G} {ca : Nat → ClassId} {xa ad : Nat → Nat} {A : Nat → Prop} (hc : zCx p s m args meth c cX8_must 2 RX8 D ca xa A (zwM ad ca)) (hr : meth.sig.returnType = none) (N : Nat)    (σ : zSt) : zGO p l e rmX8_must s m args below meth c 0 0 (zwM ad ca) D A 2 (zQ below D A (zwM ad ca) args s zV) (fX8_must_9 N σ) σ 9 [(0, .ref (ad 0))] [] := by
  unfold fX8_must_9
  refine z_aload_n hc dX8_must_9 0 rfl ?_
  refine gfX8_136 hc dX8_must_10 ?_
  refine z_if_ne (tgt := 20) hc dX8_must_13 (by decide) ?_ ?_
  · refine z_aload_n hc dX8_must_16 0 rfl ?_
    refine z_runVv (b0 := ad 0) (As := []) (rest := []) hc dX8_must_17 (fun _ _ h => tX8_next h) mpX8_next miX8_next kmX8_146 ⟨rfl, rfl, Nat.le_of_ble_eq_true rfl, Nat.le_of_ble_eq_true rfl⟩ ⟨Nat.le_refl _, Nat.le_refl _⟩ zcM_rc0 rfl (Nat.le_of_ble_eq_true rfl) (fun b1 σ2 => ?_)
    exact z_vret hc hr dX8_must_20
  · exact z_vret hc hr dX8_must_20
set_option maxRecDepth 100000 in
set_option maxHeartbeats 4000000 in
theorem tX8_must {l : Launch} {D : va_G} {ca : Nat → ClassId} {xa ad : Nat → Nat} {A : Nat → Prop} {N : Nat} {x1 : Int32} {σ : zSt} {a : Unit} {τ : zSt} (h : fX8_must N x1 σ = some (a, τ)) : zCt l yX8_must cX8_must 2 none rmX8_must D ca xa A (zwM ad ca) [.ref (ad 0), .int x1] σ (zV a) τ := by
  refine z_met (inj := zV) (lv := [(0, .ref (ad 0)), (1, .int x1)]) (by decide) (Nat.le_of_ble_eq_true rfl) rfl ?_ h
  intro p e s m args below meth c hc hr
  unfold fX8_must
  refine z_iload_n hc dX8_must_0 1 rfl ?_
  refine z_if_ne (tgt := 9) hc dX8_must_1 (by decide) ?_ ?_
  · refine z_aload_n hc dX8_must_4 0 rfl ?_
    refine z_iconst (v := (1 : Int32)) hc dX8_must_5 (by decide) ?_
    refine z_runVv (b0 := ad 0) (As := [.int (1 : Int32)]) (rest := []) hc dX8_must_6 (fun _ _ h => tX8_bad h) mpX8_bad miX8_bad kmX8_142 ⟨rfl, rfl, Nat.le_of_ble_eq_true rfl, Nat.le_of_ble_eq_true rfl⟩ ⟨Nat.le_refl _, Nat.le_refl _⟩ zcM_rc0 rfl (Nat.le_of_ble_eq_true rfl) (fun b1 σ2 => ?_)
    refine z_sub [0] rfl ?_
    exact tX8_must_9 hc hr N _
  · refine z_sub [0] rfl ?_
    exact tX8_must_9 hc hr N _
set_option maxRecDepth 100000 in
set_option maxHeartbeats 4000000 in
theorem tX8_numberHere_7 {p : Program} {l : Launch} {e : Env} {s : State} {m : MethodId} {args : Array Value} {below : List Frame} {meth : Method} {c : Code} {D : va_G} {ca : Nat → ClassId} {xa ad : Nat → Nat} {A : Nat → Prop} (hc : zCx p s m args meth c cX8_numberHere 3 RX8 D ca xa A (zwM ad ca)) (hr : meth.sig.returnType = (some .int)) (N : Nat)   : ∀ (n : Nat) (x1 : Int32) (x2 : Int32) (σ : zSt), zGO p l e rmX8_numberHere s m args below meth c 0 0 (zwM ad ca) D A 3 (zQ below D A (zwM ad ca) args s zI) (fX8_numberHere_7 N n x1 x2 σ) σ 7 [(0, .ref (ad 0)), (1, .int x1), (2, .int x2)] [] := by
  intro n
  induction n with
  | zero =>
    intro x1 x2 σ
    exact z_none
  | succ n ih =>
    intro x1 x2 σ
    unfold fX8_numberHere_7
    refine z_iload_n hc dX8_numberHere_7 2 rfl ?_
    refine z_aload_n hc dX8_numberHere_8 0 rfl ?_
    refine gfX8_133 hc dX8_numberHere_9 ?_
    refine z_icmp_ge (tgt := 44) hc dX8_numberHere_12 (by decide) ?_ ?_
    · refine z_iload_n hc dX8_numberHere_44 1 rfl ?_
      exact z_iret hc hr dX8_numberHere_45
    · refine z_aload_n hc dX8_numberHere_15 0 rfl ?_
      refine gfX8_124 hc dX8_numberHere_16 ?_
      refine z_iconst (v := (3 : Int32)) hc dX8_numberHere_19 (by decide) ?_
      refine z_icmp_ne (tgt := 44) hc dX8_numberHere_20 (by decide) ?_ ?_
      · refine z_bipush (v := (10 : Int32)) hc dX8_numberHere_23 (by decide) ?_
        refine z_iload_n hc dX8_numberHere_25 1 rfl ?_
        refine z_imul hc dX8_numberHere_26 ?_
        refine z_aload_n hc dX8_numberHere_27 0 rfl ?_
        refine gfX8_50 hc dX8_numberHere_28 ?_
        refine z_iload_n hc dX8_numberHere_31 2 rfl ?_
        refine z_iaload hc 14 (by decide) rfl dX8_numberHere_32 (fun v1 => ?_)
        refine z_iadd hc dX8_numberHere_33 ?_
        refine z_bipush (v := (48 : Int32)) hc dX8_numberHere_34 (by decide) ?_
        refine z_isub hc dX8_numberHere_36 ?_
        refine z_nm (fun v2 => ?_)
        refine z_istore_n (lv' := [(1, .int v2), (0, .ref (ad 0)), (2, .int x2)]) hc dX8_numberHere_37 rfl (by decide) rfl ?_
        refine z_iinc (v := (x2 + (1 : Int32))) (lv' := [(2, .int (x2 + (1 : Int32))), (1, .int v2), (0, .ref (ad 0))]) hc dX8_numberHere_38 2 rfl rfl (by decide) rfl ?_
        refine z_goto (tgt := 7) hc dX8_numberHere_41 (by decide) ?_
        refine z_sub [2, 1, 0] rfl ?_
        exact ih _ _ _
      · refine z_iload_n hc dX8_numberHere_44 1 rfl ?_
        exact z_iret hc hr dX8_numberHere_45
set_option maxRecDepth 100000 in
set_option maxHeartbeats 4000000 in
theorem tX8_numberHere {l : Launch} {D : va_G} {ca : Nat → ClassId} {xa ad : Nat → Nat} {A : Nat → Prop} {N : Nat}  {σ : zSt} {a : Int32} {τ : zSt} (h : fX8_numberHere N σ = some (a, τ)) : zCt l yX8_numberHere cX8_numberHere 3 (some .int) rmX8_numberHere D ca xa A (zwM ad ca) [.ref (ad 0)] σ (zI a) τ := by
  refine z_met (inj := zI) (lv := [(0, .ref (ad 0))]) (by decide) (Nat.le_of_ble_eq_true rfl) rfl ?_ h
  intro p e s m args below meth c hc hr
  unfold fX8_numberHere
  refine z_iconst (v := (0 : Int32)) hc dX8_numberHere_0 (by decide) ?_
  refine z_istore_n (lv' := [(1, .int (0 : Int32)), (0, .ref (ad 0))]) hc dX8_numberHere_1 rfl (by decide) rfl ?_
  refine z_aload_n hc dX8_numberHere_2 1 rfl ?_
  refine gfX8_121 hc dX8_numberHere_3 ?_
  refine z_nm (fun v1 => ?_)
  refine z_istore_n (lv' := [(2, .int v1), (1, .int (0 : Int32)), (0, .ref (ad 0))]) hc dX8_numberHere_6 rfl (by decide) rfl ?_
  refine z_sub [2, 1, 0] rfl ?_
  exact tX8_numberHere_7 hc hr N N _ _ _
set_option maxRecDepth 100000 in
set_option maxHeartbeats 4000000 in
theorem tX8_readNode_152 {p : Program} {l : Launch} {e : Env} {s : State} {m : MethodId} {args : Array Value} {below : List Frame} {meth : Method} {c : Code} {D : va_G} {ca : Nat → ClassId} {xa ad : Nat → Nat} {A : Nat → Prop} (hc : zCx p s m args meth c cX8_readNode 4 RX8 D ca xa A (zwM ad ca)) (hr : meth.sig.returnType = none) (N : Nat)    (σ : zSt) : zGO p l e rmX8_readNode s m args below meth c 0 0 (zwM ad ca) D A 4 (zQ below D A (zwM ad ca) args s zV) (fX8_readNode_152 N σ) σ 152 [(0, .ref (ad 0))] [] := by
  unfold fX8_readNode_152
  refine z_aload_n hc dX8_readNode_152 0 rfl ?_
  refine z_dup hc dX8_readNode_153 rfl ?_
  refine gfX8_149 hc dX8_readNode_154 ?_
  refine z_iconst (v := (1 : Int32)) hc dX8_readNode_157 (by decide) ?_
  refine z_iadd hc dX8_readNode_158 ?_
  refine pfX8_149 hc dX8_readNode_159 (fun σ1 => ?_)
  exact z_vret hc hr dX8_readNode_162
set_option maxRecDepth 100000 in
set_option maxHeartbeats 4000000 in
theorem tX8_readNode_149 {p : Program} {l : Launch} {e : Env} {s : State} {m : MethodId} {args : Array Value} {below : List Frame} {meth : Method} {c : Code} {D : va_G} {ca : Nat → ClassId} {xa ad : Nat → Nat} {A : Nat → Prop} (hc : zCx p s m args meth c cX8_readNode 4 RX8 D ca xa A (zwM ad ca)) (hr : meth.sig.returnType = none) (N : Nat)   (s0 : Int32) (σ : zSt) : zGO p l e rmX8_readNode s m args below meth c 0 0 (zwM ad ca) D A 4 (zQ below D A (zwM ad ca) args s zV) (fX8_readNode_149 N s0 σ) σ 149 [(0, .ref (ad 0))] [.int s0, .ref (ad 0)] := by
  unfold fX8_readNode_149
  refine z_runVv (b0 := ad 0) (As := [.int s0]) (rest := []) hc dX8_readNode_149 (fun _ _ h => tX8_must h) mpX8_must miX8_must kmX8_162 ⟨rfl, rfl, Nat.le_of_ble_eq_true rfl, Nat.le_of_ble_eq_true rfl⟩ ⟨Nat.le_refl _, Nat.le_refl _⟩ zcM_rc0 rfl (Nat.le_of_ble_eq_true rfl) (fun b1 σ2 => ?_)
  exact tX8_readNode_152 hc hr N _
set_option maxRecDepth 100000 in
set_option maxHeartbeats 4000000 in
theorem tX8_readNode_135 {p : Program} {l : Launch} {e : Env} {s : State} {m : MethodId} {args : Array Value} {below : List Frame} {meth : Method} {c : Code} {D : va_G} {ca : Nat → ClassId} {xa ad : Nat → Nat} {A : Nat → Prop} (hc : zCx p s m args meth c cX8_readNode 4 RX8 D ca xa A (zwM ad ca)) (hr : meth.sig.returnType = none) (N : Nat)    (σ : zSt) : zGO p l e rmX8_readNode s m args below meth c 0 0 (zwM ad ca) D A 4 (zQ below D A (zwM ad ca) args s zV) (fX8_readNode_135 N σ) σ 135 [(0, .ref (ad 0))] [] := by
  unfold fX8_readNode_135
  refine z_aload_n hc dX8_readNode_135 0 rfl ?_
  refine z_aload_n hc dX8_readNode_136 0 rfl ?_
  refine gfX8_124 hc dX8_readNode_137 ?_
  refine z_iconst (v := (3 : Int32)) hc dX8_readNode_140 (by decide) ?_
  refine z_icmp_ne (tgt := 148) hc dX8_readNode_141 (by decide) ?_ ?_
  · refine z_iconst (v := (1 : Int32)) hc dX8_readNode_144 (by decide) ?_
    refine z_goto (tgt := 149) hc dX8_readNode_145 (by decide) ?_
    exact tX8_readNode_149 hc hr N _ _
  · refine z_iconst (v := (0 : Int32)) hc dX8_readNode_148 (by decide) ?_
    exact tX8_readNode_149 hc hr N _ _
set_option maxRecDepth 100000 in
set_option maxHeartbeats 4000000 in
theorem tX8_readNode_85 {p : Program} {l : Launch} {e : Env} {s : State} {m : MethodId} {args : Array Value} {below : List Frame} {meth : Method} {c : Code} {D : va_G} {ca : Nat → ClassId} {xa ad : Nat → Nat} {A : Nat → Prop} (hc : zCx p s m args meth c cX8_readNode 4 RX8 D ca xa A (zwM ad ca)) (hr : meth.sig.returnType = none) (N : Nat)   (y1 : Int64) (x3 : Int32) (s0 : Int32) (s1 : Int32) (σ : zSt) : zGO p l e rmX8_readNode s m args below meth c 0 0 (zwM ad ca) D A 4 (zQ below D A (zwM ad ca) args s zV) (fX8_readNode_85 N y1 x3 s0 s1 σ) σ 85 [(0, .ref (ad 0)), (1, .long y1), (3, .int x3)] [.int s0, .int s1, .ref (ad 7)] := by
  unfold fX8_readNode_85
  refine z_iastore hc 7 (by decide) (fun _ _ => rfl) dX8_readNode_85 (fun σ1 => ?_)
  refine z_aload_n hc dX8_readNode_86 0 rfl ?_
  refine gfX8_31 hc dX8_readNode_87 ?_
  refine z_iload_n hc dX8_readNode_90 2 rfl ?_
  refine z_iconst (v := (0 : Int32)) hc dX8_readNode_91 (by decide) ?_
  refine z_zastore hc 8 (by decide) (fun _ _ => rfl) dX8_readNode_92 (fun σ2 => ?_)
  refine z_lload_n hc dX8_readNode_93 1 rfl ?_
  refine z_ldc2 hc dX8_readNode_94 kcX8_156 ?_
  refine z_lcmp_eq (tgt := 152) hc dX8_readNode_97 dX8_readNode_98 (by decide) ?_ ?_
  · refine z_sub [0] rfl ?_
    exact tX8_readNode_152 hc hr N _
  · refine z_aload_n hc dX8_readNode_101 0 rfl ?_
    refine gfX8_22 hc dX8_readNode_102 ?_
    refine z_iload_n hc dX8_readNode_105 2 rfl ?_
    refine z_aload_n hc dX8_readNode_106 0 rfl ?_
    refine z_runVi (b0 := ad 0) (As := []) (rest := [.int x3, .ref (ad 5)]) hc dX8_readNode_107 (fun _ _ h => tX8_numberHere h) mpX8_numberHere miX8_numberHere kmX8_158 ⟨rfl, rfl, Nat.le_of_ble_eq_true rfl, Nat.le_of_ble_eq_true rfl⟩ ⟨Nat.le_refl _, Nat.le_refl _⟩ zcM_rc0 rfl (Nat.le_of_ble_eq_true rfl) (fun b3 σ4 => ?_)
    refine z_iastore hc 5 (by decide) (fun _ _ => rfl) dX8_readNode_110 (fun σ5 => ?_)
    refine z_aload_n hc dX8_readNode_111 0 rfl ?_
    refine gfX8_124 hc dX8_readNode_112 ?_
    refine z_iconst (v := (3 : Int32)) hc dX8_readNode_115 (by decide) ?_
    refine z_icmp_ne (tgt := 135) hc dX8_readNode_116 (by decide) ?_ ?_
    · refine z_aload_n hc dX8_readNode_119 0 rfl ?_
      refine gfX8_22 hc dX8_readNode_120 ?_
      refine z_iload_n hc dX8_readNode_123 2 rfl ?_
      refine z_iaload hc 5 (by decide) rfl dX8_readNode_124 (fun v6 => ?_)
      refine z_bipush (v := (9 : Int32)) hc dX8_readNode_125 (by decide) ?_
      refine z_icmp_le (tgt := 135) hc dX8_readNode_127 (by decide) ?_ ?_
      · refine z_sub [0] rfl ?_
        exact tX8_readNode_135 hc hr N _
      · refine z_aload_n hc dX8_readNode_130 0 rfl ?_
        refine z_iconst (v := (2 : Int32)) hc dX8_readNode_131 (by decide) ?_
        refine z_runVv (b0 := ad 0) (As := [.int (2 : Int32)]) (rest := []) hc dX8_readNode_132 (fun _ _ h => tX8_bad h) mpX8_bad miX8_bad kmX8_142 ⟨rfl, rfl, Nat.le_of_ble_eq_true rfl, Nat.le_of_ble_eq_true rfl⟩ ⟨Nat.le_refl _, Nat.le_refl _⟩ zcM_rc0 rfl (Nat.le_of_ble_eq_true rfl) (fun b7 σ8 => ?_)
        refine z_sub [0] rfl ?_
        exact tX8_readNode_135 hc hr N _
    · refine z_sub [0] rfl ?_
      exact tX8_readNode_135 hc hr N _
set_option maxRecDepth 100000 in
set_option maxHeartbeats 4000000 in
theorem tX8_readNode_63 {p : Program} {l : Launch} {e : Env} {s : State} {m : MethodId} {args : Array Value} {below : List Frame} {meth : Method} {c : Code} {D : va_G} {ca : Nat → ClassId} {xa ad : Nat → Nat} {A : Nat → Prop} (hc : zCx p s m args meth c cX8_readNode 4 RX8 D ca xa A (zwM ad ca)) (hr : meth.sig.returnType = none) (N : Nat)   (y1 : Int64) (x3 : Int32) (s0 : Int32) (s1 : Int32) (σ : zSt) : zGO p l e rmX8_readNode s m args below meth c 0 0 (zwM ad ca) D A 4 (zQ below D A (zwM ad ca) args s zV) (fX8_readNode_63 N y1 x3 s0 s1 σ) σ 63 [(0, .ref (ad 0)), (1, .long y1), (3, .int x3)] [.int s0, .int s1, .ref (ad 6)] := by
  unfold fX8_readNode_63
  refine z_iastore hc 6 (by decide) (fun _ _ => rfl) dX8_readNode_63 (fun σ1 => ?_)
  refine z_aload_n hc dX8_readNode_64 0 rfl ?_
  refine gfX8_28 hc dX8_readNode_65 ?_
  refine z_iload_n hc dX8_readNode_68 2 rfl ?_
  refine z_lload_n hc dX8_readNode_69 1 rfl ?_
  refine z_ldc2 hc dX8_readNode_70 kcX8_156 ?_
  refine z_lcmp_ne (tgt := 82) hc dX8_readNode_73 dX8_readNode_74 (by decide) ?_ ?_
  · refine z_ldc hc dX8_readNode_77 kcX8_114 ?_
    refine z_goto (tgt := 85) hc dX8_readNode_79 (by decide) ?_
    exact tX8_readNode_85 hc hr N _ _ _ _ _
  · refine z_sipush (v := (9999 : Int32)) hc dX8_readNode_82 (by decide) ?_
    exact tX8_readNode_85 hc hr N _ _ _ _ _
set_option maxRecDepth 100000 in
set_option maxHeartbeats 4000000 in
theorem tX8_readNode_35 {p : Program} {l : Launch} {e : Env} {s : State} {m : MethodId} {args : Array Value} {below : List Frame} {meth : Method} {c : Code} {D : va_G} {ca : Nat → ClassId} {xa ad : Nat → Nat} {A : Nat → Prop} (hc : zCx p s m args meth c cX8_readNode 4 RX8 D ca xa A (zwM ad ca)) (hr : meth.sig.returnType = none) (N : Nat)   (y1 : Int64) (x3 : Int32) (s0 : Int32) (s1 : Int32) (σ : zSt) : zGO p l e rmX8_readNode s m args below meth c 0 0 (zwM ad ca) D A 4 (zQ below D A (zwM ad ca) args s zV) (fX8_readNode_35 N y1 x3 s0 s1 σ) σ 35 [(0, .ref (ad 0)), (1, .long y1), (3, .int x3)] [.int s0, .int s1, .ref (ad 4)] := by
  unfold fX8_readNode_35
  refine z_iastore hc 4 (by decide) (fun _ _ => rfl) dX8_readNode_35 (fun σ1 => ?_)
  refine z_aload_n hc dX8_readNode_36 0 rfl ?_
  refine gfX8_22 hc dX8_readNode_37 ?_
  refine z_iload_n hc dX8_readNode_40 2 rfl ?_
  refine z_ldc hc dX8_readNode_41 kcX8_114 ?_
  refine z_iastore hc 5 (by decide) (fun _ _ => rfl) dX8_readNode_43 (fun σ2 => ?_)
  refine z_aload_n hc dX8_readNode_44 0 rfl ?_
  refine gfX8_25 hc dX8_readNode_45 ?_
  refine z_iload_n hc dX8_readNode_48 2 rfl ?_
  refine z_lload_n hc dX8_readNode_49 1 rfl ?_
  refine z_ldc2 hc dX8_readNode_50 kcX8_156 ?_
  refine z_lcmp_ne (tgt := 62) hc dX8_readNode_53 dX8_readNode_54 (by decide) ?_ ?_
  · refine z_ldc hc dX8_readNode_57 kcX8_114 ?_
    refine z_goto (tgt := 63) hc dX8_readNode_59 (by decide) ?_
    exact tX8_readNode_63 hc hr N _ _ _ _ _
  · refine z_iconst (v := (0 : Int32)) hc dX8_readNode_62 (by decide) ?_
    exact tX8_readNode_63 hc hr N _ _ _ _ _
set_option maxRecDepth 100000 in
set_option maxHeartbeats 4000000 in
theorem tX8_readNode {l : Launch} {D : va_G} {ca : Nat → ClassId} {xa ad : Nat → Nat} {A : Nat → Prop} {N : Nat} {y1 : Int64} {σ : zSt} {a : Unit} {τ : zSt} (h : fX8_readNode N y1 σ = some (a, τ)) : zCt l yX8_readNode cX8_readNode 4 none rmX8_readNode D ca xa A (zwM ad ca) [.ref (ad 0), .long y1] σ (zV a) τ := by
  refine z_met (inj := zV) (lv := [(0, .ref (ad 0)), (1, .long y1)]) (by decide) (Nat.le_of_ble_eq_true rfl) rfl ?_ h
  intro p e s m args below meth c hc hr
  unfold fX8_readNode
  refine z_aload_n hc dX8_readNode_0 0 rfl ?_
  refine gfX8_149 hc dX8_readNode_1 ?_
  refine z_nm (fun v1 => ?_)
  refine z_istore_n (lv' := [(3, .int v1), (0, .ref (ad 0)), (1, .long y1)]) hc dX8_readNode_4 rfl (by decide) rfl ?_
  refine z_aload_n hc dX8_readNode_5 1 rfl ?_
  refine gfX8_19 hc dX8_readNode_6 ?_
  refine z_iload_n hc dX8_readNode_9 0 rfl ?_
  refine z_lload_n hc dX8_readNode_10 2 rfl ?_
  refine z_ldc2 hc dX8_readNode_11 kcX8_152 ?_
  refine z_lcmp_ne (tgt := 22) hc dX8_readNode_14 dX8_readNode_15 (by decide) ?_ ?_
  · refine z_iconst (v := (0 : Int32)) hc dX8_readNode_18 (by decide) ?_
    refine z_goto (tgt := 35) hc dX8_readNode_19 (by decide) ?_
    refine z_sub [1, 2, 0] rfl ?_
    exact tX8_readNode_35 hc hr N _ _ _ _ _
  · refine z_lload_n hc dX8_readNode_22 2 rfl ?_
    refine z_ldc2 hc dX8_readNode_23 kcX8_154 ?_
    refine z_lcmp_ne (tgt := 34) hc dX8_readNode_26 dX8_readNode_27 (by decide) ?_ ?_
    · refine z_iconst (v := (1 : Int32)) hc dX8_readNode_30 (by decide) ?_
      refine z_goto (tgt := 35) hc dX8_readNode_31 (by decide) ?_
      refine z_sub [1, 2, 0] rfl ?_
      exact tX8_readNode_35 hc hr N _ _ _ _ _
    · refine z_iconst (v := (2 : Int32)) hc dX8_readNode_34 (by decide) ?_
      refine z_sub [1, 2, 0] rfl ?_
      exact tX8_readNode_35 hc hr N _ _ _ _ _
