set_option maxRecDepth 100000 in
theorem zBX7_lay {ca : Nat → ClassId} {h0 : Nat} {w : va_W} (h : zBX7 ca h0 w) : ∃ ad : Nat → Nat, ad 0 = h0 ∧ w = zwC ad ca zC0 := by
  obtain ⟨q1, q2, q3, q4, q5, q6, q7, q8, q9, q10, q11, q12, q13, q14, q15, q16, q17, q18, q19, q20, q21, q22, q23, q24, q25, q26, q27, q28, q29, q30, q31, q32, q33, q34, r, rfl⟩ := h
  refine ⟨fun k => if k < 35 then [h0, q1, q2, q3, q4, q5, q6, q7, q8, q9, q10, q11, q12, q13, q14, q15, q16, q17, q18, q19, q20, q21, q22, q23, q24, q25, q26, q27, q28, q29, q30, q31, q32, q33, q34].getD k 0 else r (k - 35), rfl, ?_⟩
  have e : (fun j => some (r j)) = (fun j => some ((fun k => if k < 35 then [h0, q1, q2, q3, q4, q5, q6, q7, q8, q9, q10, q11, q12, q13, q14, q15, q16, q17, q18, q19, q20, q21, q22, q23, q24, q25, q26, q27, q28, q29, q30, q31, q32, q33, q34].getD k 0 else r (k - 35)) (35 + j))) := by
    funext j
    show some (r j) = some (if 35 + j < 35 then _ else r (35 + j - 35))
    rw [if_neg (by omega), Nat.add_sub_cancel_left]
  rw [e]
  rfl
set_option maxRecDepth 100000 in
theorem zBX8_lay {ca : Nat → ClassId} {h0 : Nat} {w : va_W} (h : zBX8 ca h0 w) : ∃ am : Nat → Nat, am 0 = h0 ∧ w = zwM am ca zM0 := by
  obtain ⟨q1, q2, q3, q4, q5, q6, q7, q8, q9, q10, q11, q12, q13, q14, q15, q16, q17, q18, q19, q20, q21, q22, rfl⟩ := h
  exact ⟨fun k => [h0, q1, q2, q3, q4, q5, q6, q7, q8, q9, q10, q11, q12, q13, q14, q15, q16, q17, q18, q19, q20, q21, q22].getD k 0, rfl, rfl⟩
section zS
variable {p : Program} {l : Launch} {e : Env} {R : Room} {s : State} {m : MethodId} {args : Array Value} {below : List Frame} {meth : Method} {c : Code} {cells slots : Nat}
variable {α : Type} {D : va_G} {ca : Nat → ClassId} {xa : Nat → Nat} {A : Nat → Prop} {nL : Nat} {Qf : α → zSA A → State → Prop} {cc : ByteArray} {own : String}
variable {o : Option (α × zSA A)} {pc : Nat} {lv : List (Nat × Value)}
/-- the law's call of a constructor, on the cell that came last -/
theorem n_callI (hc : zCx p s m args meth c cc nL own D ca xa A (zlwA A)) (hO : va_AOA .long s) {y : MethodName} {cc2 : ByteArray} {nL2 idx b0 mc ms : Nat} {rm2 : Room} {e0 : va_E} {B : va_W → Prop} {rest : List Value} {wr : va_W} {hD : va_D A (wr ++ [(b0, e0)])} (hnd : va_nd (List.range wr.length) = true)
    (hct : ∀ A1 : Nat → Prop, va_D A1 [(b0, e0)] → zCtN l y cc2 nL2 rm2 D ca xa A1 [.ref b0] [(b0, e0)] B mc ms) (hp : zMp y cc2 nL2 none 0) (hyn : y.name = "<init>") (hi : Cond.instanceMethod y ∈ zlwg) (hlk : Cond.methodLink own idx y ∈ zlwg) (hrm : rm2.cells = mc ∧ rm2.slots = ms ∧ rm2.frames + 1 ≤ R.frames ∧ 8 + (nL2 + 11) + rm2.locals ≤ R.locals) (hcs : cells + mc ≤ R.cells ∧ slots + ms ≤ R.slots) (hcat : (rest.map fun v => v.category).sum ≤ 8) (d : decode cc pc = .ok (.invokespecial idx, 3))
    (k : ∀ w1, B w1 → ∀ hD', zGO p l e R s m args below meth c (cells + mc) (slots + ms) (zlwA A) D A nL Qf o ⟨wr ++ w1, hD'⟩ (pc + 3) lv (rest)) : zGO p l e R s m args below meth c (cells) (slots) (zlwA A) D A nL Qf o ⟨wr ++ [(b0, e0)], hD⟩ (pc) lv (.ref b0 :: rest) := by
  intro a τ h0 H locs ls hP hS hl
  have hC : (wr ++ [(b0, e0)])[wr.length]? = some (b0, e0) := by rw [List.getElem?_append_right (Nat.le_refl _)]; simp
  have hRr : (List.range wr.length).map (fun i => (wr ++ [(b0, e0)])[i]?) = wr.map some := by
    apply List.ext_getElem?
    intro i
    rw [List.getElem?_map, List.getElem?_map]
    by_cases hi : i < wr.length
    · rw [List.getElem?_range hi]
      show some ((wr ++ [(b0, e0)])[i]?) = _
      rw [List.getElem?_append_left hi, List.getElem?_eq_getElem hi]
      rfl
    · rw [List.getElem?_eq_none (by rw [List.length_range]; omega), List.getElem?_eq_none (by omega)]
      rfl
  have hPc : va_P D vwCl [(b0, e0)] H := hP.sub (ws' := [(b0, e0)]) [wr.length] (by simp [hC])
  have hFc := va_free (wc := [(b0, e0)]) hD hS hc.2.2.2.2.2.2.1 [wr.length] (by simp [hC])
  have hDc : va_D (va_A [(b0, e0)] H.size) [(b0, e0)] := (hD.sub (ws' := [(b0, e0)]) [wr.length] rfl (by simp [hC])).self
  have hpre : ∀ U : State, U.heap = H → s.WarmedH U.vm → zPreN D ca xa (va_A [(b0, e0)] H.size) [(b0, e0)] U := fun U hU hW =>
    ⟨fun q hq => Or.inr (by rw [← hU]; exact hq), by rw [hU]; exact hPc, ((hc.2.2.2.2.2.2.2).at hW (fun a h1 h2 => by rw [hU]; exact hS.2.1 a h1 h2)).part hFc (fun σ => σ.2), hO.moved hW.alike⟩
  intro T hT X
  have hRun : va_Run p l e R s m args below meth c H locs cells slots mc ms (F0 m pc ls (.ref b0 :: rest)) rest (zPostN D (va_A [(b0, e0)] H.size) B ([Value.ref b0]).toArray) (va_A [(b0, e0)] H.size) := va_runI (As := []) (rest := rest) ⟨hc.1, hc.2.1, hc.2.2.1, hc.2.2.2.1, hc.2.2.2.2.1⟩ (hct (va_A [(b0, e0)] H.size) hDc) (cwI 0 hc.2.2.2.2.1 (zG2 hp) rfl hrm.1 hrm.2.1 (hc.2.2.2.2.1 _ hp.2.1) (hc.2.2.2.2.1 _ hlk) (hc.2.2.2.2.1 _ hi) hyn hp.2.2 hrm.2.2) ⟨zPreN.blind, fun U hU hW => ⟨rfl, hpre U hU hW⟩⟩ rfl rfl hl.1 rfl (lv_room hcat) d hcs
  obtain ⟨v, st₀, t, T', L, h0', X', hL, e1, e2, ⟨⟨hv, w1, hB, hP1, hD1⟩, hz, hk⟩, stp⟩ := hRun T hT X
  cases hv
  rw [h0'] at hz hk
  obtain ⟨hPj, hDj⟩ := va_join (wr := wr) (w1 := w1) hP hD [wr.length] (List.range wr.length) (by simp [hC]) hRr hnd (fun i hi => by simp at hi ⊢; omega) hk hFc hP1 hD1
  obtain ⟨t2, a1, b1⟩ := k w1 hB hDj a τ h0 T'.heap (locs ++ L) ls (by rw [e1]; exact hPj)
    ⟨Nat.le_trans hS.1 (by rw [e1]; exact hz), fun q h1 h2 => by rw [e1, hk q (Nat.lt_of_lt_of_le h1 hS.1) (fun z => h2 (hFc q z))]; exact hS.2.1 q h1 h2, fun q hq => by
      rcases List.mem_append.mp hq with h | h
      · exact hS.2.2 q h
      · exact hFc _ (hL q h)⟩ hl T' rfl X'
  exact ⟨t2, stp t2 a1, b1⟩
end zS
theorem mpX7_init : zMp yX7_init cX7_init 1 none 0 := ⟨zlwg_of (List.mem_of_getElem? (i := 157) (by decide +kernel)) rfl, zlwg_of (List.mem_of_getElem? (i := 137) (by decide +kernel)) rfl, by decide, by decide, by decide +kernel⟩
theorem miX7_init : Cond.instanceMethod yX7_init ∈ zlwg := zlwg_of (List.mem_of_getElem? (i := 156) (by decide +kernel)) rfl
theorem mpX8_init : zMp yX8_init cX8_init 1 none 0 := ⟨zlwg_of (List.mem_of_getElem? (i := 1051) (by decide +kernel)) rfl, zlwg_of (List.mem_of_getElem? (i := 145) (by decide +kernel)) rfl, by decide, by decide, by decide +kernel⟩
theorem miX8_init : Cond.instanceMethod yX8_init ∈ zlwg := zlwg_of (List.mem_of_getElem? (i := 1050) (by decide +kernel)) rfl
theorem kmL_9 : Cond.methodLink RL 9 yX7_init ∈ zlwg := zlwg_of (List.mem_of_getElem? (i := 155) (by decide +kernel)) rfl
theorem kmL_12 : Cond.methodLink RL 12 yX8_init ∈ zlwg := zlwg_of (List.mem_of_getElem? (i := 1049) (by decide +kernel)) rfl
theorem knL_7 : Cond.classLink RL 7 RX7 ∈ zlwg ∧ Cond.instantiable RX7 8 ∈ zlwg ∧ Cond.initialized RX7 ∈ zlwg := ⟨zlwg_of (List.mem_of_getElem? (i := 153) (by decide +kernel)) rfl, zlwg_of (List.mem_of_getElem? (i := 154) (by decide +kernel)) rfl, zlwg_of (List.mem_of_getElem? (i := 137) (by decide +kernel)) rfl⟩
theorem knL_10 : Cond.classLink RL 10 RX8 ∈ zlwg ∧ Cond.instantiable RX8 46 ∈ zlwg ∧ Cond.initialized RX8 ∈ zlwg := ⟨zlwg_of (List.mem_of_getElem? (i := 1047) (by decide +kernel)) rfl, zlwg_of (List.mem_of_getElem? (i := 1048) (by decide +kernel)) rfl, zlwg_of (List.mem_of_getElem? (i := 145) (by decide +kernel)) rfl⟩
theorem zst0 {args : Array Value} {s : State} {A : Nat → Prop} (hs : ∀ w ∈ flatC (Jvm.Cond.and given_1 narrow_1), w.before args s = true) (hl : (Cond.laysStatic "SafeNet$Weights" "WORLDS_WITH" "[I").before args s = true) (hi : (Cond.initialized "SafeNet$Weights").before args s = true) (hA : ∀ a : Nat, a < s.heap.size → ¬ A a) : ∃ t : Nat, va_Z "SafeNet$Weights" "WORLDS_WITH" "[I" (.ref t) A s s.heap ∧ va_T .int t 3 (fun j => .int (zTW j)) A s s.heap := by
  obtain ⟨t, h1, h2⟩ := va_Tof (tm := (Term.static "SafeNet$Weights" "WORLDS_WITH" "[I")) (ty := .int) (N := 3) (f := fun j => .int (zTW j)) (A := A) (by decide) (hs _ (by decide +kernel)) (va_eqt (hs (Cond.eq (.length (Term.static "SafeNet$Weights" "WORLDS_WITH" "[I")) (.int 3)) (by decide +kernel))) (fun j hj => by
    rcases (show j = 0 ∨ j = 1 ∨ j = 2 by omega) with rfl | rfl | rfl
    · exact va_eqt (hs (Cond.eq (.elem (Term.static "SafeNet$Weights" "WORLDS_WITH" "[I") (.int 0)) (.int 170)) (by decide +kernel))
    · exact va_eqt (hs (Cond.eq (.elem (Term.static "SafeNet$Weights" "WORLDS_WITH" "[I") (.int 1)) (.int 204)) (by decide +kernel))
    · exact va_eqt (hs (Cond.eq (.elem (Term.static "SafeNet$Weights" "WORLDS_WITH" "[I") (.int 2)) (.int 240)) (by decide +kernel))) hA
  exact ⟨t, va_Zof hl hi h1 hA, h2⟩
theorem zst1 {args : Array Value} {s : State} {A : Nat → Prop} (hs : ∀ w ∈ flatC (Jvm.Cond.and given_1 narrow_1), w.before args s = true) (hl : (Cond.laysStatic "SafeNet$Net" "DOUBTS_BY_FORM" "[I").before args s = true) (hi : (Cond.initialized "SafeNet$Net").before args s = true) (hA : ∀ a : Nat, a < s.heap.size → ¬ A a) : ∃ t : Nat, va_Z "SafeNet$Net" "DOUBTS_BY_FORM" "[I" (.ref t) A s s.heap ∧ va_T .int t 4 (fun j => .int (zTD j)) A s s.heap := by
  obtain ⟨t, h1, h2⟩ := va_Tof (tm := (Term.static "SafeNet$Net" "DOUBTS_BY_FORM" "[I")) (ty := .int) (N := 4) (f := fun j => .int (zTD j)) (A := A) (by decide) (hs _ (by decide +kernel)) (va_eqt (hs (Cond.eq (.length (Term.static "SafeNet$Net" "DOUBTS_BY_FORM" "[I")) (.int 4)) (by decide +kernel))) (fun j hj => by
    rcases (show j = 0 ∨ j = 1 ∨ j = 2 ∨ j = 3 by omega) with rfl | rfl | rfl | rfl
    · exact va_eqt (hs (Cond.eq (.elem (Term.static "SafeNet$Net" "DOUBTS_BY_FORM" "[I") (.int 0)) (.int 2)) (by decide +kernel))
    · exact va_eqt (hs (Cond.eq (.elem (Term.static "SafeNet$Net" "DOUBTS_BY_FORM" "[I") (.int 1)) (.int 1)) (by decide +kernel))
    · exact va_eqt (hs (Cond.eq (.elem (Term.static "SafeNet$Net" "DOUBTS_BY_FORM" "[I") (.int 2)) (.int 2)) (by decide +kernel))
    · exact va_eqt (hs (Cond.eq (.elem (Term.static "SafeNet$Net" "DOUBTS_BY_FORM" "[I") (.int 3)) (.int 3)) (by decide +kernel))) hA
  exact ⟨t, va_Zof hl hi h1 hA, h2⟩
theorem zst2 {args : Array Value} {s : State} {A : Nat → Prop} (hs : ∀ w ∈ flatC (Jvm.Cond.and given_1 narrow_1), w.before args s = true) (hl : (Cond.laysStatic "SafeNet$Net" "KINDS_ABOVE" "[I").before args s = true) (hi : (Cond.initialized "SafeNet$Net").before args s = true) (hA : ∀ a : Nat, a < s.heap.size → ¬ A a) : ∃ t : Nat, va_Z "SafeNet$Net" "KINDS_ABOVE" "[I" (.ref t) A s s.heap ∧ va_T .int t 6 (fun j => .int (zTK j)) A s s.heap := by
  obtain ⟨t, h1, h2⟩ := va_Tof (tm := (Term.static "SafeNet$Net" "KINDS_ABOVE" "[I")) (ty := .int) (N := 6) (f := fun j => .int (zTK j)) (A := A) (by decide) (hs _ (by decide +kernel)) (va_eqt (hs (Cond.eq (.length (Term.static "SafeNet$Net" "KINDS_ABOVE" "[I")) (.int 6)) (by decide +kernel))) (fun j hj => by
    rcases (show j = 0 ∨ j = 1 ∨ j = 2 ∨ j = 3 ∨ j = 4 ∨ j = 5 by omega) with rfl | rfl | rfl | rfl | rfl | rfl
    · exact va_eqt (hs (Cond.eq (.elem (Term.static "SafeNet$Net" "KINDS_ABOVE" "[I") (.int 0)) (.int 1)) (by decide +kernel))
    · exact va_eqt (hs (Cond.eq (.elem (Term.static "SafeNet$Net" "KINDS_ABOVE" "[I") (.int 1)) (.int 3)) (by decide +kernel))
    · exact va_eqt (hs (Cond.eq (.elem (Term.static "SafeNet$Net" "KINDS_ABOVE" "[I") (.int 2)) (.int 7)) (by decide +kernel))
    · exact va_eqt (hs (Cond.eq (.elem (Term.static "SafeNet$Net" "KINDS_ABOVE" "[I") (.int 3)) (.int 9)) (by decide +kernel))
    · exact va_eqt (hs (Cond.eq (.elem (Term.static "SafeNet$Net" "KINDS_ABOVE" "[I") (.int 4)) (.int 25)) (by decide +kernel))
    · exact va_eqt (hs (Cond.eq (.elem (Term.static "SafeNet$Net" "KINDS_ABOVE" "[I") (.int 5)) (.int 35)) (by decide +kernel))) hA
  exact ⟨t, va_Zof hl hi h1 hA, h2⟩
theorem zstS {args : Array Value} {s : State} {A : Nat → Prop} (hs : ∀ w ∈ flatC (Jvm.Cond.and given_1 narrow_1), w.before args s = true) (hA : ∀ a : Nat, a < s.heap.size → ¬ A a) : ∃ adK adV : Nat → Nat, vk_S 8 zSlen zSbyt adK adV A s s.heap ∧ ∀ i : Nat, i < 8 → (Term.string "SafeNet$Text" (zSpool i)).eval args s none [] s = some (.ref (adK i)) := by
  refine vk_Sof (tm := fun i => Term.string "SafeNet$Text" (zSpool i)) ?_ ?_ ?_ ?_ ?_ ?_ ?_ hA
  · intro i hi
    rcases (show i = 0 ∨ i = 1 ∨ i = 2 ∨ i = 3 ∨ i = 4 ∨ i = 5 ∨ i = 6 ∨ i = 7 by omega) with rfl | rfl | rfl | rfl | rfl | rfl | rfl | rfl <;> decide
  · intro i hi
    rcases (show i = 0 ∨ i = 1 ∨ i = 2 ∨ i = 3 ∨ i = 4 ∨ i = 5 ∨ i = 6 ∨ i = 7 by omega) with rfl | rfl | rfl | rfl | rfl | rfl | rfl | rfl
    · exact hs (Cond.exactly (Term.string "SafeNet$Text" 32) "java/lang/String") (by decide +kernel)
    · exact hs (Cond.exactly (Term.string "SafeNet$Text" 42) "java/lang/String") (by decide +kernel)
    · exact hs (Cond.exactly (Term.string "SafeNet$Text" 44) "java/lang/String") (by decide +kernel)
    · exact hs (Cond.exactly (Term.string "SafeNet$Text" 49) "java/lang/String") (by decide +kernel)
    · exact hs (Cond.exactly (Term.string "SafeNet$Text" 101) "java/lang/String") (by decide +kernel)
    · exact hs (Cond.exactly (Term.string "SafeNet$Text" 103) "java/lang/String") (by decide +kernel)
    · exact hs (Cond.exactly (Term.string "SafeNet$Text" 105) "java/lang/String") (by decide +kernel)
    · exact hs (Cond.exactly (Term.string "SafeNet$Text" 107) "java/lang/String") (by decide +kernel)
  · intro i hi
    rcases (show i = 0 ∨ i = 1 ∨ i = 2 ∨ i = 3 ∨ i = 4 ∨ i = 5 ∨ i = 6 ∨ i = 7 by omega) with rfl | rfl | rfl | rfl | rfl | rfl | rfl | rfl
    · exact hs (Cond.eq (.field (Term.string "SafeNet$Text" 32) "java/lang/String" "coder" "B") (.int 0)) (by decide +kernel)
    · exact hs (Cond.eq (.field (Term.string "SafeNet$Text" 42) "java/lang/String" "coder" "B") (.int 0)) (by decide +kernel)
    · exact hs (Cond.eq (.field (Term.string "SafeNet$Text" 44) "java/lang/String" "coder" "B") (.int 0)) (by decide +kernel)
    · exact hs (Cond.eq (.field (Term.string "SafeNet$Text" 49) "java/lang/String" "coder" "B") (.int 0)) (by decide +kernel)
    · exact hs (Cond.eq (.field (Term.string "SafeNet$Text" 101) "java/lang/String" "coder" "B") (.int 0)) (by decide +kernel)
    · exact hs (Cond.eq (.field (Term.string "SafeNet$Text" 103) "java/lang/String" "coder" "B") (.int 0)) (by decide +kernel)
    · exact hs (Cond.eq (.field (Term.string "SafeNet$Text" 105) "java/lang/String" "coder" "B") (.int 0)) (by decide +kernel)
    · exact hs (Cond.eq (.field (Term.string "SafeNet$Text" 107) "java/lang/String" "coder" "B") (.int 0)) (by decide +kernel)
  · intro i hi
    rcases (show i = 0 ∨ i = 1 ∨ i = 2 ∨ i = 3 ∨ i = 4 ∨ i = 5 ∨ i = 6 ∨ i = 7 by omega) with rfl | rfl | rfl | rfl | rfl | rfl | rfl | rfl
    · exact hs (Cond.arrayOf (Term.field (Term.string "SafeNet$Text" 32) "java/lang/String" "value" "[B") .byte) (by decide +kernel)
    · exact hs (Cond.arrayOf (Term.field (Term.string "SafeNet$Text" 42) "java/lang/String" "value" "[B") .byte) (by decide +kernel)
    · exact hs (Cond.arrayOf (Term.field (Term.string "SafeNet$Text" 44) "java/lang/String" "value" "[B") .byte) (by decide +kernel)
    · exact hs (Cond.arrayOf (Term.field (Term.string "SafeNet$Text" 49) "java/lang/String" "value" "[B") .byte) (by decide +kernel)
    · exact hs (Cond.arrayOf (Term.field (Term.string "SafeNet$Text" 101) "java/lang/String" "value" "[B") .byte) (by decide +kernel)
    · exact hs (Cond.arrayOf (Term.field (Term.string "SafeNet$Text" 103) "java/lang/String" "value" "[B") .byte) (by decide +kernel)
    · exact hs (Cond.arrayOf (Term.field (Term.string "SafeNet$Text" 105) "java/lang/String" "value" "[B") .byte) (by decide +kernel)
    · exact hs (Cond.arrayOf (Term.field (Term.string "SafeNet$Text" 107) "java/lang/String" "value" "[B") .byte) (by decide +kernel)
  · intro i hi
    rcases (show i = 0 ∨ i = 1 ∨ i = 2 ∨ i = 3 ∨ i = 4 ∨ i = 5 ∨ i = 6 ∨ i = 7 by omega) with rfl | rfl | rfl | rfl | rfl | rfl | rfl | rfl
    · exact hs (Cond.eq (.length (Term.field (Term.string "SafeNet$Text" 32) "java/lang/String" "value" "[B")) (.int 4)) (by decide +kernel)
    · exact hs (Cond.eq (.length (Term.field (Term.string "SafeNet$Text" 42) "java/lang/String" "value" "[B")) (.int 5)) (by decide +kernel)
    · exact hs (Cond.eq (.length (Term.field (Term.string "SafeNet$Text" 44) "java/lang/String" "value" "[B")) (.int 5)) (by decide +kernel)
    · exact hs (Cond.eq (.length (Term.field (Term.string "SafeNet$Text" 49) "java/lang/String" "value" "[B")) (.int 4)) (by decide +kernel)
    · exact hs (Cond.eq (.length (Term.field (Term.string "SafeNet$Text" 101) "java/lang/String" "value" "[B")) (.int 3)) (by decide +kernel)
    · exact hs (Cond.eq (.length (Term.field (Term.string "SafeNet$Text" 103) "java/lang/String" "value" "[B")) (.int 3)) (by decide +kernel)
    · exact hs (Cond.eq (.length (Term.field (Term.string "SafeNet$Text" 105) "java/lang/String" "value" "[B")) (.int 4)) (by decide +kernel)
    · exact hs (Cond.eq (.length (Term.field (Term.string "SafeNet$Text" 107) "java/lang/String" "value" "[B")) (.int 4)) (by decide +kernel)
  · intro i hi
    rcases (show i = 0 ∨ i = 1 ∨ i = 2 ∨ i = 3 ∨ i = 4 ∨ i = 5 ∨ i = 6 ∨ i = 7 by omega) with rfl | rfl | rfl | rfl | rfl | rfl | rfl | rfl
    · intro j hj
      have hj : j < 4 := hj
      rcases (show j = 0 ∨ j = 1 ∨ j = 2 ∨ j = 3 by omega) with rfl | rfl | rfl | rfl
      · exact hs (Cond.eq (.elem (Term.field (Term.string "SafeNet$Text" 32) "java/lang/String" "value" "[B") (.int 0)) (.int 108)) (by decide +kernel)
      · exact hs (Cond.eq (.elem (Term.field (Term.string "SafeNet$Text" 32) "java/lang/String" "value" "[B") (.int 1)) (.int 101)) (by decide +kernel)
      · exact hs (Cond.eq (.elem (Term.field (Term.string "SafeNet$Text" 32) "java/lang/String" "value" "[B") (.int 2)) (.int 97)) (by decide +kernel)
      · exact hs (Cond.eq (.elem (Term.field (Term.string "SafeNet$Text" 32) "java/lang/String" "value" "[B") (.int 3)) (.int 102)) (by decide +kernel)
    · intro j hj
      have hj : j < 5 := hj
      rcases (show j = 0 ∨ j = 1 ∨ j = 2 ∨ j = 3 ∨ j = 4 by omega) with rfl | rfl | rfl | rfl | rfl
      · exact hs (Cond.eq (.elem (Term.field (Term.string "SafeNet$Text" 42) "java/lang/String" "value" "[B") (.int 0)) (.int 103)) (by decide +kernel)
      · exact hs (Cond.eq (.elem (Term.field (Term.string "SafeNet$Text" 42) "java/lang/String" "value" "[B") (.int 1)) (.int 105)) (by decide +kernel)
      · exact hs (Cond.eq (.elem (Term.field (Term.string "SafeNet$Text" 42) "java/lang/String" "value" "[B") (.int 2)) (.int 118)) (by decide +kernel)
      · exact hs (Cond.eq (.elem (Term.field (Term.string "SafeNet$Text" 42) "java/lang/String" "value" "[B") (.int 3)) (.int 101)) (by decide +kernel)
      · exact hs (Cond.eq (.elem (Term.field (Term.string "SafeNet$Text" 42) "java/lang/String" "value" "[B") (.int 4)) (.int 110)) (by decide +kernel)
    · intro j hj
      have hj : j < 5 := hj
      rcases (show j = 0 ∨ j = 1 ∨ j = 2 ∨ j = 3 ∨ j = 4 by omega) with rfl | rfl | rfl | rfl | rfl
      · exact hs (Cond.eq (.elem (Term.field (Term.string "SafeNet$Text" 44) "java/lang/String" "value" "[B") (.int 0)) (.int 99)) (by decide +kernel)
      · exact hs (Cond.eq (.elem (Term.field (Term.string "SafeNet$Text" 44) "java/lang/String" "value" "[B") (.int 1)) (.int 108)) (by decide +kernel)
      · exact hs (Cond.eq (.elem (Term.field (Term.string "SafeNet$Text" 44) "java/lang/String" "value" "[B") (.int 2)) (.int 97)) (by decide +kernel)
      · exact hs (Cond.eq (.elem (Term.field (Term.string "SafeNet$Text" 44) "java/lang/String" "value" "[B") (.int 3)) (.int 105)) (by decide +kernel)
      · exact hs (Cond.eq (.elem (Term.field (Term.string "SafeNet$Text" 44) "java/lang/String" "value" "[B") (.int 4)) (.int 109)) (by decide +kernel)
    · intro j hj
      have hj : j < 4 := hj
      rcases (show j = 0 ∨ j = 1 ∨ j = 2 ∨ j = 3 by omega) with rfl | rfl | rfl | rfl
      · exact hs (Cond.eq (.elem (Term.field (Term.string "SafeNet$Text" 49) "java/lang/String" "value" "[B") (.int 0)) (.int 115)) (by decide +kernel)
      · exact hs (Cond.eq (.elem (Term.field (Term.string "SafeNet$Text" 49) "java/lang/String" "value" "[B") (.int 1)) (.int 116)) (by decide +kernel)
      · exact hs (Cond.eq (.elem (Term.field (Term.string "SafeNet$Text" 49) "java/lang/String" "value" "[B") (.int 2)) (.int 101)) (by decide +kernel)
      · exact hs (Cond.eq (.elem (Term.field (Term.string "SafeNet$Text" 49) "java/lang/String" "value" "[B") (.int 3)) (.int 112)) (by decide +kernel)
    · intro j hj
      have hj : j < 3 := hj
      rcases (show j = 0 ∨ j = 1 ∨ j = 2 by omega) with rfl | rfl | rfl
      · exact hs (Cond.eq (.elem (Term.field (Term.string "SafeNet$Text" 101) "java/lang/String" "value" "[B") (.int 0)) (.int 97)) (by decide +kernel)
      · exact hs (Cond.eq (.elem (Term.field (Term.string "SafeNet$Text" 101) "java/lang/String" "value" "[B") (.int 1)) (.int 108)) (by decide +kernel)
      · exact hs (Cond.eq (.elem (Term.field (Term.string "SafeNet$Text" 101) "java/lang/String" "value" "[B") (.int 2)) (.int 108)) (by decide +kernel)
    · intro j hj
      have hj : j < 3 := hj
      rcases (show j = 0 ∨ j = 1 ∨ j = 2 by omega) with rfl | rfl | rfl
      · exact hs (Cond.eq (.elem (Term.field (Term.string "SafeNet$Text" 103) "java/lang/String" "value" "[B") (.int 0)) (.int 97)) (by decide +kernel)
      · exact hs (Cond.eq (.elem (Term.field (Term.string "SafeNet$Text" 103) "java/lang/String" "value" "[B") (.int 1)) (.int 110)) (by decide +kernel)
      · exact hs (Cond.eq (.elem (Term.field (Term.string "SafeNet$Text" 103) "java/lang/String" "value" "[B") (.int 2)) (.int 121)) (by decide +kernel)
    · intro j hj
      have hj : j < 4 := hj
      rcases (show j = 0 ∨ j = 1 ∨ j = 2 ∨ j = 3 by omega) with rfl | rfl | rfl | rfl
      · exact hs (Cond.eq (.elem (Term.field (Term.string "SafeNet$Text" 105) "java/lang/String" "value" "[B") (.int 0)) (.int 109)) (by decide +kernel)
      · exact hs (Cond.eq (.elem (Term.field (Term.string "SafeNet$Text" 105) "java/lang/String" "value" "[B") (.int 1)) (.int 111)) (by decide +kernel)
      · exact hs (Cond.eq (.elem (Term.field (Term.string "SafeNet$Text" 105) "java/lang/String" "value" "[B") (.int 2)) (.int 115)) (by decide +kernel)
      · exact hs (Cond.eq (.elem (Term.field (Term.string "SafeNet$Text" 105) "java/lang/String" "value" "[B") (.int 3)) (.int 116)) (by decide +kernel)
    · intro j hj
      have hj : j < 4 := hj
      rcases (show j = 0 ∨ j = 1 ∨ j = 2 ∨ j = 3 by omega) with rfl | rfl | rfl | rfl
      · exact hs (Cond.eq (.elem (Term.field (Term.string "SafeNet$Text" 107) "java/lang/String" "value" "[B") (.int 0)) (.int 108)) (by decide +kernel)
      · exact hs (Cond.eq (.elem (Term.field (Term.string "SafeNet$Text" 107) "java/lang/String" "value" "[B") (.int 1)) (.int 105)) (by decide +kernel)
      · exact hs (Cond.eq (.elem (Term.field (Term.string "SafeNet$Text" 107) "java/lang/String" "value" "[B") (.int 2)) (.int 107)) (by decide +kernel)
      · exact hs (Cond.eq (.elem (Term.field (Term.string "SafeNet$Text" 107) "java/lang/String" "value" "[B") (.int 3)) (.int 101)) (by decide +kernel)
  · intro i j hi hj hij
    rcases (show i = 0 ∨ i = 1 ∨ i = 2 ∨ i = 3 ∨ i = 4 ∨ i = 5 ∨ i = 6 ∨ i = 7 by omega) with rfl | rfl | rfl | rfl | rfl | rfl | rfl | rfl
    · rcases (show j = 0 ∨ j = 1 ∨ j = 2 ∨ j = 3 ∨ j = 4 ∨ j = 5 ∨ j = 6 ∨ j = 7 by omega) with rfl | rfl | rfl | rfl | rfl | rfl | rfl | rfl
      · exact absurd rfl hij
      · exact Or.inl (hs (Cond.not (Cond.eq (Term.string "SafeNet$Text" 32) (Term.string "SafeNet$Text" 42))) (by decide +kernel))
      · exact Or.inl (hs (Cond.not (Cond.eq (Term.string "SafeNet$Text" 32) (Term.string "SafeNet$Text" 44))) (by decide +kernel))
      · exact Or.inl (hs (Cond.not (Cond.eq (Term.string "SafeNet$Text" 32) (Term.string "SafeNet$Text" 49))) (by decide +kernel))
      · exact Or.inl (hs (Cond.not (Cond.eq (Term.string "SafeNet$Text" 32) (Term.string "SafeNet$Text" 101))) (by decide +kernel))
      · exact Or.inl (hs (Cond.not (Cond.eq (Term.string "SafeNet$Text" 32) (Term.string "SafeNet$Text" 103))) (by decide +kernel))
      · exact Or.inl (hs (Cond.not (Cond.eq (Term.string "SafeNet$Text" 32) (Term.string "SafeNet$Text" 105))) (by decide +kernel))
      · exact Or.inl (hs (Cond.not (Cond.eq (Term.string "SafeNet$Text" 32) (Term.string "SafeNet$Text" 107))) (by decide +kernel))
    · rcases (show j = 0 ∨ j = 1 ∨ j = 2 ∨ j = 3 ∨ j = 4 ∨ j = 5 ∨ j = 6 ∨ j = 7 by omega) with rfl | rfl | rfl | rfl | rfl | rfl | rfl | rfl
      · exact Or.inr (hs (Cond.not (Cond.eq (Term.string "SafeNet$Text" 32) (Term.string "SafeNet$Text" 42))) (by decide +kernel))
      · exact absurd rfl hij
      · exact Or.inl (hs (Cond.not (Cond.eq (Term.string "SafeNet$Text" 42) (Term.string "SafeNet$Text" 44))) (by decide +kernel))
      · exact Or.inl (hs (Cond.not (Cond.eq (Term.string "SafeNet$Text" 42) (Term.string "SafeNet$Text" 49))) (by decide +kernel))
      · exact Or.inl (hs (Cond.not (Cond.eq (Term.string "SafeNet$Text" 42) (Term.string "SafeNet$Text" 101))) (by decide +kernel))
      · exact Or.inl (hs (Cond.not (Cond.eq (Term.string "SafeNet$Text" 42) (Term.string "SafeNet$Text" 103))) (by decide +kernel))
      · exact Or.inl (hs (Cond.not (Cond.eq (Term.string "SafeNet$Text" 42) (Term.string "SafeNet$Text" 105))) (by decide +kernel))
      · exact Or.inl (hs (Cond.not (Cond.eq (Term.string "SafeNet$Text" 42) (Term.string "SafeNet$Text" 107))) (by decide +kernel))
    · rcases (show j = 0 ∨ j = 1 ∨ j = 2 ∨ j = 3 ∨ j = 4 ∨ j = 5 ∨ j = 6 ∨ j = 7 by omega) with rfl | rfl | rfl | rfl | rfl | rfl | rfl | rfl
      · exact Or.inr (hs (Cond.not (Cond.eq (Term.string "SafeNet$Text" 32) (Term.string "SafeNet$Text" 44))) (by decide +kernel))
      · exact Or.inr (hs (Cond.not (Cond.eq (Term.string "SafeNet$Text" 42) (Term.string "SafeNet$Text" 44))) (by decide +kernel))
      · exact absurd rfl hij
      · exact Or.inl (hs (Cond.not (Cond.eq (Term.string "SafeNet$Text" 44) (Term.string "SafeNet$Text" 49))) (by decide +kernel))
      · exact Or.inl (hs (Cond.not (Cond.eq (Term.string "SafeNet$Text" 44) (Term.string "SafeNet$Text" 101))) (by decide +kernel))
      · exact Or.inl (hs (Cond.not (Cond.eq (Term.string "SafeNet$Text" 44) (Term.string "SafeNet$Text" 103))) (by decide +kernel))
      · exact Or.inl (hs (Cond.not (Cond.eq (Term.string "SafeNet$Text" 44) (Term.string "SafeNet$Text" 105))) (by decide +kernel))
      · exact Or.inl (hs (Cond.not (Cond.eq (Term.string "SafeNet$Text" 44) (Term.string "SafeNet$Text" 107))) (by decide +kernel))
    · rcases (show j = 0 ∨ j = 1 ∨ j = 2 ∨ j = 3 ∨ j = 4 ∨ j = 5 ∨ j = 6 ∨ j = 7 by omega) with rfl | rfl | rfl | rfl | rfl | rfl | rfl | rfl
      · exact Or.inr (hs (Cond.not (Cond.eq (Term.string "SafeNet$Text" 32) (Term.string "SafeNet$Text" 49))) (by decide +kernel))
      · exact Or.inr (hs (Cond.not (Cond.eq (Term.string "SafeNet$Text" 42) (Term.string "SafeNet$Text" 49))) (by decide +kernel))
      · exact Or.inr (hs (Cond.not (Cond.eq (Term.string "SafeNet$Text" 44) (Term.string "SafeNet$Text" 49))) (by decide +kernel))
      · exact absurd rfl hij
      · exact Or.inl (hs (Cond.not (Cond.eq (Term.string "SafeNet$Text" 49) (Term.string "SafeNet$Text" 101))) (by decide +kernel))
      · exact Or.inl (hs (Cond.not (Cond.eq (Term.string "SafeNet$Text" 49) (Term.string "SafeNet$Text" 103))) (by decide +kernel))
      · exact Or.inl (hs (Cond.not (Cond.eq (Term.string "SafeNet$Text" 49) (Term.string "SafeNet$Text" 105))) (by decide +kernel))
      · exact Or.inl (hs (Cond.not (Cond.eq (Term.string "SafeNet$Text" 49) (Term.string "SafeNet$Text" 107))) (by decide +kernel))
    · rcases (show j = 0 ∨ j = 1 ∨ j = 2 ∨ j = 3 ∨ j = 4 ∨ j = 5 ∨ j = 6 ∨ j = 7 by omega) with rfl | rfl | rfl | rfl | rfl | rfl | rfl | rfl
      · exact Or.inr (hs (Cond.not (Cond.eq (Term.string "SafeNet$Text" 32) (Term.string "SafeNet$Text" 101))) (by decide +kernel))
      · exact Or.inr (hs (Cond.not (Cond.eq (Term.string "SafeNet$Text" 42) (Term.string "SafeNet$Text" 101))) (by decide +kernel))
      · exact Or.inr (hs (Cond.not (Cond.eq (Term.string "SafeNet$Text" 44) (Term.string "SafeNet$Text" 101))) (by decide +kernel))
      · exact Or.inr (hs (Cond.not (Cond.eq (Term.string "SafeNet$Text" 49) (Term.string "SafeNet$Text" 101))) (by decide +kernel))
      · exact absurd rfl hij
      · exact Or.inl (hs (Cond.not (Cond.eq (Term.string "SafeNet$Text" 101) (Term.string "SafeNet$Text" 103))) (by decide +kernel))
      · exact Or.inl (hs (Cond.not (Cond.eq (Term.string "SafeNet$Text" 101) (Term.string "SafeNet$Text" 105))) (by decide +kernel))
      · exact Or.inl (hs (Cond.not (Cond.eq (Term.string "SafeNet$Text" 101) (Term.string "SafeNet$Text" 107))) (by decide +kernel))
    · rcases (show j = 0 ∨ j = 1 ∨ j = 2 ∨ j = 3 ∨ j = 4 ∨ j = 5 ∨ j = 6 ∨ j = 7 by omega) with rfl | rfl | rfl | rfl | rfl | rfl | rfl | rfl
      · exact Or.inr (hs (Cond.not (Cond.eq (Term.string "SafeNet$Text" 32) (Term.string "SafeNet$Text" 103))) (by decide +kernel))
      · exact Or.inr (hs (Cond.not (Cond.eq (Term.string "SafeNet$Text" 42) (Term.string "SafeNet$Text" 103))) (by decide +kernel))
      · exact Or.inr (hs (Cond.not (Cond.eq (Term.string "SafeNet$Text" 44) (Term.string "SafeNet$Text" 103))) (by decide +kernel))
      · exact Or.inr (hs (Cond.not (Cond.eq (Term.string "SafeNet$Text" 49) (Term.string "SafeNet$Text" 103))) (by decide +kernel))
      · exact Or.inr (hs (Cond.not (Cond.eq (Term.string "SafeNet$Text" 101) (Term.string "SafeNet$Text" 103))) (by decide +kernel))
      · exact absurd rfl hij
      · exact Or.inl (hs (Cond.not (Cond.eq (Term.string "SafeNet$Text" 103) (Term.string "SafeNet$Text" 105))) (by decide +kernel))
      · exact Or.inl (hs (Cond.not (Cond.eq (Term.string "SafeNet$Text" 103) (Term.string "SafeNet$Text" 107))) (by decide +kernel))
    · rcases (show j = 0 ∨ j = 1 ∨ j = 2 ∨ j = 3 ∨ j = 4 ∨ j = 5 ∨ j = 6 ∨ j = 7 by omega) with rfl | rfl | rfl | rfl | rfl | rfl | rfl | rfl
      · exact Or.inr (hs (Cond.not (Cond.eq (Term.string "SafeNet$Text" 32) (Term.string "SafeNet$Text" 105))) (by decide +kernel))
      · exact Or.inr (hs (Cond.not (Cond.eq (Term.string "SafeNet$Text" 42) (Term.string "SafeNet$Text" 105))) (by decide +kernel))
      · exact Or.inr (hs (Cond.not (Cond.eq (Term.string "SafeNet$Text" 44) (Term.string "SafeNet$Text" 105))) (by decide +kernel))
      · exact Or.inr (hs (Cond.not (Cond.eq (Term.string "SafeNet$Text" 49) (Term.string "SafeNet$Text" 105))) (by decide +kernel))
      · exact Or.inr (hs (Cond.not (Cond.eq (Term.string "SafeNet$Text" 101) (Term.string "SafeNet$Text" 105))) (by decide +kernel))
      · exact Or.inr (hs (Cond.not (Cond.eq (Term.string "SafeNet$Text" 103) (Term.string "SafeNet$Text" 105))) (by decide +kernel))
      · exact absurd rfl hij
      · exact Or.inl (hs (Cond.not (Cond.eq (Term.string "SafeNet$Text" 105) (Term.string "SafeNet$Text" 107))) (by decide +kernel))
    · rcases (show j = 0 ∨ j = 1 ∨ j = 2 ∨ j = 3 ∨ j = 4 ∨ j = 5 ∨ j = 6 ∨ j = 7 by omega) with rfl | rfl | rfl | rfl | rfl | rfl | rfl | rfl
      · exact Or.inr (hs (Cond.not (Cond.eq (Term.string "SafeNet$Text" 32) (Term.string "SafeNet$Text" 107))) (by decide +kernel))
      · exact Or.inr (hs (Cond.not (Cond.eq (Term.string "SafeNet$Text" 42) (Term.string "SafeNet$Text" 107))) (by decide +kernel))
      · exact Or.inr (hs (Cond.not (Cond.eq (Term.string "SafeNet$Text" 44) (Term.string "SafeNet$Text" 107))) (by decide +kernel))
      · exact Or.inr (hs (Cond.not (Cond.eq (Term.string "SafeNet$Text" 49) (Term.string "SafeNet$Text" 107))) (by decide +kernel))
      · exact Or.inr (hs (Cond.not (Cond.eq (Term.string "SafeNet$Text" 101) (Term.string "SafeNet$Text" 107))) (by decide +kernel))
      · exact Or.inr (hs (Cond.not (Cond.eq (Term.string "SafeNet$Text" 103) (Term.string "SafeNet$Text" 107))) (by decide +kernel))
      · exact Or.inr (hs (Cond.not (Cond.eq (Term.string "SafeNet$Text" 105) (Term.string "SafeNet$Text" 107))) (by decide +kernel))
      · exact absurd rfl hij
theorem zisref {args : Array Value} {s : State} {t : Term} (h : (Cond.isRef t).before args s = true) : t.eval args s none [] s = some .null ∨ ∃ a, t.eval args s none [] s = some (.ref a) := by
  cases hv : t.eval args s none [] s with
  | none => simp [Cond.before, Cond.holds, Cond.value, hv] at h
  | some v =>
    cases v <;> simp [Cond.before, Cond.holds, Cond.value, hv, Value.isRef] at h ⊢
theorem zEx_start {args : Array Value} {s : State} {A : Nat → Prop} (hs : ∀ w ∈ flatC (Jvm.Cond.and given_1 narrow_1), w.before args s = true) (hts : ∀ w ∈ lw_tbl, w.before args s = true) (hA : ∀ a : Nat, a < s.heap.size → ¬ A a) : ∃ xa : Nat → Nat, zEx xa A s := by
  obtain ⟨t0, a1, a2⟩ := zst0 (A := A) hs (hts (.laysStatic "SafeNet$Weights" "WORLDS_WITH" "[I") (List.mem_of_getElem? (i := 868) (by decide +kernel))) (hts (.initialized "SafeNet$Weights") (List.mem_of_getElem? (i := 142) (by decide +kernel))) hA
  obtain ⟨t1, b1, b2⟩ := zst1 (A := A) hs (hts (.laysStatic "SafeNet$Net" "DOUBTS_BY_FORM" "[I") (List.mem_of_getElem? (i := 615) (by decide +kernel))) (hts (.initialized "SafeNet$Net") (List.mem_of_getElem? (i := 140) (by decide +kernel))) hA
  obtain ⟨t2, c1, c2⟩ := zst2 (A := A) hs (hts (.laysStatic "SafeNet$Net" "KINDS_ABOVE" "[I") (List.mem_of_getElem? (i := 960) (by decide +kernel))) (hts (.initialized "SafeNet$Net") (List.mem_of_getElem? (i := 140) (by decide +kernel))) hA
  obtain ⟨adK, adV, hS, hR⟩ := zstS (A := A) hs hA
  have d1 := va_Zof (hts (.laysStatic "java/lang/String" "COMPACT_STRINGS" "Z") (List.mem_of_getElem? (i := 531) (by decide +kernel))) (hts (.initialized "java/lang/String") (List.mem_of_getElem? (i := 148) (by decide +kernel))) (va_eqt (hs (Cond.eq (.static "java/lang/String" "COMPACT_STRINGS" "Z") (.int 1)) (by decide +kernel))) hA
  have d2 : va_Zq "jdk/internal/util/Preconditions" "SIOOBE_FORMATTER" "Ljava/util/function/BiFunction;" A s s.heap := by
    rcases zisref (hs (Cond.isRef (.static "jdk/internal/util/Preconditions" "SIOOBE_FORMATTER" "Ljava/util/function/BiFunction;")) (by decide +kernel)) with h | ⟨a, h⟩
    · exact Or.inl (va_Zof (hts (.laysStatic "jdk/internal/util/Preconditions" "SIOOBE_FORMATTER" "Ljava/util/function/BiFunction;") (List.mem_of_getElem? (i := 547) (by decide +kernel))) (hts (.initialized "jdk/internal/util/Preconditions") (List.mem_of_getElem? (i := 150) (by decide +kernel))) h hA)
    · exact Or.inr ⟨a, va_Zof (hts (.laysStatic "jdk/internal/util/Preconditions" "SIOOBE_FORMATTER" "Ljava/util/function/BiFunction;") (List.mem_of_getElem? (i := 547) (by decide +kernel))) (hts (.initialized "jdk/internal/util/Preconditions") (List.mem_of_getElem? (i := 150) (by decide +kernel))) h hA⟩
  refine ⟨fun k => if k < 10 then [t0, t1, t2].getD k 0 else if k < 20 then adK (k - 10) else adV (k - 20), ⟨a1, a2⟩, ⟨b1, b2⟩, ⟨c1, c2⟩, ⟨d1, d2⟩, ?_, ?_⟩
  · have eK : ∀ i, i < 8 → (if 10 + i < 10 then [t0, t1, t2].getD (10 + i) 0 else if 10 + i < 20 then adK (10 + i - 10) else adV (10 + i - 20)) = adK i := fun i hi => by
      rw [if_neg (by omega), if_pos (by omega), Nat.add_sub_cancel_left]
    have eV : ∀ i, i < 8 → (if 20 + i < 10 then [t0, t1, t2].getD (20 + i) 0 else if 20 + i < 20 then adK (20 + i - 10) else adV (20 + i - 20)) = adV i := fun i hi => by
      rw [if_neg (by omega), if_neg (by omega), Nat.add_sub_cancel_left]
    refine ⟨fun i hi => ?_, fun i j hi hj h => ?_⟩
    · have h9 := hS.1 i hi
      rw [← eK i hi, ← eV i hi] at h9
      exact h9
    · refine hS.2 i j hi hj ?_
      rw [← eK i hi, ← eK j hj]
      exact h
  · intro i hi
    have eK : (if 10 + i < 10 then [t0, t1, t2].getD (10 + i) 0 else if 10 + i < 20 then adK (10 + i - 10) else adV (10 + i - 20)) = adK i := by
      rw [if_neg (by omega), if_pos (by omega), Nat.add_sub_cancel_left]
    have h9 : ∀ i, i < 8 → (Cond.stringRef "SafeNet$Text" (zSpool i) (zStext i)).before args s = true := by
      intro i hi
      rcases (show i = 0 ∨ i = 1 ∨ i = 2 ∨ i = 3 ∨ i = 4 ∨ i = 5 ∨ i = 6 ∨ i = 7 by omega) with rfl | rfl | rfl | rfl | rfl | rfl | rfl | rfl
      · exact hts (.stringRef "SafeNet$Text" 32 "leaf") (List.mem_of_getElem? (i := 517) (by decide +kernel))
      · exact hts (.stringRef "SafeNet$Text" 42 "given") (List.mem_of_getElem? (i := 582) (by decide +kernel))
      · exact hts (.stringRef "SafeNet$Text" 44 "claim") (List.mem_of_getElem? (i := 583) (by decide +kernel))
      · exact hts (.stringRef "SafeNet$Text" 49 "step") (List.mem_of_getElem? (i := 588) (by decide +kernel))
      · exact hts (.stringRef "SafeNet$Text" 101 "all") (List.mem_of_getElem? (i := 597) (by decide +kernel))
      · exact hts (.stringRef "SafeNet$Text" 103 "any") (List.mem_of_getElem? (i := 598) (by decide +kernel))
      · exact hts (.stringRef "SafeNet$Text" 105 "most") (List.mem_of_getElem? (i := 599) (by decide +kernel))
      · exact hts (.stringRef "SafeNet$Text" 107 "like") (List.mem_of_getElem? (i := 600) (by decide +kernel))
    show vk_R _ _ _ (if 10 + i < 10 then _ else _) s
    rw [eK]
    exact vk_R.of (h9 i hi) (hR i hi)
theorem zlwg_sub {w : Cond} (h : w ∈ zlwg) : w ∈ lw_tbl := (List.mem_filter.mp h).1
theorem zca_start {args : Array Value} {s : State} {D : va_G} (hcl : ∀ (c : Nat) (q : vw_C), vwCl[c]? = some q → u_Kn s q.1 q.2.1 q.2.2 (D.1 c) (D.2 c)) (hts : ∀ w ∈ lw_tbl, w.before args s = true) : ∃ ca : Nat → ClassId, va_K D vwCl (ztys ca) s := by
  have hp : ∀ ty : FieldType, va_RA s = va_RA s → (Cond.arrayClass ty).before args s = true → ∃ c k comp, s.vm.findClass ("[" ++ ty.toString) = some c ∧ s.vm.classes[c]? = some k ∧ k.kind = .array comp ty := fun ty _ h => Cond.arrayClass_spec h
  obtain ⟨c0, k0, m0, f0, g0, e0⟩ := hp .int rfl (hts _ (zlwg_sub n_arrI))
  obtain ⟨c1, k1, m1, f1, g1, e1⟩ := hp .byte rfl (hts _ (zlwg_sub n_arrB))
  obtain ⟨c2, k2, m2, f2, g2, e2⟩ := hp .long rfl (hts _ (zlwg_sub n_arrJ))
  obtain ⟨c3, k3, m3, f3, g3, e3⟩ := hp .boolean rfl (hts _ (zlwg_sub n_arrZ))
  obtain ⟨c4, k4, m4, f4, g4, e4⟩ : ∃ c k comp, s.vm.findClass ("[" ++ (FieldType.array .long).toString) = some c ∧ s.vm.classes[c]? = some k ∧ k.kind = .array comp (.array .long) := by
    have h : (Cond.arrayOver (.array .long)).before args s = true := hts _ (List.mem_of_getElem? (i := 316) (by decide +kernel))
    simp only [Cond.before, Cond.holds, Cond.value, beq_iff_eq] at h
    cases hc : s.vm.findClass (FieldType.array .long).toString with
    | none => rw [hc] at h; simp at h
    | some comp =>
      rw [hc] at h
      simp only [Option.bind_some, Option.bind_eq_some_iff, Option.map_eq_some_iff] at h
      obtain ⟨c, hi, k, hk, hb⟩ := h
      cases hkind : k.kind with
      | array component ty =>
        rw [hkind] at hb
        simp only [Bool.and_eq_true, decide_eq_true_eq] at hb
        exact ⟨c, k, component, hb.2, hk, by rw [hkind, hb.1]⟩
      | _ => rw [hkind] at hb; simp at hb
  refine ⟨fun i => [c0, c1, c2, c3, c4].getD i 0, hcl, fun k q hq => ?_⟩
  match k, hq with
  | 0, hq => cases hq; exact ⟨fun n z => ⟨(fun k h => by cases h), k0, g0, m0, e0⟩, f0⟩
  | 1, hq => cases hq; exact ⟨fun n z => ⟨(fun k h => by cases h), k1, g1, m1, e1⟩, f1⟩
  | 2, hq => cases hq; exact ⟨fun n z => ⟨(fun k h => by cases h), k2, g2, m2, e2⟩, f2⟩
  | 3, hq => cases hq; exact ⟨fun n z => ⟨(fun k h => by cases h), k3, g3, m3, e3⟩, f3⟩
  | 4, hq => cases hq; exact ⟨fun n z => ⟨(fun k h => by cases h), k4, g4, m4, e4⟩, f4⟩
  | k + 5, hq => simp [ztys] at hq
theorem zD_nil {A : Nat → Prop} : va_D A [] := ⟨fun i j p q h => by simp at h, fun k q h => by simp at h⟩
/-- what is owed of the functions: from the start the law's loop comes to 1 -/
def zOwed : Prop := ∀ (xs : Nat → Int32) (L : Nat), L ≤ 3072 → ∃ (N n : Nat) (τ : zSt × zSt), fL_18 N xs L n 0 zC0 zM0 = some (1, τ)
set_option maxRecDepth 100000 in
set_option maxHeartbeats 4000000 in
theorem whole_start_open (hpure : zOwed) {p : Program} {e : Env} {s : State} {m : MethodId} {below : List Frame} {meth : Method} {c : Code} (l : Launch) {b L : Nat} {xs : Nat → Int32} (hL : L ≤ 3072) (C0 : lw_At p s m meth c b L xs) : W p l e room_1 s m #[Value.ref b] below meth c s.heap [] 0 0 (lw_Z below #[Value.ref b] s) (entryFrame m ([Value.ref b] : List Value).toArray 4) := by
  obtain ⟨hx, hb, hr, hml, hown, hts, hX, hbl, hlocks, hgv⟩ := id C0
  obtain ⟨N, n, τ0, hfun⟩ := hpure xs L hL
  have hs := flat_of_before _ hgv
  have hAn : ∀ a : Nat, a < s.heap.size → ¬ (fun q : Nat => s.heap.size ≤ q) a := fun a h => Nat.not_le.mpr h
  obtain ⟨c0, iS0, hKn0⟩ := u_known (C := RX0) (T := TX0) (N := 3) (n := 3) hts (fun w hw => zlwg_sub (zinX0 w hw)) (hts (.instantiable RX0 3) (List.mem_of_getElem? (i := 371) (by decide +kernel)))
  obtain ⟨c1, iS1, hKn1⟩ := u_known (C := RX1) (T := TX1) (N := 6) (n := 6) hts (fun w hw => zlwg_sub (zinX1 w hw)) (hts (.instantiable RX1 6) (List.mem_of_getElem? (i := 279) (by decide +kernel)))
  obtain ⟨c2, iS2, hKn2⟩ := u_known (C := RX2) (T := TX2) (N := 16) (n := 16) hts (fun w hw => zlwg_sub (zinX2 w hw)) (hts (.instantiable RX2 16) (List.mem_of_getElem? (i := 207) (by decide +kernel)))
  obtain ⟨c3, iS3, hKn3⟩ := u_known (C := RX3) (T := TX3) (N := 3) (n := 3) hts (fun w hw => zlwg_sub (zinX3 w hw)) (hts (.instantiable RX3 3) (List.mem_of_getElem? (i := 162) (by decide +kernel)))
  obtain ⟨c4, iS4, hKn4⟩ := u_known (C := RX4) (T := TX4) (N := 6) (n := 6) hts (fun w hw => zlwg_sub (zinX4 w hw)) (hts (.instantiable RX4 6) (List.mem_of_getElem? (i := 310) (by decide +kernel)))
  obtain ⟨c5, iS5, hKn5⟩ := u_known (C := RX5) (T := TX5) (N := 6) (n := 6) hts (fun w hw => zlwg_sub (zinX5 w hw)) (hts (.instantiable RX5 6) (List.mem_of_getElem? (i := 179) (by decide +kernel)))
  obtain ⟨c6, iS6, hKn6⟩ := u_known (C := RX6) (T := TX6) (N := 9) (n := 9) hts (fun w hw => zlwg_sub (zinX6 w hw)) (hts (.instantiable RX6 9) (List.mem_of_getElem? (i := 304) (by decide +kernel)))
  obtain ⟨c7, iS7, hKn7⟩ := u_known (C := RX7) (T := TX7) (N := 8) (n := 8) hts (fun w hw => zlwg_sub (zinX7 w hw)) (hts (.instantiable RX7 8) (List.mem_of_getElem? (i := 154) (by decide +kernel)))
  obtain ⟨c8, iS8, hKn8⟩ := u_known (C := RX8) (T := TX8) (N := 46) (n := 46) hts (fun w hw => zlwg_sub (zinX8 w hw)) (hts (.instantiable RX8 46) (List.mem_of_getElem? (i := 1048) (by decide +kernel)))
  obtain ⟨D, hcl⟩ : ∃ D : va_G, ∀ (k : Nat) (q : vw_C), vwCl[k]? = some q → u_Kn s q.1 q.2.1 q.2.2 (D.1 k) (D.2 k) := by
    refine ⟨(fun k => [c0, c1, c2, c3, c4, c5, c6, c7, c8].getD k c0, fun k => [iS0, iS1, iS2, iS3, iS4, iS5, iS6, iS7, iS8].getD k iS0), ?_⟩
    intro k q hq
    match k, hq with
    | 0, hq => cases hq; exact hKn0
    | 1, hq => cases hq; exact hKn1
    | 2, hq => cases hq; exact hKn2
    | 3, hq => cases hq; exact hKn3
    | 4, hq => cases hq; exact hKn4
    | 5, hq => cases hq; exact hKn5
    | 6, hq => cases hq; exact hKn6
    | 7, hq => cases hq; exact hKn7
    | 8, hq => cases hq; exact hKn8
    | k + 9, hq => simp [vwCl] at hq
  obtain ⟨ca, hK⟩ := zca_start hcl hts
  obtain ⟨xa, hE⟩ := zEx_start (A := fun q : Nat => s.heap.size ≤ q) hs hts hAn
  have hnest : ∀ w ∈ znest, va_Nw w s := fun w hw => by
    obtain ⟨h1, h2⟩ := List.mem_filter.mp hw
    have h3 := hts w h1
    cases w <;> first | (exact va_Nw.of rfl h3) | (simp [znestW] at h2)
  have hO : va_AOA .long s := va_AOA.of (hts _ (List.mem_of_getElem? (i := 316) (by decide +kernel)))
  have hc : zCx p s m #[Value.ref b] meth c code 4 RL D ca xa (fun q : Nat => s.heap.size ≤ q) (zlwA (fun q : Nat => s.heap.size ≤ q)) :=
    ⟨hx, hb, hml, hown, fun w hw => hts w (zlwg_sub hw), hlocks, fun _ h => h, hK, fun σ => σ.2, hnest, hE⟩
  have hl := lv_entry ([.ref b]) (n := 4) (Nat.le_of_ble_eq_true rfl)
  rw [lg_entry_eq]
  generalize (lg_sl ([.ref b]) ++ List.replicate (4 - (lg_sl ([.ref b])).length) Slot.unset).toArray = ls at hl ⊢
  have hl : lv_has ls 4 [(0, .ref b)] := hl
  have hgo : zGO p l e room_1 s m #[Value.ref b] below meth c 0 0 (zlwA (fun q : Nat => s.heap.size ≤ q)) D (fun q : Nat => s.heap.size ≤ q) 4 (fun (_ : Unit) (_ : zSA (fun q : Nat => s.heap.size ≤ q)) => lw_Z below #[Value.ref b] s) (some ((), ⟨[], zD_nil⟩)) ⟨[], zD_nil⟩ 0 [(0, .ref b)] [] := by
    refine n_newc (C := RX7) (T := TX7) (N := 8) (ci := 7) (wf := fun q => [] ++ [(q, .inr (7, [.null, .null, .null, .null, .null, .null, .int 0, .int 0]))]) hc zinX7 tyX7 tyX7_ok knL_7 rfl [.null, .null, .null, .null, .null, .null, .int 0, .int 0] (by decide +kernel) ⟨Nat.le_of_ble_eq_true rfl, Nat.le_of_ble_eq_true rfl⟩ dL_law_0 (fun _ => rfl) (fun q0 hD => ?_)
    refine z_dup hc dL_law_3 rfl ?_
    refine n_callI (wr := []) (rest := [.ref q0]) hc hO rfl (fun A1 h1 => tX7_init h1) mpX7_init rfl miX7_init kmL_9 ⟨rfl, rfl, Nat.le_of_ble_eq_true rfl, Nat.le_of_ble_eq_true rfl⟩ ⟨Nat.le_of_ble_eq_true rfl, Nat.le_of_ble_eq_true rfl⟩ (Nat.le_of_ble_eq_true rfl) dL_law_4 (fun w1 hB1 hD => ?_)
    obtain ⟨ad, had, rfl⟩ := zBX7_lay hB1
    refine n_cs (ce := 50) (sl := 1361) rfl rfl ?_
    refine n_eq (ws' := zwC ad ca zC0) rfl (fun hD => ?_)
    refine z_astore_n (lv' := [(1, .ref q0), (0, .ref b)]) hc dL_law_7 rfl (by decide) rfl ?_
    refine n_newc (C := RX8) (T := TX8) (N := 46) (ci := 8) (wf := fun q => zwC ad ca zC0 ++ [(q, .inr (8, [.int 0, .int 0, .null, .null, .null, .int 0, .int 0, .int 0, .int 0, .null, .null, .null, .null, .null, .null, .null, .null, .null, .null, .null, .int 0, .int 0, .int 0, .int 0, .int 0, .int 0, .int 0, .int 0, .int 0, .int 0, .int 0, .int 0, .null, .null, .null, .null, .int 0, .int 0, .long 0, .null, .null, .null, .long 0, .long 0, .null, .int 0]))]) hc zinX8 tyX8 tyX8_ok knL_10 rfl [.int 0, .int 0, .null, .null, .null, .int 0, .int 0, .int 0, .int 0, .null, .null, .null, .null, .null, .null, .null, .null, .null, .null, .null, .int 0, .int 0, .int 0, .int 0, .int 0, .int 0, .int 0, .int 0, .int 0, .int 0, .int 0, .int 0, .null, .null, .null, .null, .int 0, .int 0, .long 0, .null, .null, .null, .long 0, .long 0, .null, .int 0] (by decide +kernel) ⟨Nat.le_of_ble_eq_true rfl, Nat.le_of_ble_eq_true rfl⟩ dL_law_8 (fun _ => rfl) (fun q1 hD => ?_)
    refine z_dup hc dL_law_11 rfl ?_
    refine n_callI (wr := zwC ad ca zC0) (rest := [.ref q1]) hc hO (by rw [zlay_len]; rfl) (fun A1 h1 => tX8_init h1) mpX8_init rfl miX8_init kmL_12 ⟨rfl, rfl, Nat.le_of_ble_eq_true rfl, Nat.le_of_ble_eq_true rfl⟩ ⟨Nat.le_of_ble_eq_true rfl, Nat.le_of_ble_eq_true rfl⟩ (Nat.le_of_ble_eq_true rfl) dL_law_12 (fun w2 hB2 hD => ?_)
    obtain ⟨am, ham, rfl⟩ := zBX8_lay hB2
    refine n_cs (ce := 73) (sl := 2606) rfl rfl ?_
    refine z_astore_n (lv' := [(2, .ref q1), (1, .ref q0), (0, .ref b)]) hc dL_law_15 rfl (by decide) rfl ?_
    refine z_iconst (v := (0 : Int32)) hc dL_law_16 (by decide) ?_
    refine z_istore_n (lv' := [(3, .int (0 : Int32)), (2, .ref q1), (1, .ref q0), (0, .ref b)]) hc dL_law_17 rfl (by decide) rfl ?_
    have hc2 : zCx p s m #[Value.ref b] meth c code 4 RL D ca xa (fun q : Nat => s.heap.size ≤ q) (zw2 ad am ca) :=
      ⟨hx, hb, hml, hown, fun w hw => hts w (zlwg_sub hw), hlocks, fun _ h => h, hK, fun σ => zw2_D (σ := (zC0, zM0)) hD σ, hnest, hE⟩
    have hW := tL_18 (l := l) (e := e) (below := below) (L := L) (xs := xs) hc2 ⟨hr, by decide, by decide⟩ ⟨hX, hbl, hAn b hbl⟩ N n 0 zC0 zM0
    rw [hfun] at hW
    intro a τ _ H locs ls hP hS hl
    have hl2 : lv_has ls 4 [(0, .ref b), (1, .ref (ad 0)), (2, .ref (am 0)), (3, .int 0)] := by rw [had, ham]; exact lv_sub hl [3, 2, 1, 0] rfl
    intro T hT X
    obtain ⟨t, a1, b1⟩ := hW 1 τ0 rfl H locs ls hP hS hl2 T hT X
    exact ⟨t, a1, b1 rfl⟩
  exact hgo () ⟨[], zD_nil⟩ rfl s.heap [] ls (fun k q h => by change ([] : va_W)[k]? = some q at h; simp at h) va_S.rf hl
