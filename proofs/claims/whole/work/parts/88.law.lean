def R_law : String := "SafeNetLaw"
def lw_P (b : Addr) (xs : List Int32) (args : Array Value) (s : State) : Prop := args = #[.ref b] ∧ s.IntsAt b xs ∧ xs.length ≤ 3072 ∧ (Jvm.Cond.and given_1 narrow_1).before args s = true
def lw_Q (_ : Array Value) (s : State) (o : Outcome) (t : State) : Prop := o = .returned (some (.int 1)) ∧ Framed s o t [] 600000 7302250
def lw_Z (below : List Frame) (a : Array Value) (s : State) : State → Prop := fun t => ∃ o, t.status = .running ∧ Ended t below o ∧ lw_Q a s o t
/-- the law's own end, with 1 on the stack, nothing written that was there before, its room as the claim has it -/
theorem lw_ret {p : Program} {l : Launch} {e : Env} {s : State} {m : MethodId} {below : List Frame} {meth : Method} {c : Code} {b : Nat} (hx : p.tables.exec = Jvm.exec) (hb : c.code = code) (hr : meth.sig.returnType = ret) (hlocks : meth.locks = false) {pc : Nat} {H : Heap} {ls : Array Slot} (hdg : decode code pc = .ok (.ireturn, 1)) : W p l e room_1 s m #[Value.ref b] below meth c H [] 600000 7302250 (lw_Z below #[Value.ref b] s) (F0 m pc ls [.int 1]) := by
  intro T hT X
  obtain ⟨fs, hret, hrun, hended, hW, hframe⟩ := X.leave (v := some (.int 1)) (hlocks := hlocks) (fun h => by rw [hr] at h; cases h)
  have hmeth' : T.vm.method? m = some meth := X.method'
  refine ⟨T.setFrames fs, ?_, .returned (some (.int 1)), hrun, hended, rfl, ⟨_, rfl⟩, hW, hframe⟩
  jvm_step X.here [X.here.top, hx, hb, hdg, hmeth', hr, ret, narrow_b1]
  (try refine ⟨rfl, ?_⟩); (try refine ⟨rfl, ?_⟩)
  first | (intro acts; rw [hret _ acts rfl rfl rfl]) | rw [hret _ _ rfl rfl rfl]
  exact Steps.refl _
/-- what holds at the law's entry: the machine, the code, the tables' words (any of lw_tbl by 'hts w (by decide +kernel)'), the script of L ints xs at the cell b, what the Statement gives of the start (any of its parts by flat_of_before) -/
def lw_At (p : Program) (s : State) (m : MethodId) (meth : Method) (c : Code) (b L : Nat) (xs : Nat → Int32) : Prop :=
  p.tables.exec = Jvm.exec ∧ c.code = code ∧ meth.sig.returnType = ret ∧ c.maxLocals = 4 ∧ s.vm.findClass R_law = some m.cls ∧ (∀ w ∈ lw_tbl, w.before #[Value.ref b] s = true) ∧ va_X b L xs s s.heap ∧ b < s.heap.size ∧ meth.locks = false ∧ (Jvm.Cond.and given_1 narrow_1).before #[Value.ref b] s = true

abbrev zw2 (ad am : Nat → Nat) (ca : Nat → ClassId) : zSt × zSt → va_W := fun σ => zwC ad ca σ.1 ++ zwM am ca σ.2
theorem zlay_fst {cl : zSh} {n : Nat} {ad : Nat → Nat} (hcl : ∀ k f g, (cl k f g).1 = ad k) (σ : zSt) : (zlay cl n σ).map Prod.fst = (List.range n).map ad := by
  unfold zlay
  rw [List.map_map]
  apply List.map_congr_left
  intro k _
  exact hcl k _ _
theorem zw2_D {A : Nat → Prop} {ad am : Nat → Nat} {ca : Nat → ClassId} {σ : zSt × zSt} (h : va_D A (zw2 ad am ca σ)) (τ : zSt × zSt) : va_D A (zw2 ad am ca τ) := by
  refine va_D_congr ?_ h
  simp only [zw2, List.map_append, zlay_fst (zcC_ad ad ca), zlay_fst (zcM_ad am ca)]
/-- two lots of cells: what works on one leaves the other -/
theorem zkeep {D : va_G} {A : Nat → Prop} {wa wb : va_W} {H H1 : Heap} (hP : va_P D vwCl wb H) (hx : ∀ (i j : Nat) (x y : Nat × va_E), wa[i]? = some x → wb[j]? = some y → x.1 ≠ y.1) (hk : ∀ q : Nat, q < H.size → ¬ va_A wa H.size q → H1[q]? = H[q]?) : va_P D vwCl wb H1 := by
  intro k q hq
  have hl := (hP k q hq).lt
  refine (hP k q hq).kept (hk q.1 hl ?_)
  rintro (⟨i, e, hi⟩ | h)
  · exact hx i k (q.1, e) q hi hq rfl
  · omega
theorem zapart {A : Nat → Prop} {wa wb : va_W} (hD : va_D A (wa ++ wb)) : ∀ (i j : Nat) (x y : Nat × va_E), wa[i]? = some x → wb[j]? = some y → x.1 ≠ y.1 := by
  intro i j x y hi hj hxy
  have h1 : i < wa.length := (List.getElem?_eq_some_iff.mp hi).1
  have := hD.1 i (wa.length + j) x y (by rw [List.getElem?_append_left h1]; exact hi) (by rw [List.getElem?_append_right (Nat.le_add_right _ _), Nat.add_sub_cancel_left]; exact hj) hxy
  omega
theorem zPl {D : va_G} {wa wb : va_W} {H : Heap} (h : va_P D vwCl (wa ++ wb) H) : va_P D vwCl wa H := fun k q hq => h k q (by rw [List.getElem?_append_left (List.getElem?_eq_some_iff.mp hq).1]; exact hq)
theorem zPr {D : va_G} {wa wb : va_W} {H : Heap} (h : va_P D vwCl (wa ++ wb) H) : va_P D vwCl wb H := fun k q hq => h (wa.length + k) q (by rw [List.getElem?_append_right (Nat.le_add_right _ _), Nat.add_sub_cancel_left]; exact hq)
theorem zDl {A : Nat → Prop} {wa wb : va_W} (h : va_D A (wa ++ wb)) : va_D A wa :=
  ⟨fun i j x y hi hj hxy => h.1 i j x y (by rw [List.getElem?_append_left (List.getElem?_eq_some_iff.mp hi).1]; exact hi) (by rw [List.getElem?_append_left (List.getElem?_eq_some_iff.mp hj).1]; exact hj) hxy, fun k q hq => h.2 k q (by rw [List.getElem?_append_left (List.getElem?_eq_some_iff.mp hq).1]; exact hq)⟩
theorem zDr {A : Nat → Prop} {wa wb : va_W} (h : va_D A (wa ++ wb)) : va_D A wb := by
  have e : ∀ (i : Nat) (x : Nat × va_E), wb[i]? = some x → (wa ++ wb)[wa.length + i]? = some x := fun i x hi => by rw [List.getElem?_append_right (Nat.le_add_right _ _), Nat.add_sub_cancel_left]; exact hi
  refine ⟨fun i j x y hi hj hxy => ?_, fun k q hq => h.2 _ q (e k q hq)⟩
  have := h.1 _ _ x y (e i x hi) (e j y hj) hxy
  omega
section zLaw
variable {p : Program} {l : Launch} {e : Env} {R : Room} {s : State} {m : MethodId} {args : Array Value} {below : List Frame} {meth : Method} {c : Code} {cells slots : Nat}
variable {α : Type} {D : va_G} {ca : Nat → ClassId} {xa ad am : Nat → Nat} {A : Nat → Prop} {nL : Nat} {Qf : α → zSt × zSt → State → Prop} {cc : ByteArray} {own : String}
variable {o : Option (α × (zSt × zSt))} {σc σm : zSt} {pc : Nat} {lv : List (Nat × Value)} {st : List Value}
theorem z_callC (hc : zCx p s m args meth c cc nL own D ca xa A (zw2 ad am ca)) {o' : Option (Int32 × zSt)} {k : Int32 → zSt → Option (α × (zSt × zSt))} {rest As : List Value} {y : MethodName} {cc2 : ByteArray} {nL2 idx : Nat} {ret2 : Option FieldType} {rm2 : Room} (d : decode cc pc = .ok (.invokevirtual idx, 3)) (hct : ∀ (A1 : Nat → Prop) (b : Int32) (τ : zSt), o' = some (b, τ) → zCt l y cc2 nL2 ret2 rm2 D ca xa A1 (zwC ad ca) (.ref (ad 0) :: As) σc (zI b) τ) (hy : y.cls = RX7) (hp : zMp y cc2 nL2 ret2 As.length) (hi : Cond.instanceMethod y ∈ zlwg ∧ Cond.selects y.cls y y ∈ zlwg) (hlk : Cond.methodLink own idx y ∈ zlwg) (hrm : rm2.cells = 0 ∧ rm2.slots = 0 ∧ rm2.frames + 1 ≤ R.frames ∧ 8 + (nL2 + 11) + rm2.locals ≤ R.locals) (hcs : cells ≤ R.cells ∧ slots ≤ R.slots) (hst : st = As.reverse ++ .ref (ad 0) :: rest) (hcat : (rest.map fun v => v.category).sum ≤ 8)
    (kk : ∀ (b : Int32) (τ : zSt), zGO p l e R s m args below meth c (cells) (slots) (zw2 ad am ca) D A nL Qf (k b τ) (τ, σm) (pc + 3) lv (.int b :: rest)) : zGO p l e R s m args below meth c (cells) (slots) (zw2 ad am ca) D A nL Qf (zbnd o' k) (σc, σm) (pc) lv (st) := by
  intro a τ h H locs ls hP hS hl
  subst hst
  cases ho : o' with
  | none => rw [ho] at h; cases h
  | some bt =>
    obtain ⟨b, τ1⟩ := bt
    rw [ho] at h
    have h' : k b τ1 = some (a, τ) := h
    have hAll : va_D A (zwC ad ca σc ++ zwM am ca σm) := hc.2.2.2.2.2.2.2.2.1 (σc, σm)
    have hP : va_P D vwCl (zwC ad ca σc ++ zwM am ca σm) H := hP
    have hsub : ∀ q, va_A (zwC ad ca σc) H.size q → A q := by
      rintro q (⟨k, e, hk⟩ | hq)
      · exact (zDl hAll).2 k _ hk
      · exact hc.2.2.2.2.2.2.1 q (Nat.le_trans hS.1 hq)
    have hD1 : ∀ σ', va_D (va_A (zwC ad ca σc) H.size) (zwC ad ca σ') := fun σ' => va_D_congr (by rw [zlay_fst (zcC_ad ad ca), zlay_fst (zcC_ad ad ca)]) ((zDl hAll).self (sz := H.size))
    have hpre : ∀ U : State, U.heap = H → s.WarmedH U.vm → zPre D ca xa (va_A (zwC ad ca σc) H.size) (zwC ad ca) σc U := fun U hU hW =>
      ⟨fun q hq => Or.inr (by rw [← hU]; exact hq), by rw [hU]; exact zPl hP, ((hc.2.2.2.2.2.2.2).at hW (fun a h1 h2 => by rw [hU]; exact hS.2.1 a h1 h2)).part hsub hD1⟩
    obtain ⟨q0, ci, fs, T0, N0, hq, hcl⟩ := zcC_rc0 (ad := ad) (ca := ca) (σ := σc)
    have hrv := va_recv hc.2.2.2.2.2.2.2.1 (zPl hP) hcl hq
    have hrv : ∃ cell : Cell, H[ad 0]? = some cell ∧ cell.vm.isStatics = false ∧ s.vm.findClass y.cls = some cell.cls := by rw [hy]; exact hrv
    intro T hT X
    have hRun : va_Run p l e R s m args below meth c H locs cells slots 0 0 (F0 m pc ls (As.reverse ++ .ref (ad 0) :: rest)) rest (zPost D (va_A (zwC ad ca σc) H.size) (zwC ad ca) (zI b) τ1 (Value.ref (ad 0) :: As).toArray) (va_A (zwC ad ca σc) H.size) :=
      va_runV (As := As) (rest := rest) ⟨hc.1, hc.2.1, hc.2.2.1, hc.2.2.2.1, hc.2.2.2.2.1⟩ (hct _ b τ1 ho) (cwV As.length hc.2.2.2.2.1 (zG3 hp (fun w hw => by
        simp only [List.mem_cons, List.not_mem_nil, or_false] at hw
        rcases hw with rfl | rfl | rfl | rfl
        · exact hlk
        · exact hi.1
        · exact hi.2
        · exact hp.2.1)) rfl hrm.1 hrm.2.1 ⟨rfl, hp.2.2⟩ hrm.2.2) ⟨zPre.blind, hrv, fun U hU hW => ⟨rfl, hpre U hU hW⟩⟩ rfl rfl hl.1 rfl (lv_room hcat) d hcs
    obtain ⟨v, st₀, t, T', L, h0, X', hL, e1, e2, ⟨⟨hv, hp⟩, hz, hk⟩, stp⟩ := hRun T hT X
    cases hv
    rw [h0] at hz hk
    obtain ⟨t2, a1, b1⟩ := kk b τ1 a τ h' T'.heap (locs ++ L) ls (by
        show va_P D vwCl (zwC ad ca _ ++ zwM am ca _) T'.heap
        rw [e1]
        exact va_P.app hp (zkeep (A := A) (zPr hP) (zapart hAll) hk))
      ⟨Nat.le_trans hS.1 (by rw [e1]; exact hz), fun q h1 h2 => by rw [e1, hk q (Nat.lt_of_lt_of_le h1 hS.1) (fun z => h2 (hsub q z))]; exact hS.2.1 q h1 h2, fun q hq => by
        rcases List.mem_append.mp hq with h | h
        · exact hS.2.2 q h
        · exact hsub _ (hL q h)⟩ hl T' rfl X'
    exact ⟨t2, stp t2 a1, b1⟩
theorem z_callM (hc : zCx p s m args meth c cc nL own D ca xa A (zw2 ad am ca)) {o' : Option (Int32 × zSt)} {k : Int32 → zSt → Option (α × (zSt × zSt))} {rest As : List Value} {y : MethodName} {cc2 : ByteArray} {nL2 idx : Nat} {ret2 : Option FieldType} {rm2 : Room} (d : decode cc pc = .ok (.invokevirtual idx, 3)) (hct : ∀ (A1 : Nat → Prop) (b : Int32) (τ : zSt), o' = some (b, τ) → zCt l y cc2 nL2 ret2 rm2 D ca xa A1 (zwM am ca) (.ref (am 0) :: As) σm (zI b) τ) (hy : y.cls = RX8) (hp : zMp y cc2 nL2 ret2 As.length) (hi : Cond.instanceMethod y ∈ zlwg ∧ Cond.selects y.cls y y ∈ zlwg) (hlk : Cond.methodLink own idx y ∈ zlwg) (hrm : rm2.cells = 0 ∧ rm2.slots = 0 ∧ rm2.frames + 1 ≤ R.frames ∧ 8 + (nL2 + 11) + rm2.locals ≤ R.locals) (hcs : cells ≤ R.cells ∧ slots ≤ R.slots) (hst : st = As.reverse ++ .ref (am 0) :: rest) (hcat : (rest.map fun v => v.category).sum ≤ 8)
    (kk : ∀ (b : Int32) (τ : zSt), zGO p l e R s m args below meth c (cells) (slots) (zw2 ad am ca) D A nL Qf (k b τ) (σc, τ) (pc + 3) lv (.int b :: rest)) : zGO p l e R s m args below meth c (cells) (slots) (zw2 ad am ca) D A nL Qf (zbnd o' k) (σc, σm) (pc) lv (st) := by
  intro a τ h H locs ls hP hS hl
  subst hst
  cases ho : o' with
  | none => rw [ho] at h; cases h
  | some bt =>
    obtain ⟨b, τ1⟩ := bt
    rw [ho] at h
    have h' : k b τ1 = some (a, τ) := h
    have hAll : va_D A (zwC ad ca σc ++ zwM am ca σm) := hc.2.2.2.2.2.2.2.2.1 (σc, σm)
    have hP : va_P D vwCl (zwC ad ca σc ++ zwM am ca σm) H := hP
    have hsub : ∀ q, va_A (zwM am ca σm) H.size q → A q := by
      rintro q (⟨k, e, hk⟩ | hq)
      · exact (zDr hAll).2 k _ hk
      · exact hc.2.2.2.2.2.2.1 q (Nat.le_trans hS.1 hq)
    have hD1 : ∀ σ', va_D (va_A (zwM am ca σm) H.size) (zwM am ca σ') := fun σ' => va_D_congr (by rw [zlay_fst (zcM_ad am ca), zlay_fst (zcM_ad am ca)]) ((zDr hAll).self (sz := H.size))
    have hpre : ∀ U : State, U.heap = H → s.WarmedH U.vm → zPre D ca xa (va_A (zwM am ca σm) H.size) (zwM am ca) σm U := fun U hU hW =>
      ⟨fun q hq => Or.inr (by rw [← hU]; exact hq), by rw [hU]; exact zPr hP, ((hc.2.2.2.2.2.2.2).at hW (fun a h1 h2 => by rw [hU]; exact hS.2.1 a h1 h2)).part hsub hD1⟩
    obtain ⟨q0, ci, fs, T0, N0, hq, hcl⟩ := zcM_rc0 (ad := am) (ca := ca) (σ := σm)
    have hrv := va_recv hc.2.2.2.2.2.2.2.1 (zPr hP) hcl hq
    have hrv : ∃ cell : Cell, H[am 0]? = some cell ∧ cell.vm.isStatics = false ∧ s.vm.findClass y.cls = some cell.cls := by rw [hy]; exact hrv
    intro T hT X
    have hRun : va_Run p l e R s m args below meth c H locs cells slots 0 0 (F0 m pc ls (As.reverse ++ .ref (am 0) :: rest)) rest (zPost D (va_A (zwM am ca σm) H.size) (zwM am ca) (zI b) τ1 (Value.ref (am 0) :: As).toArray) (va_A (zwM am ca σm) H.size) :=
      va_runV (As := As) (rest := rest) ⟨hc.1, hc.2.1, hc.2.2.1, hc.2.2.2.1, hc.2.2.2.2.1⟩ (hct _ b τ1 ho) (cwV As.length hc.2.2.2.2.1 (zG3 hp (fun w hw => by
        simp only [List.mem_cons, List.not_mem_nil, or_false] at hw
        rcases hw with rfl | rfl | rfl | rfl
        · exact hlk
        · exact hi.1
        · exact hi.2
        · exact hp.2.1)) rfl hrm.1 hrm.2.1 ⟨rfl, hp.2.2⟩ hrm.2.2) ⟨zPre.blind, hrv, fun U hU hW => ⟨rfl, hpre U hU hW⟩⟩ rfl rfl hl.1 rfl (lv_room hcat) d hcs
    obtain ⟨v, st₀, t, T', L, h0, X', hL, e1, e2, ⟨⟨hv, hp⟩, hz, hk⟩, stp⟩ := hRun T hT X
    cases hv
    rw [h0] at hz hk
    obtain ⟨t2, a1, b1⟩ := kk b τ1 a τ h' T'.heap (locs ++ L) ls (by
        show va_P D vwCl (zwC ad ca _ ++ zwM am ca _) T'.heap
        rw [e1]
        exact va_P.app (zkeep (A := A) (zPl hP) (fun i j x y hi hj hxy => zapart hAll j i y x hj hi hxy.symm) hk) hp)
      ⟨Nat.le_trans hS.1 (by rw [e1]; exact hz), fun q h1 h2 => by rw [e1, hk q (Nat.lt_of_lt_of_le h1 hS.1) (fun z => h2 (hsub q z))]; exact hS.2.1 q h1 h2, fun q hq => by
        rcases List.mem_append.mp hq with h | h
        · exact hS.2.2 q h
        · exact hsub _ (hL q h)⟩ hl T' rfl X'
    exact ⟨t2, stp t2 a1, b1⟩
/-- place i of the script -/
theorem z_src (hc : zCx p s m args meth c cc nL own D ca xa A (zw2 ad am ca)) {b L : Nat} {xs : Nat → Int32} (hX : va_X b L xs s s.heap ∧ b < s.heap.size ∧ ¬ A b) {i : Int32} {kf : Int32 → Option (α × (zSt × zSt))} (d : decode cc pc = .ok (.iaload, 1)) (k : ∀ x : Int32, zGO p l e R s m args below meth c (cells) (slots) (zw2 ad am ca) D A nL Qf (kf x) (σc, σm) (pc + 1) lv (.int x :: st)) : zGO p l e R s m args below meth c (cells) (slots) (zw2 ad am ca) D A nL Qf (zsrc xs L i kf) (σc, σm) (pc) lv (.int i :: .ref b :: st) := by
  unfold zsrc
  refine z_ite (fun q => ?_) (fun _ => z_none)
  intro a τ h H locs ls hP hS hl
  exact va_sld hc.1 hc.2.1 hX.1 hX.2.1 hX.2.2 hS (zin_vp q) d (k _ a τ h H locs ls hP hS hl)
theorem z_srcLen (hc : zCx p s m args meth c cc nL own D ca xa A (zw2 ad am ca)) {b L : Nat} {xs : Nat → Int32} (hX : va_X b L xs s s.heap ∧ b < s.heap.size ∧ ¬ A b) (d : decode cc pc = .ok (.arraylength, 1)) (k : zGO p l e R s m args below meth c (cells) (slots) (zw2 ad am ca) D A nL Qf o (σc, σm) (pc + 1) lv (.int (Int32.ofNat L) :: st)) : zGO p l e R s m args below meth c (cells) (slots) (zw2 ad am ca) D A nL Qf o (σc, σm) (pc) lv (.ref b :: st) :=
  fun a τ h H locs ls hP hS hl => va_slen hc.1 hc.2.1 hX.1 hX.2.1 hX.2.2 hS d (k a τ h H locs ls hP hS hl)
end zLaw

/-- the law's end -/
theorem z_law1 {p : Program} {l : Launch} {e : Env} {s : State} {m : MethodId} {b : Nat} {below : List Frame} {meth : Method} {c : Code} {D : va_G} {ca : Nat → ClassId} {xa ad am : Nat → Nat} {nL : Nat} {σ : zSt × zSt} {pc : Nat} {lv : List (Nat × Value)} {cells slots : Nat} (hc : zCx p s m #[Value.ref b] meth c code nL RL D ca xa (fun q => s.heap.size ≤ q) (zw2 ad am ca)) (hr : meth.sig.returnType = ret ∧ cells ≤ 600000 ∧ slots ≤ 7302250) (d : decode code pc = .ok (.ireturn, 1)) : zGO p l e room_1 s m #[Value.ref b] below meth c cells slots (zw2 ad am ca) D (fun q => s.heap.size ≤ q) nL (fun (a : Int32) (_ : zSt × zSt) t => a = 1 → lw_Z below #[Value.ref b] s t) (some (1, σ)) σ pc lv [.int 1] := by
  intro a τ h H locs ls hP hS hl
  cases h
  have hW : W p l e room_1 s m #[Value.ref b] below meth c H locs cells slots (lw_Z below #[Value.ref b] s) (F0 m pc ls [.int 1]) := by
    refine va_forget (fun q hq => hS.2.2 q hq) ?_
    refine W.widen (k := 600000) (n := 7302250) hr.2.1 hr.2.2 ?_
    exact lw_ret hc.1 hc.2.1 hr.1 hc.2.2.2.2.2.1 d
  intro T hT X
  obtain ⟨t, a1, b1⟩ := hW T hT X
  exact ⟨t, a1, fun _ => b1⟩
theorem z_law0 {p : Program} {l : Launch} {e : Env} {s : State} {m : MethodId} {b : Nat} {below : List Frame} {meth : Method} {c : Code} {D : va_G} {ca : Nat → ClassId} {xa ad am : Nat → Nat} {nL : Nat} {σ : zSt × zSt} {pc : Nat} {lv : List (Nat × Value)} {cells slots : Nat} {A : Nat → Prop} {st : List Value} (_ : zCx p s m #[Value.ref b] meth c code nL RL D ca xa A (zw2 ad am ca)) (_ : decode code pc = .ok (.ireturn, 1)) : zGO p l e room_1 s m #[Value.ref b] below meth c cells slots (zw2 ad am ca) D A nL (fun (a : Int32) (_ : zSt × zSt) t => a = 1 → lw_Z below #[Value.ref b] s t) (some (0, σ)) σ pc lv st := by
  intro a τ h H locs ls hP hS hl
  cases h
  intro T hT X
  exact ⟨T.setTop (F0 m pc ls st), Steps.refl _, fun q => absurd q (by decide)⟩
theorem zsw0_30 {x : Int32} (h0 : ¬ x = (0 : Int32)) (h1 : ¬ x = (1 : Int32)) (h2 : ¬ x = (2 : Int32)) (h3 : ¬ x = (3 : Int32)) (h4 : ¬ x = (4 : Int32)) (h5 : ¬ x = (5 : Int32)) (h6 : ¬ x = (6 : Int32)) (h7 : ¬ x = (7 : Int32)) (h8 : ¬ x = (8 : Int32)) (h9 : ¬ x = (9 : Int32)) (h10 : ¬ x = (10 : Int32)) (h11 : ¬ x = (11 : Int32)) (h12 : ¬ x = (12 : Int32)) (h13 : ¬ x = (13 : Int32)) (h14 : ¬ x = (14 : Int32)) (h15 : ¬ x = (15 : Int32)) (h16 : ¬ x = (16 : Int32)) (h17 : ¬ x = (17 : Int32)) (h18 : ¬ x = (18 : Int32)) (h19 : ¬ x = (19 : Int32)) (h20 : ¬ x = (20 : Int32)) (h21 : ¬ x = (21 : Int32)) (h22 : ¬ x = (22 : Int32)) (h23 : ¬ x = (23 : Int32)) (h24 : ¬ x = (24 : Int32)) (h25 : ¬ x = (25 : Int32)) (h26 : ¬ x = (26 : Int32)) (h27 : ¬ x = (27 : Int32)) (h28 : ¬ x = (28 : Int32)) (h29 : ¬ x = (29 : Int32)) (h30 : ¬ x = (30 : Int32)) : x.toInt < 0 ∨ 30 < x.toInt := by
  have g0 := lv_neT h0 (show (0 : Int32).toInt = 0 by decide)
  have g1 := lv_neT h1 (show (1 : Int32).toInt = 1 by decide)
  have g2 := lv_neT h2 (show (2 : Int32).toInt = 2 by decide)
  have g3 := lv_neT h3 (show (3 : Int32).toInt = 3 by decide)
  have g4 := lv_neT h4 (show (4 : Int32).toInt = 4 by decide)
  have g5 := lv_neT h5 (show (5 : Int32).toInt = 5 by decide)
  have g6 := lv_neT h6 (show (6 : Int32).toInt = 6 by decide)
  have g7 := lv_neT h7 (show (7 : Int32).toInt = 7 by decide)
  have g8 := lv_neT h8 (show (8 : Int32).toInt = 8 by decide)
  have g9 := lv_neT h9 (show (9 : Int32).toInt = 9 by decide)
  have g10 := lv_neT h10 (show (10 : Int32).toInt = 10 by decide)
  have g11 := lv_neT h11 (show (11 : Int32).toInt = 11 by decide)
  have g12 := lv_neT h12 (show (12 : Int32).toInt = 12 by decide)
  have g13 := lv_neT h13 (show (13 : Int32).toInt = 13 by decide)
  have g14 := lv_neT h14 (show (14 : Int32).toInt = 14 by decide)
  have g15 := lv_neT h15 (show (15 : Int32).toInt = 15 by decide)
  have g16 := lv_neT h16 (show (16 : Int32).toInt = 16 by decide)
  have g17 := lv_neT h17 (show (17 : Int32).toInt = 17 by decide)
  have g18 := lv_neT h18 (show (18 : Int32).toInt = 18 by decide)
  have g19 := lv_neT h19 (show (19 : Int32).toInt = 19 by decide)
  have g20 := lv_neT h20 (show (20 : Int32).toInt = 20 by decide)
  have g21 := lv_neT h21 (show (21 : Int32).toInt = 21 by decide)
  have g22 := lv_neT h22 (show (22 : Int32).toInt = 22 by decide)
  have g23 := lv_neT h23 (show (23 : Int32).toInt = 23 by decide)
  have g24 := lv_neT h24 (show (24 : Int32).toInt = 24 by decide)
  have g25 := lv_neT h25 (show (25 : Int32).toInt = 25 by decide)
  have g26 := lv_neT h26 (show (26 : Int32).toInt = 26 by decide)
  have g27 := lv_neT h27 (show (27 : Int32).toInt = 27 by decide)
  have g28 := lv_neT h28 (show (28 : Int32).toInt = 28 by decide)
  have g29 := lv_neT h29 (show (29 : Int32).toInt = 29 by decide)
  have g30 := lv_neT h30 (show (30 : Int32).toInt = 30 by decide)
  omega
theorem kmL_13 : Cond.methodLink RL 13 yX7_sheet ∈ zlwg := zlwg_of (List.mem_of_getElem? (i := 413) (by decide +kernel)) rfl
theorem kmL_17 : Cond.methodLink RL 17 yX8_sheet ∈ zlwg := zlwg_of (List.mem_of_getElem? (i := 1193) (by decide +kernel)) rfl
theorem kmL_18 : Cond.methodLink RL 18 yX7_set ∈ zlwg := zlwg_of (List.mem_of_getElem? (i := 438) (by decide +kernel)) rfl
theorem kmL_21 : Cond.methodLink RL 21 yX8_set ∈ zlwg := zlwg_of (List.mem_of_getElem? (i := 1211) (by decide +kernel)) rfl
theorem kmL_22 : Cond.methodLink RL 22 yX7_copy ∈ zlwg := zlwg_of (List.mem_of_getElem? (i := 454) (by decide +kernel)) rfl
theorem kmL_26 : Cond.methodLink RL 26 yX8_copy ∈ zlwg := zlwg_of (List.mem_of_getElem? (i := 1215) (by decide +kernel)) rfl
theorem kmL_27 : Cond.methodLink RL 27 yX7_drop ∈ zlwg := zlwg_of (List.mem_of_getElem? (i := 469) (by decide +kernel)) rfl
theorem kmL_31 : Cond.methodLink RL 31 yX8_drop ∈ zlwg := zlwg_of (List.mem_of_getElem? (i := 1219) (by decide +kernel)) rfl
theorem kcL_32 : Cond.constantLong RL 32 (4294967295 : Int64) ∈ zlwg := zlwg_of (List.mem_of_getElem? (i := 1521) (by decide +kernel)) rfl
theorem kmL_34 : Cond.methodLink RL 34 yX7_feed ∈ zlwg := zlwg_of (List.mem_of_getElem? (i := 477) (by decide +kernel)) rfl
theorem kmL_38 : Cond.methodLink RL 38 yX8_feed ∈ zlwg := zlwg_of (List.mem_of_getElem? (i := 1223) (by decide +kernel)) rfl
theorem kmL_39 : Cond.methodLink RL 39 yX7_net ∈ zlwg := zlwg_of (List.mem_of_getElem? (i := 490) (by decide +kernel)) rfl
theorem kmL_43 : Cond.methodLink RL 43 yX8_net ∈ zlwg := zlwg_of (List.mem_of_getElem? (i := 1230) (by decide +kernel)) rfl
theorem kmL_44 : Cond.methodLink RL 44 yX7_fault ∈ zlwg := zlwg_of (List.mem_of_getElem? (i := 637) (by decide +kernel)) rfl
theorem kmL_47 : Cond.methodLink RL 47 yX8_fault ∈ zlwg := zlwg_of (List.mem_of_getElem? (i := 1286) (by decide +kernel)) rfl
theorem kmL_48 : Cond.methodLink RL 48 yX7_node ∈ zlwg := zlwg_of (List.mem_of_getElem? (i := 641) (by decide +kernel)) rfl
theorem kmL_52 : Cond.methodLink RL 52 yX8_node ∈ zlwg := zlwg_of (List.mem_of_getElem? (i := 1361) (by decide +kernel)) rfl
theorem kmL_53 : Cond.methodLink RL 53 yX7_step ∈ zlwg := zlwg_of (List.mem_of_getElem? (i := 679) (by decide +kernel)) rfl
theorem kmL_56 : Cond.methodLink RL 56 yX8_step ∈ zlwg := zlwg_of (List.mem_of_getElem? (i := 1366) (by decide +kernel)) rfl
theorem kmL_57 : Cond.methodLink RL 57 yX7_part ∈ zlwg := zlwg_of (List.mem_of_getElem? (i := 692) (by decide +kernel)) rfl
theorem kmL_60 : Cond.methodLink RL 60 yX8_part ∈ zlwg := zlwg_of (List.mem_of_getElem? (i := 1374) (by decide +kernel)) rfl
theorem kmL_61 : Cond.methodLink RL 61 yX7_doubt ∈ zlwg := zlwg_of (List.mem_of_getElem? (i := 700) (by decide +kernel)) rfl
theorem kmL_64 : Cond.methodLink RL 64 yX8_doubt ∈ zlwg := zlwg_of (List.mem_of_getElem? (i := 1378) (by decide +kernel)) rfl
theorem kmL_65 : Cond.methodLink RL 65 yX7_borne ∈ zlwg := zlwg_of (List.mem_of_getElem? (i := 708) (by decide +kernel)) rfl
theorem kmL_68 : Cond.methodLink RL 68 yX8_borne ∈ zlwg := zlwg_of (List.mem_of_getElem? (i := 1383) (by decide +kernel)) rfl
theorem kmL_69 : Cond.methodLink RL 69 yX7_looked ∈ zlwg := zlwg_of (List.mem_of_getElem? (i := 717) (by decide +kernel)) rfl
theorem kmL_72 : Cond.methodLink RL 72 yX8_looked ∈ zlwg := zlwg_of (List.mem_of_getElem? (i := 1388) (by decide +kernel)) rfl
theorem kmL_73 : Cond.methodLink RL 73 yX7_fall ∈ zlwg := zlwg_of (List.mem_of_getElem? (i := 737) (by decide +kernel)) rfl
theorem kmL_76 : Cond.methodLink RL 76 yX8_fall ∈ zlwg := zlwg_of (List.mem_of_getElem? (i := 1397) (by decide +kernel)) rfl
theorem kmL_77 : Cond.methodLink RL 77 yX7_day ∈ zlwg := zlwg_of (List.mem_of_getElem? (i := 741) (by decide +kernel)) rfl
theorem kmL_80 : Cond.methodLink RL 80 yX8_day ∈ zlwg := zlwg_of (List.mem_of_getElem? (i := 1401) (by decide +kernel)) rfl
theorem kmL_81 : Cond.methodLink RL 81 yX7_shown ∈ zlwg := zlwg_of (List.mem_of_getElem? (i := 745) (by decide +kernel)) rfl
theorem kmL_84 : Cond.methodLink RL 84 yX8_shown ∈ zlwg := zlwg_of (List.mem_of_getElem? (i := 1290) (by decide +kernel)) rfl
theorem kmL_85 : Cond.methodLink RL 85 yX7_leaning ∈ zlwg := zlwg_of (List.mem_of_getElem? (i := 761) (by decide +kernel)) rfl
theorem kmL_88 : Cond.methodLink RL 88 yX8_leaning ∈ zlwg := zlwg_of (List.mem_of_getElem? (i := 1329) (by decide +kernel)) rfl
theorem kmL_89 : Cond.methodLink RL 89 yX7_felling ∈ zlwg := zlwg_of (List.mem_of_getElem? (i := 767) (by decide +kernel)) rfl
theorem kmL_92 : Cond.methodLink RL 92 yX8_felling ∈ zlwg := zlwg_of (List.mem_of_getElem? (i := 1337) (by decide +kernel)) rfl
theorem kmL_93 : Cond.methodLink RL 93 yX7_hand ∈ zlwg := zlwg_of (List.mem_of_getElem? (i := 796) (by decide +kernel)) rfl
theorem kmL_96 : Cond.methodLink RL 96 yX8_hand ∈ zlwg := zlwg_of (List.mem_of_getElem? (i := 1354) (by decide +kernel)) rfl
theorem kmL_97 : Cond.methodLink RL 97 yX7_weigh ∈ zlwg := zlwg_of (List.mem_of_getElem? (i := 805) (by decide +kernel)) rfl
theorem kmL_100 : Cond.methodLink RL 100 yX8_weigh ∈ zlwg := zlwg_of (List.mem_of_getElem? (i := 1405) (by decide +kernel)) rfl
theorem kmL_101 : Cond.methodLink RL 101 yX7_pair ∈ zlwg := zlwg_of (List.mem_of_getElem? (i := 824) (by decide +kernel)) rfl
theorem kmL_105 : Cond.methodLink RL 105 yX8_pair ∈ zlwg := zlwg_of (List.mem_of_getElem? (i := 1410) (by decide +kernel)) rfl
theorem kmL_106 : Cond.methodLink RL 106 yX7_unweigh ∈ zlwg := zlwg_of (List.mem_of_getElem? (i := 836) (by decide +kernel)) rfl
theorem kmL_109 : Cond.methodLink RL 109 yX8_unweigh ∈ zlwg := zlwg_of (List.mem_of_getElem? (i := 1414) (by decide +kernel)) rfl
theorem kmL_110 : Cond.methodLink RL 110 yX7_agree ∈ zlwg := zlwg_of (List.mem_of_getElem? (i := 844) (by decide +kernel)) rfl
theorem kmL_113 : Cond.methodLink RL 113 yX8_agree ∈ zlwg := zlwg_of (List.mem_of_getElem? (i := 1418) (by decide +kernel)) rfl
theorem kmL_114 : Cond.methodLink RL 114 yX7_odds ∈ zlwg := zlwg_of (List.mem_of_getElem? (i := 911) (by decide +kernel)) rfl
theorem kmL_117 : Cond.methodLink RL 117 yX8_odds ∈ zlwg := zlwg_of (List.mem_of_getElem? (i := 1457) (by decide +kernel)) rfl
theorem kmL_118 : Cond.methodLink RL 118 yX7_raise ∈ zlwg := zlwg_of (List.mem_of_getElem? (i := 927) (by decide +kernel)) rfl
theorem kmL_121 : Cond.methodLink RL 121 yX8_raise ∈ zlwg := zlwg_of (List.mem_of_getElem? (i := 1466) (by decide +kernel)) rfl
theorem kmL_122 : Cond.methodLink RL 122 yX7_kind ∈ zlwg := zlwg_of (List.mem_of_getElem? (i := 939) (by decide +kernel)) rfl
theorem kmL_125 : Cond.methodLink RL 125 yX8_kind ∈ zlwg := zlwg_of (List.mem_of_getElem? (i := 1470) (by decide +kernel)) rfl
theorem kmL_126 : Cond.methodLink RL 126 yX7_as ∈ zlwg := zlwg_of (List.mem_of_getElem? (i := 951) (by decide +kernel)) rfl
theorem kmL_129 : Cond.methodLink RL 129 yX8_as ∈ zlwg := zlwg_of (List.mem_of_getElem? (i := 1482) (by decide +kernel)) rfl
theorem kmL_130 : Cond.methodLink RL 130 yX7_ask ∈ zlwg := zlwg_of (List.mem_of_getElem? (i := 962) (by decide +kernel)) rfl
theorem kmL_133 : Cond.methodLink RL 133 yX8_ask ∈ zlwg := zlwg_of (List.mem_of_getElem? (i := 1489) (by decide +kernel)) rfl
theorem kmL_134 : Cond.methodLink RL 134 yX7_trace ∈ zlwg := zlwg_of (List.mem_of_getElem? (i := 1026) (by decide +kernel)) rfl
theorem kmL_137 : Cond.methodLink RL 137 yX8_trace ∈ zlwg := zlwg_of (List.mem_of_getElem? (i := 1509) (by decide +kernel)) rfl
theorem kmL_138 : Cond.methodLink RL 138 yX7_count ∈ zlwg := zlwg_of (List.mem_of_getElem? (i := 1030) (by decide +kernel)) rfl
theorem kmL_141 : Cond.methodLink RL 141 yX8_count ∈ zlwg := zlwg_of (List.mem_of_getElem? (i := 1513) (by decide +kernel)) rfl
theorem kmL_142 : Cond.methodLink RL 142 yX7_status ∈ zlwg := zlwg_of (List.mem_of_getElem? (i := 1043) (by decide +kernel)) rfl
theorem kmL_145 : Cond.methodLink RL 145 yX8_status ∈ zlwg := zlwg_of (List.mem_of_getElem? (i := 1517) (by decide +kernel)) rfl
theorem mpX7_sheet : zMp yX7_sheet cX7_sheet 4 (some .int) 3 := ⟨zlwg_of (List.mem_of_getElem? (i := 416) (by decide +kernel)) rfl, zlwg_of (List.mem_of_getElem? (i := 137) (by decide +kernel)) rfl, by decide, by decide, by decide +kernel⟩
theorem miX7_sheet : Cond.instanceMethod yX7_sheet ∈ zlwg ∧ Cond.selects yX7_sheet.cls yX7_sheet yX7_sheet ∈ zlwg := ⟨zlwg_of (List.mem_of_getElem? (i := 414) (by decide +kernel)) rfl, zlwg_of (List.mem_of_getElem? (i := 415) (by decide +kernel)) rfl⟩
theorem mpX8_sheet : zMp yX8_sheet cX8_sheet 5 (some .int) 3 := ⟨zlwg_of (List.mem_of_getElem? (i := 1196) (by decide +kernel)) rfl, zlwg_of (List.mem_of_getElem? (i := 145) (by decide +kernel)) rfl, by decide, by decide, by decide +kernel⟩
theorem miX8_sheet : Cond.instanceMethod yX8_sheet ∈ zlwg ∧ Cond.selects yX8_sheet.cls yX8_sheet yX8_sheet ∈ zlwg := ⟨zlwg_of (List.mem_of_getElem? (i := 1194) (by decide +kernel)) rfl, zlwg_of (List.mem_of_getElem? (i := 1195) (by decide +kernel)) rfl⟩
theorem mpX7_set : zMp yX7_set cX7_set 4 (some .int) 3 := ⟨zlwg_of (List.mem_of_getElem? (i := 441) (by decide +kernel)) rfl, zlwg_of (List.mem_of_getElem? (i := 137) (by decide +kernel)) rfl, by decide, by decide, by decide +kernel⟩
theorem miX7_set : Cond.instanceMethod yX7_set ∈ zlwg ∧ Cond.selects yX7_set.cls yX7_set yX7_set ∈ zlwg := ⟨zlwg_of (List.mem_of_getElem? (i := 439) (by decide +kernel)) rfl, zlwg_of (List.mem_of_getElem? (i := 440) (by decide +kernel)) rfl⟩
theorem mpX8_set : zMp yX8_set cX8_set 4 (some .int) 3 := ⟨zlwg_of (List.mem_of_getElem? (i := 1214) (by decide +kernel)) rfl, zlwg_of (List.mem_of_getElem? (i := 145) (by decide +kernel)) rfl, by decide, by decide, by decide +kernel⟩
theorem miX8_set : Cond.instanceMethod yX8_set ∈ zlwg ∧ Cond.selects yX8_set.cls yX8_set yX8_set ∈ zlwg := ⟨zlwg_of (List.mem_of_getElem? (i := 1212) (by decide +kernel)) rfl, zlwg_of (List.mem_of_getElem? (i := 1213) (by decide +kernel)) rfl⟩
theorem mpX7_copy : zMp yX7_copy cX7_copy 6 (some .int) 5 := ⟨zlwg_of (List.mem_of_getElem? (i := 457) (by decide +kernel)) rfl, zlwg_of (List.mem_of_getElem? (i := 137) (by decide +kernel)) rfl, by decide, by decide, by decide +kernel⟩
theorem miX7_copy : Cond.instanceMethod yX7_copy ∈ zlwg ∧ Cond.selects yX7_copy.cls yX7_copy yX7_copy ∈ zlwg := ⟨zlwg_of (List.mem_of_getElem? (i := 455) (by decide +kernel)) rfl, zlwg_of (List.mem_of_getElem? (i := 456) (by decide +kernel)) rfl⟩
theorem mpX8_copy : zMp yX8_copy cX8_copy 9 (some .int) 5 := ⟨zlwg_of (List.mem_of_getElem? (i := 1218) (by decide +kernel)) rfl, zlwg_of (List.mem_of_getElem? (i := 145) (by decide +kernel)) rfl, by decide, by decide, by decide +kernel⟩
theorem miX8_copy : Cond.instanceMethod yX8_copy ∈ zlwg ∧ Cond.selects yX8_copy.cls yX8_copy yX8_copy ∈ zlwg := ⟨zlwg_of (List.mem_of_getElem? (i := 1216) (by decide +kernel)) rfl, zlwg_of (List.mem_of_getElem? (i := 1217) (by decide +kernel)) rfl⟩
theorem mpX7_drop : zMp yX7_drop cX7_drop 2 (some .int) 1 := ⟨zlwg_of (List.mem_of_getElem? (i := 472) (by decide +kernel)) rfl, zlwg_of (List.mem_of_getElem? (i := 137) (by decide +kernel)) rfl, by decide, by decide, by decide +kernel⟩
theorem miX7_drop : Cond.instanceMethod yX7_drop ∈ zlwg ∧ Cond.selects yX7_drop.cls yX7_drop yX7_drop ∈ zlwg := ⟨zlwg_of (List.mem_of_getElem? (i := 470) (by decide +kernel)) rfl, zlwg_of (List.mem_of_getElem? (i := 471) (by decide +kernel)) rfl⟩
theorem mpX8_drop : zMp yX8_drop cX8_drop 2 (some .int) 1 := ⟨zlwg_of (List.mem_of_getElem? (i := 1222) (by decide +kernel)) rfl, zlwg_of (List.mem_of_getElem? (i := 145) (by decide +kernel)) rfl, by decide, by decide, by decide +kernel⟩
theorem miX8_drop : Cond.instanceMethod yX8_drop ∈ zlwg ∧ Cond.selects yX8_drop.cls yX8_drop yX8_drop ∈ zlwg := ⟨zlwg_of (List.mem_of_getElem? (i := 1220) (by decide +kernel)) rfl, zlwg_of (List.mem_of_getElem? (i := 1221) (by decide +kernel)) rfl⟩
theorem mpX7_feed : zMp yX7_feed cX7_feed 4 (some .int) 2 := ⟨zlwg_of (List.mem_of_getElem? (i := 480) (by decide +kernel)) rfl, zlwg_of (List.mem_of_getElem? (i := 137) (by decide +kernel)) rfl, by decide, by decide, by decide +kernel⟩
theorem miX7_feed : Cond.instanceMethod yX7_feed ∈ zlwg ∧ Cond.selects yX7_feed.cls yX7_feed yX7_feed ∈ zlwg := ⟨zlwg_of (List.mem_of_getElem? (i := 478) (by decide +kernel)) rfl, zlwg_of (List.mem_of_getElem? (i := 479) (by decide +kernel)) rfl⟩
theorem mpX8_feed : zMp yX8_feed cX8_feed 5 (some .int) 2 := ⟨zlwg_of (List.mem_of_getElem? (i := 1226) (by decide +kernel)) rfl, zlwg_of (List.mem_of_getElem? (i := 145) (by decide +kernel)) rfl, by decide, by decide, by decide +kernel⟩
theorem miX8_feed : Cond.instanceMethod yX8_feed ∈ zlwg ∧ Cond.selects yX8_feed.cls yX8_feed yX8_feed ∈ zlwg := ⟨zlwg_of (List.mem_of_getElem? (i := 1224) (by decide +kernel)) rfl, zlwg_of (List.mem_of_getElem? (i := 1225) (by decide +kernel)) rfl⟩
theorem mpX7_net : zMp yX7_net cX7_net 4 (some .int) 0 := ⟨zlwg_of (List.mem_of_getElem? (i := 493) (by decide +kernel)) rfl, zlwg_of (List.mem_of_getElem? (i := 137) (by decide +kernel)) rfl, by decide, by decide, by decide +kernel⟩
theorem miX7_net : Cond.instanceMethod yX7_net ∈ zlwg ∧ Cond.selects yX7_net.cls yX7_net yX7_net ∈ zlwg := ⟨zlwg_of (List.mem_of_getElem? (i := 491) (by decide +kernel)) rfl, zlwg_of (List.mem_of_getElem? (i := 492) (by decide +kernel)) rfl⟩
theorem mpX8_net : zMp yX8_net cX8_net 4 (some .int) 0 := ⟨zlwg_of (List.mem_of_getElem? (i := 1233) (by decide +kernel)) rfl, zlwg_of (List.mem_of_getElem? (i := 145) (by decide +kernel)) rfl, by decide, by decide, by decide +kernel⟩
theorem miX8_net : Cond.instanceMethod yX8_net ∈ zlwg ∧ Cond.selects yX8_net.cls yX8_net yX8_net ∈ zlwg := ⟨zlwg_of (List.mem_of_getElem? (i := 1231) (by decide +kernel)) rfl, zlwg_of (List.mem_of_getElem? (i := 1232) (by decide +kernel)) rfl⟩
theorem mpX7_fault : zMp yX7_fault cX7_fault 1 (some .int) 0 := ⟨zlwg_of (List.mem_of_getElem? (i := 640) (by decide +kernel)) rfl, zlwg_of (List.mem_of_getElem? (i := 137) (by decide +kernel)) rfl, by decide, by decide, by decide +kernel⟩
theorem miX7_fault : Cond.instanceMethod yX7_fault ∈ zlwg ∧ Cond.selects yX7_fault.cls yX7_fault yX7_fault ∈ zlwg := ⟨zlwg_of (List.mem_of_getElem? (i := 638) (by decide +kernel)) rfl, zlwg_of (List.mem_of_getElem? (i := 639) (by decide +kernel)) rfl⟩
theorem mpX8_fault : zMp yX8_fault cX8_fault 1 (some .int) 0 := ⟨zlwg_of (List.mem_of_getElem? (i := 1289) (by decide +kernel)) rfl, zlwg_of (List.mem_of_getElem? (i := 145) (by decide +kernel)) rfl, by decide, by decide, by decide +kernel⟩
theorem miX8_fault : Cond.instanceMethod yX8_fault ∈ zlwg ∧ Cond.selects yX8_fault.cls yX8_fault yX8_fault ∈ zlwg := ⟨zlwg_of (List.mem_of_getElem? (i := 1287) (by decide +kernel)) rfl, zlwg_of (List.mem_of_getElem? (i := 1288) (by decide +kernel)) rfl⟩
theorem mpX7_node : zMp yX7_node cX7_node 4 (some .int) 2 := ⟨zlwg_of (List.mem_of_getElem? (i := 644) (by decide +kernel)) rfl, zlwg_of (List.mem_of_getElem? (i := 137) (by decide +kernel)) rfl, by decide, by decide, by decide +kernel⟩
theorem miX7_node : Cond.instanceMethod yX7_node ∈ zlwg ∧ Cond.selects yX7_node.cls yX7_node yX7_node ∈ zlwg := ⟨zlwg_of (List.mem_of_getElem? (i := 642) (by decide +kernel)) rfl, zlwg_of (List.mem_of_getElem? (i := 643) (by decide +kernel)) rfl⟩
theorem mpX8_node : zMp yX8_node cX8_node 3 (some .int) 2 := ⟨zlwg_of (List.mem_of_getElem? (i := 1364) (by decide +kernel)) rfl, zlwg_of (List.mem_of_getElem? (i := 145) (by decide +kernel)) rfl, by decide, by decide, by decide +kernel⟩
theorem miX8_node : Cond.instanceMethod yX8_node ∈ zlwg ∧ Cond.selects yX8_node.cls yX8_node yX8_node ∈ zlwg := ⟨zlwg_of (List.mem_of_getElem? (i := 1362) (by decide +kernel)) rfl, zlwg_of (List.mem_of_getElem? (i := 1363) (by decide +kernel)) rfl⟩
theorem mpX7_step : zMp yX7_step cX7_step 3 (some .int) 2 := ⟨zlwg_of (List.mem_of_getElem? (i := 682) (by decide +kernel)) rfl, zlwg_of (List.mem_of_getElem? (i := 137) (by decide +kernel)) rfl, by decide, by decide, by decide +kernel⟩
theorem miX7_step : Cond.instanceMethod yX7_step ∈ zlwg ∧ Cond.selects yX7_step.cls yX7_step yX7_step ∈ zlwg := ⟨zlwg_of (List.mem_of_getElem? (i := 680) (by decide +kernel)) rfl, zlwg_of (List.mem_of_getElem? (i := 681) (by decide +kernel)) rfl⟩
theorem mpX8_step : zMp yX8_step cX8_step 3 (some .int) 2 := ⟨zlwg_of (List.mem_of_getElem? (i := 1369) (by decide +kernel)) rfl, zlwg_of (List.mem_of_getElem? (i := 145) (by decide +kernel)) rfl, by decide, by decide, by decide +kernel⟩
theorem miX8_step : Cond.instanceMethod yX8_step ∈ zlwg ∧ Cond.selects yX8_step.cls yX8_step yX8_step ∈ zlwg := ⟨zlwg_of (List.mem_of_getElem? (i := 1367) (by decide +kernel)) rfl, zlwg_of (List.mem_of_getElem? (i := 1368) (by decide +kernel)) rfl⟩
theorem mpX7_part : zMp yX7_part cX7_part 3 (some .int) 2 := ⟨zlwg_of (List.mem_of_getElem? (i := 695) (by decide +kernel)) rfl, zlwg_of (List.mem_of_getElem? (i := 137) (by decide +kernel)) rfl, by decide, by decide, by decide +kernel⟩
theorem miX7_part : Cond.instanceMethod yX7_part ∈ zlwg ∧ Cond.selects yX7_part.cls yX7_part yX7_part ∈ zlwg := ⟨zlwg_of (List.mem_of_getElem? (i := 693) (by decide +kernel)) rfl, zlwg_of (List.mem_of_getElem? (i := 694) (by decide +kernel)) rfl⟩
theorem mpX8_part : zMp yX8_part cX8_part 3 (some .int) 2 := ⟨zlwg_of (List.mem_of_getElem? (i := 1377) (by decide +kernel)) rfl, zlwg_of (List.mem_of_getElem? (i := 145) (by decide +kernel)) rfl, by decide, by decide, by decide +kernel⟩
theorem miX8_part : Cond.instanceMethod yX8_part ∈ zlwg ∧ Cond.selects yX8_part.cls yX8_part yX8_part ∈ zlwg := ⟨zlwg_of (List.mem_of_getElem? (i := 1375) (by decide +kernel)) rfl, zlwg_of (List.mem_of_getElem? (i := 1376) (by decide +kernel)) rfl⟩
theorem mpX7_doubt : zMp yX7_doubt cX7_doubt 4 (some .int) 3 := ⟨zlwg_of (List.mem_of_getElem? (i := 703) (by decide +kernel)) rfl, zlwg_of (List.mem_of_getElem? (i := 137) (by decide +kernel)) rfl, by decide, by decide, by decide +kernel⟩
theorem miX7_doubt : Cond.instanceMethod yX7_doubt ∈ zlwg ∧ Cond.selects yX7_doubt.cls yX7_doubt yX7_doubt ∈ zlwg := ⟨zlwg_of (List.mem_of_getElem? (i := 701) (by decide +kernel)) rfl, zlwg_of (List.mem_of_getElem? (i := 702) (by decide +kernel)) rfl⟩
theorem mpX8_doubt : zMp yX8_doubt cX8_doubt 5 (some .int) 3 := ⟨zlwg_of (List.mem_of_getElem? (i := 1381) (by decide +kernel)) rfl, zlwg_of (List.mem_of_getElem? (i := 145) (by decide +kernel)) rfl, by decide, by decide, by decide +kernel⟩
theorem miX8_doubt : Cond.instanceMethod yX8_doubt ∈ zlwg ∧ Cond.selects yX8_doubt.cls yX8_doubt yX8_doubt ∈ zlwg := ⟨zlwg_of (List.mem_of_getElem? (i := 1379) (by decide +kernel)) rfl, zlwg_of (List.mem_of_getElem? (i := 1380) (by decide +kernel)) rfl⟩
theorem mpX7_borne : zMp yX7_borne cX7_borne 2 (some .int) 1 := ⟨zlwg_of (List.mem_of_getElem? (i := 711) (by decide +kernel)) rfl, zlwg_of (List.mem_of_getElem? (i := 137) (by decide +kernel)) rfl, by decide, by decide, by decide +kernel⟩
theorem miX7_borne : Cond.instanceMethod yX7_borne ∈ zlwg ∧ Cond.selects yX7_borne.cls yX7_borne yX7_borne ∈ zlwg := ⟨zlwg_of (List.mem_of_getElem? (i := 709) (by decide +kernel)) rfl, zlwg_of (List.mem_of_getElem? (i := 710) (by decide +kernel)) rfl⟩
theorem mpX8_borne : zMp yX8_borne cX8_borne 4 (some .int) 1 := ⟨zlwg_of (List.mem_of_getElem? (i := 1386) (by decide +kernel)) rfl, zlwg_of (List.mem_of_getElem? (i := 145) (by decide +kernel)) rfl, by decide, by decide, by decide +kernel⟩
theorem miX8_borne : Cond.instanceMethod yX8_borne ∈ zlwg ∧ Cond.selects yX8_borne.cls yX8_borne yX8_borne ∈ zlwg := ⟨zlwg_of (List.mem_of_getElem? (i := 1384) (by decide +kernel)) rfl, zlwg_of (List.mem_of_getElem? (i := 1385) (by decide +kernel)) rfl⟩
theorem mpX7_looked : zMp yX7_looked cX7_looked 5 (some .int) 3 := ⟨zlwg_of (List.mem_of_getElem? (i := 720) (by decide +kernel)) rfl, zlwg_of (List.mem_of_getElem? (i := 137) (by decide +kernel)) rfl, by decide, by decide, by decide +kernel⟩
theorem miX7_looked : Cond.instanceMethod yX7_looked ∈ zlwg ∧ Cond.selects yX7_looked.cls yX7_looked yX7_looked ∈ zlwg := ⟨zlwg_of (List.mem_of_getElem? (i := 718) (by decide +kernel)) rfl, zlwg_of (List.mem_of_getElem? (i := 719) (by decide +kernel)) rfl⟩
theorem mpX8_looked : zMp yX8_looked cX8_looked 6 (some .int) 3 := ⟨zlwg_of (List.mem_of_getElem? (i := 1391) (by decide +kernel)) rfl, zlwg_of (List.mem_of_getElem? (i := 145) (by decide +kernel)) rfl, by decide, by decide, by decide +kernel⟩
theorem miX8_looked : Cond.instanceMethod yX8_looked ∈ zlwg ∧ Cond.selects yX8_looked.cls yX8_looked yX8_looked ∈ zlwg := ⟨zlwg_of (List.mem_of_getElem? (i := 1389) (by decide +kernel)) rfl, zlwg_of (List.mem_of_getElem? (i := 1390) (by decide +kernel)) rfl⟩
theorem mpX7_fall : zMp yX7_fall cX7_fall 4 (some .int) 2 := ⟨zlwg_of (List.mem_of_getElem? (i := 740) (by decide +kernel)) rfl, zlwg_of (List.mem_of_getElem? (i := 137) (by decide +kernel)) rfl, by decide, by decide, by decide +kernel⟩
theorem miX7_fall : Cond.instanceMethod yX7_fall ∈ zlwg ∧ Cond.selects yX7_fall.cls yX7_fall yX7_fall ∈ zlwg := ⟨zlwg_of (List.mem_of_getElem? (i := 738) (by decide +kernel)) rfl, zlwg_of (List.mem_of_getElem? (i := 739) (by decide +kernel)) rfl⟩
theorem mpX8_fall : zMp yX8_fall cX8_fall 4 (some .int) 2 := ⟨zlwg_of (List.mem_of_getElem? (i := 1400) (by decide +kernel)) rfl, zlwg_of (List.mem_of_getElem? (i := 145) (by decide +kernel)) rfl, by decide, by decide, by decide +kernel⟩
theorem miX8_fall : Cond.instanceMethod yX8_fall ∈ zlwg ∧ Cond.selects yX8_fall.cls yX8_fall yX8_fall ∈ zlwg := ⟨zlwg_of (List.mem_of_getElem? (i := 1398) (by decide +kernel)) rfl, zlwg_of (List.mem_of_getElem? (i := 1399) (by decide +kernel)) rfl⟩
theorem mpX7_day : zMp yX7_day cX7_day 3 (some .int) 1 := ⟨zlwg_of (List.mem_of_getElem? (i := 744) (by decide +kernel)) rfl, zlwg_of (List.mem_of_getElem? (i := 137) (by decide +kernel)) rfl, by decide, by decide, by decide +kernel⟩
theorem miX7_day : Cond.instanceMethod yX7_day ∈ zlwg ∧ Cond.selects yX7_day.cls yX7_day yX7_day ∈ zlwg := ⟨zlwg_of (List.mem_of_getElem? (i := 742) (by decide +kernel)) rfl, zlwg_of (List.mem_of_getElem? (i := 743) (by decide +kernel)) rfl⟩
theorem mpX8_day : zMp yX8_day cX8_day 3 (some .int) 1 := ⟨zlwg_of (List.mem_of_getElem? (i := 1404) (by decide +kernel)) rfl, zlwg_of (List.mem_of_getElem? (i := 145) (by decide +kernel)) rfl, by decide, by decide, by decide +kernel⟩
theorem miX8_day : Cond.instanceMethod yX8_day ∈ zlwg ∧ Cond.selects yX8_day.cls yX8_day yX8_day ∈ zlwg := ⟨zlwg_of (List.mem_of_getElem? (i := 1402) (by decide +kernel)) rfl, zlwg_of (List.mem_of_getElem? (i := 1403) (by decide +kernel)) rfl⟩
theorem mpX7_shown : zMp yX7_shown cX7_shown 2 (some .int) 1 := ⟨zlwg_of (List.mem_of_getElem? (i := 748) (by decide +kernel)) rfl, zlwg_of (List.mem_of_getElem? (i := 137) (by decide +kernel)) rfl, by decide, by decide, by decide +kernel⟩
theorem miX7_shown : Cond.instanceMethod yX7_shown ∈ zlwg ∧ Cond.selects yX7_shown.cls yX7_shown yX7_shown ∈ zlwg := ⟨zlwg_of (List.mem_of_getElem? (i := 746) (by decide +kernel)) rfl, zlwg_of (List.mem_of_getElem? (i := 747) (by decide +kernel)) rfl⟩
theorem mpX8_shown : zMp yX8_shown cX8_shown 5 (some .int) 1 := ⟨zlwg_of (List.mem_of_getElem? (i := 1293) (by decide +kernel)) rfl, zlwg_of (List.mem_of_getElem? (i := 145) (by decide +kernel)) rfl, by decide, by decide, by decide +kernel⟩
theorem miX8_shown : Cond.instanceMethod yX8_shown ∈ zlwg ∧ Cond.selects yX8_shown.cls yX8_shown yX8_shown ∈ zlwg := ⟨zlwg_of (List.mem_of_getElem? (i := 1291) (by decide +kernel)) rfl, zlwg_of (List.mem_of_getElem? (i := 1292) (by decide +kernel)) rfl⟩
theorem mpX7_leaning : zMp yX7_leaning cX7_leaning 4 (some .int) 1 := ⟨zlwg_of (List.mem_of_getElem? (i := 764) (by decide +kernel)) rfl, zlwg_of (List.mem_of_getElem? (i := 137) (by decide +kernel)) rfl, by decide, by decide, by decide +kernel⟩
theorem miX7_leaning : Cond.instanceMethod yX7_leaning ∈ zlwg ∧ Cond.selects yX7_leaning.cls yX7_leaning yX7_leaning ∈ zlwg := ⟨zlwg_of (List.mem_of_getElem? (i := 762) (by decide +kernel)) rfl, zlwg_of (List.mem_of_getElem? (i := 763) (by decide +kernel)) rfl⟩
theorem mpX8_leaning : zMp yX8_leaning cX8_leaning 4 (some .int) 1 := ⟨zlwg_of (List.mem_of_getElem? (i := 1332) (by decide +kernel)) rfl, zlwg_of (List.mem_of_getElem? (i := 145) (by decide +kernel)) rfl, by decide, by decide, by decide +kernel⟩
theorem miX8_leaning : Cond.instanceMethod yX8_leaning ∈ zlwg ∧ Cond.selects yX8_leaning.cls yX8_leaning yX8_leaning ∈ zlwg := ⟨zlwg_of (List.mem_of_getElem? (i := 1330) (by decide +kernel)) rfl, zlwg_of (List.mem_of_getElem? (i := 1331) (by decide +kernel)) rfl⟩
theorem mpX7_felling : zMp yX7_felling cX7_felling 3 (some .int) 2 := ⟨zlwg_of (List.mem_of_getElem? (i := 770) (by decide +kernel)) rfl, zlwg_of (List.mem_of_getElem? (i := 137) (by decide +kernel)) rfl, by decide, by decide, by decide +kernel⟩
theorem miX7_felling : Cond.instanceMethod yX7_felling ∈ zlwg ∧ Cond.selects yX7_felling.cls yX7_felling yX7_felling ∈ zlwg := ⟨zlwg_of (List.mem_of_getElem? (i := 768) (by decide +kernel)) rfl, zlwg_of (List.mem_of_getElem? (i := 769) (by decide +kernel)) rfl⟩
theorem mpX8_felling : zMp yX8_felling cX8_felling 11 (some .int) 2 := ⟨zlwg_of (List.mem_of_getElem? (i := 1340) (by decide +kernel)) rfl, zlwg_of (List.mem_of_getElem? (i := 145) (by decide +kernel)) rfl, by decide, by decide, by decide +kernel⟩
theorem miX8_felling : Cond.instanceMethod yX8_felling ∈ zlwg ∧ Cond.selects yX8_felling.cls yX8_felling yX8_felling ∈ zlwg := ⟨zlwg_of (List.mem_of_getElem? (i := 1338) (by decide +kernel)) rfl, zlwg_of (List.mem_of_getElem? (i := 1339) (by decide +kernel)) rfl⟩
theorem mpX7_hand : zMp yX7_hand cX7_hand 8 (some .int) 0 := ⟨zlwg_of (List.mem_of_getElem? (i := 799) (by decide +kernel)) rfl, zlwg_of (List.mem_of_getElem? (i := 137) (by decide +kernel)) rfl, by decide, by decide, by decide +kernel⟩
theorem miX7_hand : Cond.instanceMethod yX7_hand ∈ zlwg ∧ Cond.selects yX7_hand.cls yX7_hand yX7_hand ∈ zlwg := ⟨zlwg_of (List.mem_of_getElem? (i := 797) (by decide +kernel)) rfl, zlwg_of (List.mem_of_getElem? (i := 798) (by decide +kernel)) rfl⟩
theorem mpX8_hand : zMp yX8_hand cX8_hand 8 (some .int) 0 := ⟨zlwg_of (List.mem_of_getElem? (i := 1357) (by decide +kernel)) rfl, zlwg_of (List.mem_of_getElem? (i := 145) (by decide +kernel)) rfl, by decide, by decide, by decide +kernel⟩
theorem miX8_hand : Cond.instanceMethod yX8_hand ∈ zlwg ∧ Cond.selects yX8_hand.cls yX8_hand yX8_hand ∈ zlwg := ⟨zlwg_of (List.mem_of_getElem? (i := 1355) (by decide +kernel)) rfl, zlwg_of (List.mem_of_getElem? (i := 1356) (by decide +kernel)) rfl⟩
theorem mpX7_weigh : zMp yX7_weigh cX7_weigh 4 (some .int) 3 := ⟨zlwg_of (List.mem_of_getElem? (i := 808) (by decide +kernel)) rfl, zlwg_of (List.mem_of_getElem? (i := 137) (by decide +kernel)) rfl, by decide, by decide, by decide +kernel⟩
theorem miX7_weigh : Cond.instanceMethod yX7_weigh ∈ zlwg ∧ Cond.selects yX7_weigh.cls yX7_weigh yX7_weigh ∈ zlwg := ⟨zlwg_of (List.mem_of_getElem? (i := 806) (by decide +kernel)) rfl, zlwg_of (List.mem_of_getElem? (i := 807) (by decide +kernel)) rfl⟩
theorem mpX8_weigh : zMp yX8_weigh cX8_weigh 5 (some .int) 3 := ⟨zlwg_of (List.mem_of_getElem? (i := 1408) (by decide +kernel)) rfl, zlwg_of (List.mem_of_getElem? (i := 145) (by decide +kernel)) rfl, by decide, by decide, by decide +kernel⟩
theorem miX8_weigh : Cond.instanceMethod yX8_weigh ∈ zlwg ∧ Cond.selects yX8_weigh.cls yX8_weigh yX8_weigh ∈ zlwg := ⟨zlwg_of (List.mem_of_getElem? (i := 1406) (by decide +kernel)) rfl, zlwg_of (List.mem_of_getElem? (i := 1407) (by decide +kernel)) rfl⟩
theorem mpX7_pair : zMp yX7_pair cX7_pair 5 (some .int) 4 := ⟨zlwg_of (List.mem_of_getElem? (i := 827) (by decide +kernel)) rfl, zlwg_of (List.mem_of_getElem? (i := 137) (by decide +kernel)) rfl, by decide, by decide, by decide +kernel⟩
theorem miX7_pair : Cond.instanceMethod yX7_pair ∈ zlwg ∧ Cond.selects yX7_pair.cls yX7_pair yX7_pair ∈ zlwg := ⟨zlwg_of (List.mem_of_getElem? (i := 825) (by decide +kernel)) rfl, zlwg_of (List.mem_of_getElem? (i := 826) (by decide +kernel)) rfl⟩
theorem mpX8_pair : zMp yX8_pair cX8_pair 5 (some .int) 4 := ⟨zlwg_of (List.mem_of_getElem? (i := 1413) (by decide +kernel)) rfl, zlwg_of (List.mem_of_getElem? (i := 145) (by decide +kernel)) rfl, by decide, by decide, by decide +kernel⟩
theorem miX8_pair : Cond.instanceMethod yX8_pair ∈ zlwg ∧ Cond.selects yX8_pair.cls yX8_pair yX8_pair ∈ zlwg := ⟨zlwg_of (List.mem_of_getElem? (i := 1411) (by decide +kernel)) rfl, zlwg_of (List.mem_of_getElem? (i := 1412) (by decide +kernel)) rfl⟩
theorem mpX7_unweigh : zMp yX7_unweigh cX7_unweigh 1 (some .int) 0 := ⟨zlwg_of (List.mem_of_getElem? (i := 839) (by decide +kernel)) rfl, zlwg_of (List.mem_of_getElem? (i := 137) (by decide +kernel)) rfl, by decide, by decide, by decide +kernel⟩
theorem miX7_unweigh : Cond.instanceMethod yX7_unweigh ∈ zlwg ∧ Cond.selects yX7_unweigh.cls yX7_unweigh yX7_unweigh ∈ zlwg := ⟨zlwg_of (List.mem_of_getElem? (i := 837) (by decide +kernel)) rfl, zlwg_of (List.mem_of_getElem? (i := 838) (by decide +kernel)) rfl⟩
theorem mpX8_unweigh : zMp yX8_unweigh cX8_unweigh 3 (some .int) 0 := ⟨zlwg_of (List.mem_of_getElem? (i := 1417) (by decide +kernel)) rfl, zlwg_of (List.mem_of_getElem? (i := 145) (by decide +kernel)) rfl, by decide, by decide, by decide +kernel⟩
theorem miX8_unweigh : Cond.instanceMethod yX8_unweigh ∈ zlwg ∧ Cond.selects yX8_unweigh.cls yX8_unweigh yX8_unweigh ∈ zlwg := ⟨zlwg_of (List.mem_of_getElem? (i := 1415) (by decide +kernel)) rfl, zlwg_of (List.mem_of_getElem? (i := 1416) (by decide +kernel)) rfl⟩
theorem mpX7_agree : zMp yX7_agree cX7_agree 1 (some .int) 0 := ⟨zlwg_of (List.mem_of_getElem? (i := 847) (by decide +kernel)) rfl, zlwg_of (List.mem_of_getElem? (i := 137) (by decide +kernel)) rfl, by decide, by decide, by decide +kernel⟩
theorem miX7_agree : Cond.instanceMethod yX7_agree ∈ zlwg ∧ Cond.selects yX7_agree.cls yX7_agree yX7_agree ∈ zlwg := ⟨zlwg_of (List.mem_of_getElem? (i := 845) (by decide +kernel)) rfl, zlwg_of (List.mem_of_getElem? (i := 846) (by decide +kernel)) rfl⟩
theorem mpX8_agree : zMp yX8_agree cX8_agree 1 (some .int) 0 := ⟨zlwg_of (List.mem_of_getElem? (i := 1421) (by decide +kernel)) rfl, zlwg_of (List.mem_of_getElem? (i := 145) (by decide +kernel)) rfl, by decide, by decide, by decide +kernel⟩
theorem miX8_agree : Cond.instanceMethod yX8_agree ∈ zlwg ∧ Cond.selects yX8_agree.cls yX8_agree yX8_agree ∈ zlwg := ⟨zlwg_of (List.mem_of_getElem? (i := 1419) (by decide +kernel)) rfl, zlwg_of (List.mem_of_getElem? (i := 1420) (by decide +kernel)) rfl⟩
theorem mpX7_odds : zMp yX7_odds cX7_odds 5 (some .int) 2 := ⟨zlwg_of (List.mem_of_getElem? (i := 914) (by decide +kernel)) rfl, zlwg_of (List.mem_of_getElem? (i := 137) (by decide +kernel)) rfl, by decide, by decide, by decide +kernel⟩
theorem miX7_odds : Cond.instanceMethod yX7_odds ∈ zlwg ∧ Cond.selects yX7_odds.cls yX7_odds yX7_odds ∈ zlwg := ⟨zlwg_of (List.mem_of_getElem? (i := 912) (by decide +kernel)) rfl, zlwg_of (List.mem_of_getElem? (i := 913) (by decide +kernel)) rfl⟩
theorem mpX8_odds : zMp yX8_odds cX8_odds 11 (some .int) 2 := ⟨zlwg_of (List.mem_of_getElem? (i := 1460) (by decide +kernel)) rfl, zlwg_of (List.mem_of_getElem? (i := 145) (by decide +kernel)) rfl, by decide, by decide, by decide +kernel⟩
theorem miX8_odds : Cond.instanceMethod yX8_odds ∈ zlwg ∧ Cond.selects yX8_odds.cls yX8_odds yX8_odds ∈ zlwg := ⟨zlwg_of (List.mem_of_getElem? (i := 1458) (by decide +kernel)) rfl, zlwg_of (List.mem_of_getElem? (i := 1459) (by decide +kernel)) rfl⟩
theorem mpX7_raise : zMp yX7_raise cX7_raise 4 (some .int) 1 := ⟨zlwg_of (List.mem_of_getElem? (i := 930) (by decide +kernel)) rfl, zlwg_of (List.mem_of_getElem? (i := 137) (by decide +kernel)) rfl, by decide, by decide, by decide +kernel⟩
theorem miX7_raise : Cond.instanceMethod yX7_raise ∈ zlwg ∧ Cond.selects yX7_raise.cls yX7_raise yX7_raise ∈ zlwg := ⟨zlwg_of (List.mem_of_getElem? (i := 928) (by decide +kernel)) rfl, zlwg_of (List.mem_of_getElem? (i := 929) (by decide +kernel)) rfl⟩
theorem mpX8_raise : zMp yX8_raise cX8_raise 9 (some .int) 1 := ⟨zlwg_of (List.mem_of_getElem? (i := 1469) (by decide +kernel)) rfl, zlwg_of (List.mem_of_getElem? (i := 145) (by decide +kernel)) rfl, by decide, by decide, by decide +kernel⟩
theorem miX8_raise : Cond.instanceMethod yX8_raise ∈ zlwg ∧ Cond.selects yX8_raise.cls yX8_raise yX8_raise ∈ zlwg := ⟨zlwg_of (List.mem_of_getElem? (i := 1467) (by decide +kernel)) rfl, zlwg_of (List.mem_of_getElem? (i := 1468) (by decide +kernel)) rfl⟩
theorem mpX7_kind : zMp yX7_kind cX7_kind 2 (some .int) 1 := ⟨zlwg_of (List.mem_of_getElem? (i := 942) (by decide +kernel)) rfl, zlwg_of (List.mem_of_getElem? (i := 137) (by decide +kernel)) rfl, by decide, by decide, by decide +kernel⟩
theorem miX7_kind : Cond.instanceMethod yX7_kind ∈ zlwg ∧ Cond.selects yX7_kind.cls yX7_kind yX7_kind ∈ zlwg := ⟨zlwg_of (List.mem_of_getElem? (i := 940) (by decide +kernel)) rfl, zlwg_of (List.mem_of_getElem? (i := 941) (by decide +kernel)) rfl⟩
theorem mpX8_kind : zMp yX8_kind cX8_kind 2 (some .int) 1 := ⟨zlwg_of (List.mem_of_getElem? (i := 1473) (by decide +kernel)) rfl, zlwg_of (List.mem_of_getElem? (i := 145) (by decide +kernel)) rfl, by decide, by decide, by decide +kernel⟩
theorem miX8_kind : Cond.instanceMethod yX8_kind ∈ zlwg ∧ Cond.selects yX8_kind.cls yX8_kind yX8_kind ∈ zlwg := ⟨zlwg_of (List.mem_of_getElem? (i := 1471) (by decide +kernel)) rfl, zlwg_of (List.mem_of_getElem? (i := 1472) (by decide +kernel)) rfl⟩
theorem mpX7_as : zMp yX7_as cX7_as 3 (some .int) 2 := ⟨zlwg_of (List.mem_of_getElem? (i := 954) (by decide +kernel)) rfl, zlwg_of (List.mem_of_getElem? (i := 137) (by decide +kernel)) rfl, by decide, by decide, by decide +kernel⟩
theorem miX7_as : Cond.instanceMethod yX7_as ∈ zlwg ∧ Cond.selects yX7_as.cls yX7_as yX7_as ∈ zlwg := ⟨zlwg_of (List.mem_of_getElem? (i := 952) (by decide +kernel)) rfl, zlwg_of (List.mem_of_getElem? (i := 953) (by decide +kernel)) rfl⟩
theorem mpX8_as : zMp yX8_as cX8_as 3 (some .int) 2 := ⟨zlwg_of (List.mem_of_getElem? (i := 1485) (by decide +kernel)) rfl, zlwg_of (List.mem_of_getElem? (i := 145) (by decide +kernel)) rfl, by decide, by decide, by decide +kernel⟩
theorem miX8_as : Cond.instanceMethod yX8_as ∈ zlwg ∧ Cond.selects yX8_as.cls yX8_as yX8_as ∈ zlwg := ⟨zlwg_of (List.mem_of_getElem? (i := 1483) (by decide +kernel)) rfl, zlwg_of (List.mem_of_getElem? (i := 1484) (by decide +kernel)) rfl⟩
theorem mpX7_ask : zMp yX7_ask cX7_ask 3 (some .int) 2 := ⟨zlwg_of (List.mem_of_getElem? (i := 965) (by decide +kernel)) rfl, zlwg_of (List.mem_of_getElem? (i := 137) (by decide +kernel)) rfl, by decide, by decide, by decide +kernel⟩
theorem miX7_ask : Cond.instanceMethod yX7_ask ∈ zlwg ∧ Cond.selects yX7_ask.cls yX7_ask yX7_ask ∈ zlwg := ⟨zlwg_of (List.mem_of_getElem? (i := 963) (by decide +kernel)) rfl, zlwg_of (List.mem_of_getElem? (i := 964) (by decide +kernel)) rfl⟩
theorem mpX8_ask : zMp yX8_ask cX8_ask 3 (some .int) 2 := ⟨zlwg_of (List.mem_of_getElem? (i := 1492) (by decide +kernel)) rfl, zlwg_of (List.mem_of_getElem? (i := 145) (by decide +kernel)) rfl, by decide, by decide, by decide +kernel⟩
theorem miX8_ask : Cond.instanceMethod yX8_ask ∈ zlwg ∧ Cond.selects yX8_ask.cls yX8_ask yX8_ask ∈ zlwg := ⟨zlwg_of (List.mem_of_getElem? (i := 1490) (by decide +kernel)) rfl, zlwg_of (List.mem_of_getElem? (i := 1491) (by decide +kernel)) rfl⟩
theorem mpX7_trace : zMp yX7_trace cX7_trace 2 (some .int) 1 := ⟨zlwg_of (List.mem_of_getElem? (i := 1029) (by decide +kernel)) rfl, zlwg_of (List.mem_of_getElem? (i := 137) (by decide +kernel)) rfl, by decide, by decide, by decide +kernel⟩
theorem miX7_trace : Cond.instanceMethod yX7_trace ∈ zlwg ∧ Cond.selects yX7_trace.cls yX7_trace yX7_trace ∈ zlwg := ⟨zlwg_of (List.mem_of_getElem? (i := 1027) (by decide +kernel)) rfl, zlwg_of (List.mem_of_getElem? (i := 1028) (by decide +kernel)) rfl⟩
theorem mpX8_trace : zMp yX8_trace cX8_trace 2 (some .int) 1 := ⟨zlwg_of (List.mem_of_getElem? (i := 1512) (by decide +kernel)) rfl, zlwg_of (List.mem_of_getElem? (i := 145) (by decide +kernel)) rfl, by decide, by decide, by decide +kernel⟩
theorem miX8_trace : Cond.instanceMethod yX8_trace ∈ zlwg ∧ Cond.selects yX8_trace.cls yX8_trace yX8_trace ∈ zlwg := ⟨zlwg_of (List.mem_of_getElem? (i := 1510) (by decide +kernel)) rfl, zlwg_of (List.mem_of_getElem? (i := 1511) (by decide +kernel)) rfl⟩
theorem mpX7_count : zMp yX7_count cX7_count 2 (some .int) 1 := ⟨zlwg_of (List.mem_of_getElem? (i := 1033) (by decide +kernel)) rfl, zlwg_of (List.mem_of_getElem? (i := 137) (by decide +kernel)) rfl, by decide, by decide, by decide +kernel⟩
theorem miX7_count : Cond.instanceMethod yX7_count ∈ zlwg ∧ Cond.selects yX7_count.cls yX7_count yX7_count ∈ zlwg := ⟨zlwg_of (List.mem_of_getElem? (i := 1031) (by decide +kernel)) rfl, zlwg_of (List.mem_of_getElem? (i := 1032) (by decide +kernel)) rfl⟩
theorem mpX8_count : zMp yX8_count cX8_count 4 (some .int) 1 := ⟨zlwg_of (List.mem_of_getElem? (i := 1516) (by decide +kernel)) rfl, zlwg_of (List.mem_of_getElem? (i := 145) (by decide +kernel)) rfl, by decide, by decide, by decide +kernel⟩
theorem miX8_count : Cond.instanceMethod yX8_count ∈ zlwg ∧ Cond.selects yX8_count.cls yX8_count yX8_count ∈ zlwg := ⟨zlwg_of (List.mem_of_getElem? (i := 1514) (by decide +kernel)) rfl, zlwg_of (List.mem_of_getElem? (i := 1515) (by decide +kernel)) rfl⟩
theorem mpX7_status : zMp yX7_status cX7_status 1 (some .int) 0 := ⟨zlwg_of (List.mem_of_getElem? (i := 1046) (by decide +kernel)) rfl, zlwg_of (List.mem_of_getElem? (i := 137) (by decide +kernel)) rfl, by decide, by decide, by decide +kernel⟩
theorem miX7_status : Cond.instanceMethod yX7_status ∈ zlwg ∧ Cond.selects yX7_status.cls yX7_status yX7_status ∈ zlwg := ⟨zlwg_of (List.mem_of_getElem? (i := 1044) (by decide +kernel)) rfl, zlwg_of (List.mem_of_getElem? (i := 1045) (by decide +kernel)) rfl⟩
theorem mpX8_status : zMp yX8_status cX8_status 1 (some .int) 0 := ⟨zlwg_of (List.mem_of_getElem? (i := 1520) (by decide +kernel)) rfl, zlwg_of (List.mem_of_getElem? (i := 145) (by decide +kernel)) rfl, by decide, by decide, by decide +kernel⟩
theorem miX8_status : Cond.instanceMethod yX8_status ∈ zlwg ∧ Cond.selects yX8_status.cls yX8_status yX8_status ∈ zlwg := ⟨zlwg_of (List.mem_of_getElem? (i := 1518) (by decide +kernel)) rfl, zlwg_of (List.mem_of_getElem? (i := 1519) (by decide +kernel)) rfl⟩
set_option maxRecDepth 100000 in
set_option maxHeartbeats 40000000 in
theorem tL_18 {p : Program} {l : Launch} {e : Env} {s : State} {m : MethodId} {b L : Nat} {xs : Nat → Int32} {below : List Frame} {meth : Method} {c : Code} {D : va_G} {ca : Nat → ClassId} {xa ad am : Nat → Nat} (hc : zCx p s m #[Value.ref b] meth c code 4 RL D ca xa (fun q => s.heap.size ≤ q) (zw2 ad am ca)) (hr : meth.sig.returnType = ret ∧ 73 ≤ 600000 ∧ 2606 ≤ 7302250) (hX : va_X b L xs s s.heap ∧ b < s.heap.size ∧ ¬ (fun q => s.heap.size ≤ q) b) (N : Nat) : ∀ (n : Nat) (x3 : Int32) (σc σm : zSt), zGO p l e room_1 s m #[Value.ref b] below meth c 73 2606 (zw2 ad am ca) D (fun q => s.heap.size ≤ q) 4 (fun (a : Int32) (_ : zSt × zSt) t => a = 1 → lw_Z below #[Value.ref b] s t) (fL_18 N xs L n x3 σc σm) (σc, σm) 18 [(0, .ref b), (1, .ref (ad 0)), (2, .ref (am 0)), (3, .int x3)] [] := by
  intro n
  induction n with
  | zero =>
    intro x3 σc σm
    exact z_none
  | succ n ih =>
    intro x3 σc σm
    unfold fL_18
    refine z_iload_n hc dL_law_18 3 rfl ?_
    refine z_aload_n hc dL_law_19 0 rfl ?_
    refine z_srcLen hc hX dL_law_20 ?_
    refine z_bipush (v := (6 : Int32)) hc dL_law_21 (by decide) ?_
    refine z_isub hc dL_law_23 ?_
    refine z_icmp_gt (tgt := 1121) hc dL_law_24 (by decide) ?_ ?_
    · refine z_iconst (v := (1 : Int32)) hc dL_law_1121 (by decide) ?_
      exact z_law1 hc hr dL_law_1122
    · refine z_aload_n hc dL_law_27 0 rfl ?_
      refine z_iload_n hc dL_law_28 3 rfl ?_
      refine z_src hc hX dL_law_29 (fun v1 => ?_)
      refine z_bipush (v := (31 : Int32)) hc dL_law_30 (by decide) ?_
      refine z_iand hc dL_law_32 ?_
      refine z_nm (fun v2 => ?_)
      refine z_ite (fun h0 => ?_) (fun h0 => ?_)
      · refine z_swIn (tgt := 172) (off := 139) hc dL_law_33 (by rw [h0]; decide) (by rw [h0]; decide) (by rw [h0]; decide) (by decide) ?_
        refine z_aload_n hc dL_law_172 1 rfl ?_
        refine z_aload_n hc dL_law_173 0 rfl ?_
        refine z_iload_n hc dL_law_174 3 rfl ?_
        refine z_iconst (v := (1 : Int32)) hc dL_law_175 (by decide) ?_
        refine z_iadd hc dL_law_176 ?_
        refine z_src hc hX dL_law_177 (fun v3 => ?_)
        refine z_aload_n hc dL_law_178 0 rfl ?_
        refine z_iload_n hc dL_law_179 3 rfl ?_
        refine z_iconst (v := (2 : Int32)) hc dL_law_180 (by decide) ?_
        refine z_iadd hc dL_law_181 ?_
        refine z_src hc hX dL_law_182 (fun v4 => ?_)
        refine z_aload_n hc dL_law_183 0 rfl ?_
        refine z_iload_n hc dL_law_184 3 rfl ?_
        refine z_iconst (v := (3 : Int32)) hc dL_law_185 (by decide) ?_
        refine z_iadd hc dL_law_186 ?_
        refine z_src hc hX dL_law_187 (fun v5 => ?_)
        refine z_callC (As := [.int v3, .int v4, .int v5]) (rest := []) hc dL_law_188 (fun _ _ _ h => tX7_sheet h) rfl mpX7_sheet miX7_sheet kmL_13 ⟨rfl, rfl, Nat.le_of_ble_eq_true rfl, Nat.le_of_ble_eq_true rfl⟩ ⟨Nat.le_of_ble_eq_true rfl, Nat.le_of_ble_eq_true rfl⟩ rfl (Nat.le_of_ble_eq_true rfl) (fun b6 σ7 => ?_)
        refine z_aload_n hc dL_law_191 2 rfl ?_
        refine z_aload_n hc dL_law_192 0 rfl ?_
        refine z_iload_n hc dL_law_193 3 rfl ?_
        refine z_iconst (v := (1 : Int32)) hc dL_law_194 (by decide) ?_
        refine z_iadd hc dL_law_195 ?_
        refine z_src hc hX dL_law_196 (fun v8 => ?_)
        refine z_aload_n hc dL_law_197 0 rfl ?_
        refine z_iload_n hc dL_law_198 3 rfl ?_
        refine z_iconst (v := (2 : Int32)) hc dL_law_199 (by decide) ?_
        refine z_iadd hc dL_law_200 ?_
        refine z_src hc hX dL_law_201 (fun v9 => ?_)
        refine z_aload_n hc dL_law_202 0 rfl ?_
        refine z_iload_n hc dL_law_203 3 rfl ?_
        refine z_iconst (v := (3 : Int32)) hc dL_law_204 (by decide) ?_
        refine z_iadd hc dL_law_205 ?_
        refine z_src hc hX dL_law_206 (fun v10 => ?_)
        refine z_callM (As := [.int v8, .int v9, .int v10]) (rest := [.int b6]) hc dL_law_207 (fun _ _ _ h => tX8_sheet h) rfl mpX8_sheet miX8_sheet kmL_17 ⟨rfl, rfl, Nat.le_of_ble_eq_true rfl, Nat.le_of_ble_eq_true rfl⟩ ⟨Nat.le_of_ble_eq_true rfl, Nat.le_of_ble_eq_true rfl⟩ rfl (Nat.le_of_ble_eq_true rfl) (fun b11 σ12 => ?_)
        refine z_icmp_eq (tgt := 1115) hc dL_law_210 (by decide) ?_ ?_
        · refine z_iinc (v := (x3 + (6 : Int32))) (lv' := [(3, .int (x3 + (6 : Int32))), (0, .ref b), (1, .ref (ad 0)), (2, .ref (am 0))]) hc dL_law_1115 3 rfl rfl (by decide) rfl ?_
          refine z_goto (tgt := 18) hc dL_law_1118 (by decide) ?_
          refine z_sub [1, 2, 3, 0] rfl ?_
          exact ih _ _ _
        · refine z_iconst (v := (0 : Int32)) hc dL_law_213 (by decide) ?_
          exact z_law0 hc dL_law_214
      refine z_ite (fun h1 => ?_) (fun h1 => ?_)
      · refine z_swIn (tgt := 215) (off := 182) hc dL_law_33 (by rw [h1]; decide) (by rw [h1]; decide) (by rw [h1]; decide) (by decide) ?_
        refine z_aload_n hc dL_law_215 1 rfl ?_
        refine z_aload_n hc dL_law_216 0 rfl ?_
        refine z_iload_n hc dL_law_217 3 rfl ?_
        refine z_iconst (v := (1 : Int32)) hc dL_law_218 (by decide) ?_
        refine z_iadd hc dL_law_219 ?_
        refine z_src hc hX dL_law_220 (fun v13 => ?_)
        refine z_aload_n hc dL_law_221 0 rfl ?_
        refine z_iload_n hc dL_law_222 3 rfl ?_
        refine z_iconst (v := (2 : Int32)) hc dL_law_223 (by decide) ?_
        refine z_iadd hc dL_law_224 ?_
        refine z_src hc hX dL_law_225 (fun v14 => ?_)
        refine z_aload_n hc dL_law_226 0 rfl ?_
        refine z_iload_n hc dL_law_227 3 rfl ?_
        refine z_iconst (v := (3 : Int32)) hc dL_law_228 (by decide) ?_
        refine z_iadd hc dL_law_229 ?_
        refine z_src hc hX dL_law_230 (fun v15 => ?_)
        refine z_callC (As := [.int v13, .int v14, .int v15]) (rest := []) hc dL_law_231 (fun _ _ _ h => tX7_set h) rfl mpX7_set miX7_set kmL_18 ⟨rfl, rfl, Nat.le_of_ble_eq_true rfl, Nat.le_of_ble_eq_true rfl⟩ ⟨Nat.le_of_ble_eq_true rfl, Nat.le_of_ble_eq_true rfl⟩ rfl (Nat.le_of_ble_eq_true rfl) (fun b16 σ17 => ?_)
        refine z_aload_n hc dL_law_234 2 rfl ?_
        refine z_aload_n hc dL_law_235 0 rfl ?_
        refine z_iload_n hc dL_law_236 3 rfl ?_
        refine z_iconst (v := (1 : Int32)) hc dL_law_237 (by decide) ?_
        refine z_iadd hc dL_law_238 ?_
        refine z_src hc hX dL_law_239 (fun v18 => ?_)
        refine z_aload_n hc dL_law_240 0 rfl ?_
        refine z_iload_n hc dL_law_241 3 rfl ?_
        refine z_iconst (v := (2 : Int32)) hc dL_law_242 (by decide) ?_
        refine z_iadd hc dL_law_243 ?_
        refine z_src hc hX dL_law_244 (fun v19 => ?_)
        refine z_aload_n hc dL_law_245 0 rfl ?_
        refine z_iload_n hc dL_law_246 3 rfl ?_
        refine z_iconst (v := (3 : Int32)) hc dL_law_247 (by decide) ?_
        refine z_iadd hc dL_law_248 ?_
        refine z_src hc hX dL_law_249 (fun v20 => ?_)
        refine z_callM (As := [.int v18, .int v19, .int v20]) (rest := [.int b16]) hc dL_law_250 (fun _ _ _ h => tX8_set h) rfl mpX8_set miX8_set kmL_21 ⟨rfl, rfl, Nat.le_of_ble_eq_true rfl, Nat.le_of_ble_eq_true rfl⟩ ⟨Nat.le_of_ble_eq_true rfl, Nat.le_of_ble_eq_true rfl⟩ rfl (Nat.le_of_ble_eq_true rfl) (fun b21 σ22 => ?_)
        refine z_icmp_eq (tgt := 1115) hc dL_law_253 (by decide) ?_ ?_
        · refine z_iinc (v := (x3 + (6 : Int32))) (lv' := [(3, .int (x3 + (6 : Int32))), (0, .ref b), (1, .ref (ad 0)), (2, .ref (am 0))]) hc dL_law_1115 3 rfl rfl (by decide) rfl ?_
          refine z_goto (tgt := 18) hc dL_law_1118 (by decide) ?_
          refine z_sub [1, 2, 3, 0] rfl ?_
          exact ih _ _ _
        · refine z_iconst (v := (0 : Int32)) hc dL_law_256 (by decide) ?_
          exact z_law0 hc dL_law_257
      refine z_ite (fun h2 => ?_) (fun h2 => ?_)
      · refine z_swIn (tgt := 258) (off := 225) hc dL_law_33 (by rw [h2]; decide) (by rw [h2]; decide) (by rw [h2]; decide) (by decide) ?_
        refine z_aload_n hc dL_law_258 1 rfl ?_
        refine z_aload_n hc dL_law_259 0 rfl ?_
        refine z_iload_n hc dL_law_260 3 rfl ?_
        refine z_iconst (v := (1 : Int32)) hc dL_law_261 (by decide) ?_
        refine z_iadd hc dL_law_262 ?_
        refine z_src hc hX dL_law_263 (fun v23 => ?_)
        refine z_aload_n hc dL_law_264 0 rfl ?_
        refine z_iload_n hc dL_law_265 3 rfl ?_
        refine z_iconst (v := (2 : Int32)) hc dL_law_266 (by decide) ?_
        refine z_iadd hc dL_law_267 ?_
        refine z_src hc hX dL_law_268 (fun v24 => ?_)
        refine z_aload_n hc dL_law_269 0 rfl ?_
        refine z_iload_n hc dL_law_270 3 rfl ?_
        refine z_iconst (v := (3 : Int32)) hc dL_law_271 (by decide) ?_
        refine z_iadd hc dL_law_272 ?_
        refine z_src hc hX dL_law_273 (fun v25 => ?_)
        refine z_aload_n hc dL_law_274 0 rfl ?_
        refine z_iload_n hc dL_law_275 3 rfl ?_
        refine z_iconst (v := (4 : Int32)) hc dL_law_276 (by decide) ?_
        refine z_iadd hc dL_law_277 ?_
        refine z_src hc hX dL_law_278 (fun v26 => ?_)
        refine z_aload_n hc dL_law_279 0 rfl ?_
        refine z_iload_n hc dL_law_280 3 rfl ?_
        refine z_iconst (v := (5 : Int32)) hc dL_law_281 (by decide) ?_
        refine z_iadd hc dL_law_282 ?_
        refine z_src hc hX dL_law_283 (fun v27 => ?_)
        refine z_callC (As := [.int v23, .int v24, .int v25, .int v26, .int v27]) (rest := []) hc dL_law_284 (fun _ _ _ h => tX7_copy h) rfl mpX7_copy miX7_copy kmL_22 ⟨rfl, rfl, Nat.le_of_ble_eq_true rfl, Nat.le_of_ble_eq_true rfl⟩ ⟨Nat.le_of_ble_eq_true rfl, Nat.le_of_ble_eq_true rfl⟩ rfl (Nat.le_of_ble_eq_true rfl) (fun b28 σ29 => ?_)
        refine z_aload_n hc dL_law_287 2 rfl ?_
        refine z_aload_n hc dL_law_288 0 rfl ?_
        refine z_iload_n hc dL_law_289 3 rfl ?_
        refine z_iconst (v := (1 : Int32)) hc dL_law_290 (by decide) ?_
        refine z_iadd hc dL_law_291 ?_
        refine z_src hc hX dL_law_292 (fun v30 => ?_)
        refine z_aload_n hc dL_law_293 0 rfl ?_
        refine z_iload_n hc dL_law_294 3 rfl ?_
        refine z_iconst (v := (2 : Int32)) hc dL_law_295 (by decide) ?_
        refine z_iadd hc dL_law_296 ?_
        refine z_src hc hX dL_law_297 (fun v31 => ?_)
        refine z_aload_n hc dL_law_298 0 rfl ?_
        refine z_iload_n hc dL_law_299 3 rfl ?_
        refine z_iconst (v := (3 : Int32)) hc dL_law_300 (by decide) ?_
        refine z_iadd hc dL_law_301 ?_
        refine z_src hc hX dL_law_302 (fun v32 => ?_)
        refine z_aload_n hc dL_law_303 0 rfl ?_
        refine z_iload_n hc dL_law_304 3 rfl ?_
        refine z_iconst (v := (4 : Int32)) hc dL_law_305 (by decide) ?_
        refine z_iadd hc dL_law_306 ?_
        refine z_src hc hX dL_law_307 (fun v33 => ?_)
        refine z_aload_n hc dL_law_308 0 rfl ?_
        refine z_iload_n hc dL_law_309 3 rfl ?_
        refine z_iconst (v := (5 : Int32)) hc dL_law_310 (by decide) ?_
        refine z_iadd hc dL_law_311 ?_
        refine z_src hc hX dL_law_312 (fun v34 => ?_)
        refine z_callM (As := [.int v30, .int v31, .int v32, .int v33, .int v34]) (rest := [.int b28]) hc dL_law_313 (fun _ _ _ h => tX8_copy h) rfl mpX8_copy miX8_copy kmL_26 ⟨rfl, rfl, Nat.le_of_ble_eq_true rfl, Nat.le_of_ble_eq_true rfl⟩ ⟨Nat.le_of_ble_eq_true rfl, Nat.le_of_ble_eq_true rfl⟩ rfl (Nat.le_of_ble_eq_true rfl) (fun b35 σ36 => ?_)
        refine z_icmp_eq (tgt := 1115) hc dL_law_316 (by decide) ?_ ?_
        · refine z_iinc (v := (x3 + (6 : Int32))) (lv' := [(3, .int (x3 + (6 : Int32))), (0, .ref b), (1, .ref (ad 0)), (2, .ref (am 0))]) hc dL_law_1115 3 rfl rfl (by decide) rfl ?_
          refine z_goto (tgt := 18) hc dL_law_1118 (by decide) ?_
          refine z_sub [1, 2, 3, 0] rfl ?_
          exact ih _ _ _
        · refine z_iconst (v := (0 : Int32)) hc dL_law_319 (by decide) ?_
          exact z_law0 hc dL_law_320
      refine z_ite (fun h3 => ?_) (fun h3 => ?_)
      · refine z_swIn (tgt := 321) (off := 288) hc dL_law_33 (by rw [h3]; decide) (by rw [h3]; decide) (by rw [h3]; decide) (by decide) ?_
        refine z_aload_n hc dL_law_321 1 rfl ?_
        refine z_aload_n hc dL_law_322 0 rfl ?_
        refine z_iload_n hc dL_law_323 3 rfl ?_
        refine z_iconst (v := (1 : Int32)) hc dL_law_324 (by decide) ?_
        refine z_iadd hc dL_law_325 ?_
        refine z_src hc hX dL_law_326 (fun v37 => ?_)
        refine z_callC (As := [.int v37]) (rest := []) hc dL_law_327 (fun _ _ _ h => tX7_drop h) rfl mpX7_drop miX7_drop kmL_27 ⟨rfl, rfl, Nat.le_of_ble_eq_true rfl, Nat.le_of_ble_eq_true rfl⟩ ⟨Nat.le_of_ble_eq_true rfl, Nat.le_of_ble_eq_true rfl⟩ rfl (Nat.le_of_ble_eq_true rfl) (fun b38 σ39 => ?_)
        refine z_aload_n hc dL_law_330 2 rfl ?_
        refine z_aload_n hc dL_law_331 0 rfl ?_
        refine z_iload_n hc dL_law_332 3 rfl ?_
        refine z_iconst (v := (1 : Int32)) hc dL_law_333 (by decide) ?_
        refine z_iadd hc dL_law_334 ?_
        refine z_src hc hX dL_law_335 (fun v40 => ?_)
        refine z_callM (As := [.int v40]) (rest := [.int b38]) hc dL_law_336 (fun _ _ _ h => tX8_drop h) rfl mpX8_drop miX8_drop kmL_31 ⟨rfl, rfl, Nat.le_of_ble_eq_true rfl, Nat.le_of_ble_eq_true rfl⟩ ⟨Nat.le_of_ble_eq_true rfl, Nat.le_of_ble_eq_true rfl⟩ rfl (Nat.le_of_ble_eq_true rfl) (fun b41 σ42 => ?_)
        refine z_icmp_eq (tgt := 1115) hc dL_law_339 (by decide) ?_ ?_
        · refine z_iinc (v := (x3 + (6 : Int32))) (lv' := [(3, .int (x3 + (6 : Int32))), (0, .ref b), (1, .ref (ad 0)), (2, .ref (am 0))]) hc dL_law_1115 3 rfl rfl (by decide) rfl ?_
          refine z_goto (tgt := 18) hc dL_law_1118 (by decide) ?_
          refine z_sub [1, 2, 3, 0] rfl ?_
          exact ih _ _ _
        · refine z_iconst (v := (0 : Int32)) hc dL_law_342 (by decide) ?_
          exact z_law0 hc dL_law_343
      refine z_ite (fun h4 => ?_) (fun h4 => ?_)
      · refine z_swIn (tgt := 344) (off := 311) hc dL_law_33 (by rw [h4]; decide) (by rw [h4]; decide) (by rw [h4]; decide) (by decide) ?_
        refine z_aload_n hc dL_law_344 1 rfl ?_
        refine z_aload_n hc dL_law_345 0 rfl ?_
        refine z_iload_n hc dL_law_346 3 rfl ?_
        refine z_iconst (v := (1 : Int32)) hc dL_law_347 (by decide) ?_
        refine z_iadd hc dL_law_348 ?_
        refine z_src hc hX dL_law_349 (fun v43 => ?_)
        refine z_i2l hc dL_law_350 ?_
        refine z_bipush (v := (32 : Int32)) hc dL_law_351 (by decide) ?_
        refine z_lshl hc dL_law_353 ?_
        refine z_aload_n hc dL_law_354 0 rfl ?_
        refine z_iload_n hc dL_law_355 3 rfl ?_
        refine z_iconst (v := (2 : Int32)) hc dL_law_356 (by decide) ?_
        refine z_iadd hc dL_law_357 ?_
        refine z_src hc hX dL_law_358 (fun v44 => ?_)
        refine z_i2l hc dL_law_359 ?_
        refine z_ldc2 hc dL_law_360 kcL_32 ?_
        refine z_land hc dL_law_363 ?_
        refine z_lor hc dL_law_364 ?_
        refine z_aload_n hc dL_law_365 0 rfl ?_
        refine z_iload_n hc dL_law_366 3 rfl ?_
        refine z_iconst (v := (3 : Int32)) hc dL_law_367 (by decide) ?_
        refine z_iadd hc dL_law_368 ?_
        refine z_src hc hX dL_law_369 (fun v45 => ?_)
        refine z_callC (As := [.long ((v43.toInt64 <<< ((32 : Int32).toInt64 &&& 63)) ||| (v44.toInt64 &&& (4294967295 : Int64))), .int v45]) (rest := []) hc dL_law_370 (fun _ _ _ h => tX7_feed h) rfl mpX7_feed miX7_feed kmL_34 ⟨rfl, rfl, Nat.le_of_ble_eq_true rfl, Nat.le_of_ble_eq_true rfl⟩ ⟨Nat.le_of_ble_eq_true rfl, Nat.le_of_ble_eq_true rfl⟩ rfl (Nat.le_of_ble_eq_true rfl) (fun b46 σ47 => ?_)
        refine z_aload_n hc dL_law_373 2 rfl ?_
        refine z_aload_n hc dL_law_374 0 rfl ?_
        refine z_iload_n hc dL_law_375 3 rfl ?_
        refine z_iconst (v := (1 : Int32)) hc dL_law_376 (by decide) ?_
        refine z_iadd hc dL_law_377 ?_
        refine z_src hc hX dL_law_378 (fun v48 => ?_)
        refine z_i2l hc dL_law_379 ?_
        refine z_bipush (v := (32 : Int32)) hc dL_law_380 (by decide) ?_
        refine z_lshl hc dL_law_382 ?_
        refine z_aload_n hc dL_law_383 0 rfl ?_
        refine z_iload_n hc dL_law_384 3 rfl ?_
        refine z_iconst (v := (2 : Int32)) hc dL_law_385 (by decide) ?_
        refine z_iadd hc dL_law_386 ?_
        refine z_src hc hX dL_law_387 (fun v49 => ?_)
        refine z_i2l hc dL_law_388 ?_
        refine z_ldc2 hc dL_law_389 kcL_32 ?_
        refine z_land hc dL_law_392 ?_
        refine z_lor hc dL_law_393 ?_
        refine z_aload_n hc dL_law_394 0 rfl ?_
        refine z_iload_n hc dL_law_395 3 rfl ?_
        refine z_iconst (v := (3 : Int32)) hc dL_law_396 (by decide) ?_
        refine z_iadd hc dL_law_397 ?_
        refine z_src hc hX dL_law_398 (fun v50 => ?_)
        refine z_callM (As := [.long ((v48.toInt64 <<< ((32 : Int32).toInt64 &&& 63)) ||| (v49.toInt64 &&& (4294967295 : Int64))), .int v50]) (rest := [.int b46]) hc dL_law_399 (fun _ _ _ h => tX8_feed h) rfl mpX8_feed miX8_feed kmL_38 ⟨rfl, rfl, Nat.le_of_ble_eq_true rfl, Nat.le_of_ble_eq_true rfl⟩ ⟨Nat.le_of_ble_eq_true rfl, Nat.le_of_ble_eq_true rfl⟩ rfl (Nat.le_of_ble_eq_true rfl) (fun b51 σ52 => ?_)
        refine z_icmp_eq (tgt := 1115) hc dL_law_402 (by decide) ?_ ?_
        · refine z_iinc (v := (x3 + (6 : Int32))) (lv' := [(3, .int (x3 + (6 : Int32))), (0, .ref b), (1, .ref (ad 0)), (2, .ref (am 0))]) hc dL_law_1115 3 rfl rfl (by decide) rfl ?_
          refine z_goto (tgt := 18) hc dL_law_1118 (by decide) ?_
          refine z_sub [1, 2, 3, 0] rfl ?_
          exact ih _ _ _
        · refine z_iconst (v := (0 : Int32)) hc dL_law_405 (by decide) ?_
          exact z_law0 hc dL_law_406
      refine z_ite (fun h5 => ?_) (fun h5 => ?_)
      · refine z_swIn (tgt := 407) (off := 374) hc dL_law_33 (by rw [h5]; decide) (by rw [h5]; decide) (by rw [h5]; decide) (by decide) ?_
        refine z_aload_n hc dL_law_407 1 rfl ?_
        refine z_callC (As := []) (rest := []) hc dL_law_408 (fun _ _ _ h => tX7_net h) rfl mpX7_net miX7_net kmL_39 ⟨rfl, rfl, Nat.le_of_ble_eq_true rfl, Nat.le_of_ble_eq_true rfl⟩ ⟨Nat.le_of_ble_eq_true rfl, Nat.le_of_ble_eq_true rfl⟩ rfl (Nat.le_of_ble_eq_true rfl) (fun b53 σ54 => ?_)
        refine z_aload_n hc dL_law_411 2 rfl ?_
        refine z_callM (As := []) (rest := [.int b53]) hc dL_law_412 (fun _ _ _ h => tX8_net h) rfl mpX8_net miX8_net kmL_43 ⟨rfl, rfl, Nat.le_of_ble_eq_true rfl, Nat.le_of_ble_eq_true rfl⟩ ⟨Nat.le_of_ble_eq_true rfl, Nat.le_of_ble_eq_true rfl⟩ rfl (Nat.le_of_ble_eq_true rfl) (fun b55 σ56 => ?_)
        refine z_icmp_eq (tgt := 1115) hc dL_law_415 (by decide) ?_ ?_
        · refine z_iinc (v := (x3 + (6 : Int32))) (lv' := [(3, .int (x3 + (6 : Int32))), (0, .ref b), (1, .ref (ad 0)), (2, .ref (am 0))]) hc dL_law_1115 3 rfl rfl (by decide) rfl ?_
          refine z_goto (tgt := 18) hc dL_law_1118 (by decide) ?_
          refine z_sub [1, 2, 3, 0] rfl ?_
          exact ih _ _ _
        · refine z_iconst (v := (0 : Int32)) hc dL_law_418 (by decide) ?_
          exact z_law0 hc dL_law_419
      refine z_ite (fun h6 => ?_) (fun h6 => ?_)
      · refine z_swIn (tgt := 420) (off := 387) hc dL_law_33 (by rw [h6]; decide) (by rw [h6]; decide) (by rw [h6]; decide) (by decide) ?_
        refine z_aload_n hc dL_law_420 1 rfl ?_
        refine z_callC (As := []) (rest := []) hc dL_law_421 (fun _ _ _ h => tX7_fault h) rfl mpX7_fault miX7_fault kmL_44 ⟨rfl, rfl, Nat.le_of_ble_eq_true rfl, Nat.le_of_ble_eq_true rfl⟩ ⟨Nat.le_of_ble_eq_true rfl, Nat.le_of_ble_eq_true rfl⟩ rfl (Nat.le_of_ble_eq_true rfl) (fun b57 σ58 => ?_)
        refine z_aload_n hc dL_law_424 2 rfl ?_
        refine z_callM (As := []) (rest := [.int b57]) hc dL_law_425 (fun _ _ _ h => tX8_fault h) rfl mpX8_fault miX8_fault kmL_47 ⟨rfl, rfl, Nat.le_of_ble_eq_true rfl, Nat.le_of_ble_eq_true rfl⟩ ⟨Nat.le_of_ble_eq_true rfl, Nat.le_of_ble_eq_true rfl⟩ rfl (Nat.le_of_ble_eq_true rfl) (fun b59 σ60 => ?_)
        refine z_icmp_eq (tgt := 1115) hc dL_law_428 (by decide) ?_ ?_
        · refine z_iinc (v := (x3 + (6 : Int32))) (lv' := [(3, .int (x3 + (6 : Int32))), (0, .ref b), (1, .ref (ad 0)), (2, .ref (am 0))]) hc dL_law_1115 3 rfl rfl (by decide) rfl ?_
          refine z_goto (tgt := 18) hc dL_law_1118 (by decide) ?_
          refine z_sub [1, 2, 3, 0] rfl ?_
          exact ih _ _ _
        · refine z_iconst (v := (0 : Int32)) hc dL_law_431 (by decide) ?_
          exact z_law0 hc dL_law_432
      refine z_ite (fun h7 => ?_) (fun h7 => ?_)
      · refine z_swIn (tgt := 433) (off := 400) hc dL_law_33 (by rw [h7]; decide) (by rw [h7]; decide) (by rw [h7]; decide) (by decide) ?_
        refine z_aload_n hc dL_law_433 1 rfl ?_
        refine z_aload_n hc dL_law_434 0 rfl ?_
        refine z_iload_n hc dL_law_435 3 rfl ?_
        refine z_iconst (v := (1 : Int32)) hc dL_law_436 (by decide) ?_
        refine z_iadd hc dL_law_437 ?_
        refine z_src hc hX dL_law_438 (fun v61 => ?_)
        refine z_aload_n hc dL_law_439 0 rfl ?_
        refine z_iload_n hc dL_law_440 3 rfl ?_
        refine z_iconst (v := (2 : Int32)) hc dL_law_441 (by decide) ?_
        refine z_iadd hc dL_law_442 ?_
        refine z_src hc hX dL_law_443 (fun v62 => ?_)
        refine z_callC (As := [.int v61, .int v62]) (rest := []) hc dL_law_444 (fun _ _ _ h => tX7_node h) rfl mpX7_node miX7_node kmL_48 ⟨rfl, rfl, Nat.le_of_ble_eq_true rfl, Nat.le_of_ble_eq_true rfl⟩ ⟨Nat.le_of_ble_eq_true rfl, Nat.le_of_ble_eq_true rfl⟩ rfl (Nat.le_of_ble_eq_true rfl) (fun b63 σ64 => ?_)
        refine z_aload_n hc dL_law_447 2 rfl ?_
        refine z_aload_n hc dL_law_448 0 rfl ?_
        refine z_iload_n hc dL_law_449 3 rfl ?_
        refine z_iconst (v := (1 : Int32)) hc dL_law_450 (by decide) ?_
        refine z_iadd hc dL_law_451 ?_
        refine z_src hc hX dL_law_452 (fun v65 => ?_)
        refine z_aload_n hc dL_law_453 0 rfl ?_
        refine z_iload_n hc dL_law_454 3 rfl ?_
        refine z_iconst (v := (2 : Int32)) hc dL_law_455 (by decide) ?_
        refine z_iadd hc dL_law_456 ?_
        refine z_src hc hX dL_law_457 (fun v66 => ?_)
        refine z_callM (As := [.int v65, .int v66]) (rest := [.int b63]) hc dL_law_458 (fun _ _ _ h => tX8_node h) rfl mpX8_node miX8_node kmL_52 ⟨rfl, rfl, Nat.le_of_ble_eq_true rfl, Nat.le_of_ble_eq_true rfl⟩ ⟨Nat.le_of_ble_eq_true rfl, Nat.le_of_ble_eq_true rfl⟩ rfl (Nat.le_of_ble_eq_true rfl) (fun b67 σ68 => ?_)
        refine z_icmp_eq (tgt := 1115) hc dL_law_461 (by decide) ?_ ?_
        · refine z_iinc (v := (x3 + (6 : Int32))) (lv' := [(3, .int (x3 + (6 : Int32))), (0, .ref b), (1, .ref (ad 0)), (2, .ref (am 0))]) hc dL_law_1115 3 rfl rfl (by decide) rfl ?_
          refine z_goto (tgt := 18) hc dL_law_1118 (by decide) ?_
          refine z_sub [1, 2, 3, 0] rfl ?_
          exact ih _ _ _
        · refine z_iconst (v := (0 : Int32)) hc dL_law_464 (by decide) ?_
          exact z_law0 hc dL_law_465
      refine z_ite (fun h8 => ?_) (fun h8 => ?_)
      · refine z_swIn (tgt := 466) (off := 433) hc dL_law_33 (by rw [h8]; decide) (by rw [h8]; decide) (by rw [h8]; decide) (by decide) ?_
        refine z_aload_n hc dL_law_466 1 rfl ?_
        refine z_aload_n hc dL_law_467 0 rfl ?_
        refine z_iload_n hc dL_law_468 3 rfl ?_
        refine z_iconst (v := (1 : Int32)) hc dL_law_469 (by decide) ?_
        refine z_iadd hc dL_law_470 ?_
        refine z_src hc hX dL_law_471 (fun v69 => ?_)
        refine z_aload_n hc dL_law_472 0 rfl ?_
        refine z_iload_n hc dL_law_473 3 rfl ?_
        refine z_iconst (v := (2 : Int32)) hc dL_law_474 (by decide) ?_
        refine z_iadd hc dL_law_475 ?_
        refine z_src hc hX dL_law_476 (fun v70 => ?_)
        refine z_callC (As := [.int v69, .int v70]) (rest := []) hc dL_law_477 (fun _ _ _ h => tX7_step h) rfl mpX7_step miX7_step kmL_53 ⟨rfl, rfl, Nat.le_of_ble_eq_true rfl, Nat.le_of_ble_eq_true rfl⟩ ⟨Nat.le_of_ble_eq_true rfl, Nat.le_of_ble_eq_true rfl⟩ rfl (Nat.le_of_ble_eq_true rfl) (fun b71 σ72 => ?_)
        refine z_aload_n hc dL_law_480 2 rfl ?_
        refine z_aload_n hc dL_law_481 0 rfl ?_
        refine z_iload_n hc dL_law_482 3 rfl ?_
        refine z_iconst (v := (1 : Int32)) hc dL_law_483 (by decide) ?_
        refine z_iadd hc dL_law_484 ?_
        refine z_src hc hX dL_law_485 (fun v73 => ?_)
        refine z_aload_n hc dL_law_486 0 rfl ?_
        refine z_iload_n hc dL_law_487 3 rfl ?_
        refine z_iconst (v := (2 : Int32)) hc dL_law_488 (by decide) ?_
        refine z_iadd hc dL_law_489 ?_
        refine z_src hc hX dL_law_490 (fun v74 => ?_)
        refine z_callM (As := [.int v73, .int v74]) (rest := [.int b71]) hc dL_law_491 (fun _ _ _ h => tX8_step h) rfl mpX8_step miX8_step kmL_56 ⟨rfl, rfl, Nat.le_of_ble_eq_true rfl, Nat.le_of_ble_eq_true rfl⟩ ⟨Nat.le_of_ble_eq_true rfl, Nat.le_of_ble_eq_true rfl⟩ rfl (Nat.le_of_ble_eq_true rfl) (fun b75 σ76 => ?_)
        refine z_icmp_eq (tgt := 1115) hc dL_law_494 (by decide) ?_ ?_
        · refine z_iinc (v := (x3 + (6 : Int32))) (lv' := [(3, .int (x3 + (6 : Int32))), (0, .ref b), (1, .ref (ad 0)), (2, .ref (am 0))]) hc dL_law_1115 3 rfl rfl (by decide) rfl ?_
          refine z_goto (tgt := 18) hc dL_law_1118 (by decide) ?_
          refine z_sub [1, 2, 3, 0] rfl ?_
          exact ih _ _ _
        · refine z_iconst (v := (0 : Int32)) hc dL_law_497 (by decide) ?_
          exact z_law0 hc dL_law_498
      refine z_ite (fun h9 => ?_) (fun h9 => ?_)
      · refine z_swIn (tgt := 499) (off := 466) hc dL_law_33 (by rw [h9]; decide) (by rw [h9]; decide) (by rw [h9]; decide) (by decide) ?_
        refine z_aload_n hc dL_law_499 1 rfl ?_
        refine z_aload_n hc dL_law_500 0 rfl ?_
        refine z_iload_n hc dL_law_501 3 rfl ?_
        refine z_iconst (v := (1 : Int32)) hc dL_law_502 (by decide) ?_
        refine z_iadd hc dL_law_503 ?_
        refine z_src hc hX dL_law_504 (fun v77 => ?_)
        refine z_aload_n hc dL_law_505 0 rfl ?_
        refine z_iload_n hc dL_law_506 3 rfl ?_
        refine z_iconst (v := (2 : Int32)) hc dL_law_507 (by decide) ?_
        refine z_iadd hc dL_law_508 ?_
        refine z_src hc hX dL_law_509 (fun v78 => ?_)
        refine z_callC (As := [.int v77, .int v78]) (rest := []) hc dL_law_510 (fun _ _ _ h => tX7_part h) rfl mpX7_part miX7_part kmL_57 ⟨rfl, rfl, Nat.le_of_ble_eq_true rfl, Nat.le_of_ble_eq_true rfl⟩ ⟨Nat.le_of_ble_eq_true rfl, Nat.le_of_ble_eq_true rfl⟩ rfl (Nat.le_of_ble_eq_true rfl) (fun b79 σ80 => ?_)
        refine z_aload_n hc dL_law_513 2 rfl ?_
        refine z_aload_n hc dL_law_514 0 rfl ?_
        refine z_iload_n hc dL_law_515 3 rfl ?_
        refine z_iconst (v := (1 : Int32)) hc dL_law_516 (by decide) ?_
        refine z_iadd hc dL_law_517 ?_
        refine z_src hc hX dL_law_518 (fun v81 => ?_)
        refine z_aload_n hc dL_law_519 0 rfl ?_
        refine z_iload_n hc dL_law_520 3 rfl ?_
        refine z_iconst (v := (2 : Int32)) hc dL_law_521 (by decide) ?_
        refine z_iadd hc dL_law_522 ?_
        refine z_src hc hX dL_law_523 (fun v82 => ?_)
        refine z_callM (As := [.int v81, .int v82]) (rest := [.int b79]) hc dL_law_524 (fun _ _ _ h => tX8_part h) rfl mpX8_part miX8_part kmL_60 ⟨rfl, rfl, Nat.le_of_ble_eq_true rfl, Nat.le_of_ble_eq_true rfl⟩ ⟨Nat.le_of_ble_eq_true rfl, Nat.le_of_ble_eq_true rfl⟩ rfl (Nat.le_of_ble_eq_true rfl) (fun b83 σ84 => ?_)
        refine z_icmp_eq (tgt := 1115) hc dL_law_527 (by decide) ?_ ?_
        · refine z_iinc (v := (x3 + (6 : Int32))) (lv' := [(3, .int (x3 + (6 : Int32))), (0, .ref b), (1, .ref (ad 0)), (2, .ref (am 0))]) hc dL_law_1115 3 rfl rfl (by decide) rfl ?_
          refine z_goto (tgt := 18) hc dL_law_1118 (by decide) ?_
          refine z_sub [1, 2, 3, 0] rfl ?_
          exact ih _ _ _
        · refine z_iconst (v := (0 : Int32)) hc dL_law_530 (by decide) ?_
          exact z_law0 hc dL_law_531
      refine z_ite (fun h10 => ?_) (fun h10 => ?_)
      · refine z_swIn (tgt := 532) (off := 499) hc dL_law_33 (by rw [h10]; decide) (by rw [h10]; decide) (by rw [h10]; decide) (by decide) ?_
        refine z_aload_n hc dL_law_532 1 rfl ?_
        refine z_aload_n hc dL_law_533 0 rfl ?_
        refine z_iload_n hc dL_law_534 3 rfl ?_
        refine z_iconst (v := (1 : Int32)) hc dL_law_535 (by decide) ?_
        refine z_iadd hc dL_law_536 ?_
        refine z_src hc hX dL_law_537 (fun v85 => ?_)
        refine z_aload_n hc dL_law_538 0 rfl ?_
        refine z_iload_n hc dL_law_539 3 rfl ?_
        refine z_iconst (v := (2 : Int32)) hc dL_law_540 (by decide) ?_
        refine z_iadd hc dL_law_541 ?_
        refine z_src hc hX dL_law_542 (fun v86 => ?_)
        refine z_aload_n hc dL_law_543 0 rfl ?_
        refine z_iload_n hc dL_law_544 3 rfl ?_
        refine z_iconst (v := (3 : Int32)) hc dL_law_545 (by decide) ?_
        refine z_iadd hc dL_law_546 ?_
        refine z_src hc hX dL_law_547 (fun v87 => ?_)
        refine z_callC (As := [.int v85, .int v86, .int v87]) (rest := []) hc dL_law_548 (fun _ _ _ h => tX7_doubt h) rfl mpX7_doubt miX7_doubt kmL_61 ⟨rfl, rfl, Nat.le_of_ble_eq_true rfl, Nat.le_of_ble_eq_true rfl⟩ ⟨Nat.le_of_ble_eq_true rfl, Nat.le_of_ble_eq_true rfl⟩ rfl (Nat.le_of_ble_eq_true rfl) (fun b88 σ89 => ?_)
        refine z_aload_n hc dL_law_551 2 rfl ?_
        refine z_aload_n hc dL_law_552 0 rfl ?_
        refine z_iload_n hc dL_law_553 3 rfl ?_
        refine z_iconst (v := (1 : Int32)) hc dL_law_554 (by decide) ?_
        refine z_iadd hc dL_law_555 ?_
        refine z_src hc hX dL_law_556 (fun v90 => ?_)
        refine z_aload_n hc dL_law_557 0 rfl ?_
        refine z_iload_n hc dL_law_558 3 rfl ?_
        refine z_iconst (v := (2 : Int32)) hc dL_law_559 (by decide) ?_
        refine z_iadd hc dL_law_560 ?_
        refine z_src hc hX dL_law_561 (fun v91 => ?_)
        refine z_aload_n hc dL_law_562 0 rfl ?_
        refine z_iload_n hc dL_law_563 3 rfl ?_
        refine z_iconst (v := (3 : Int32)) hc dL_law_564 (by decide) ?_
        refine z_iadd hc dL_law_565 ?_
        refine z_src hc hX dL_law_566 (fun v92 => ?_)
        refine z_callM (As := [.int v90, .int v91, .int v92]) (rest := [.int b88]) hc dL_law_567 (fun _ _ _ h => tX8_doubt h) rfl mpX8_doubt miX8_doubt kmL_64 ⟨rfl, rfl, Nat.le_of_ble_eq_true rfl, Nat.le_of_ble_eq_true rfl⟩ ⟨Nat.le_of_ble_eq_true rfl, Nat.le_of_ble_eq_true rfl⟩ rfl (Nat.le_of_ble_eq_true rfl) (fun b93 σ94 => ?_)
        refine z_icmp_eq (tgt := 1115) hc dL_law_570 (by decide) ?_ ?_
        · refine z_iinc (v := (x3 + (6 : Int32))) (lv' := [(3, .int (x3 + (6 : Int32))), (0, .ref b), (1, .ref (ad 0)), (2, .ref (am 0))]) hc dL_law_1115 3 rfl rfl (by decide) rfl ?_
          refine z_goto (tgt := 18) hc dL_law_1118 (by decide) ?_
          refine z_sub [1, 2, 3, 0] rfl ?_
          exact ih _ _ _
        · refine z_iconst (v := (0 : Int32)) hc dL_law_573 (by decide) ?_
          exact z_law0 hc dL_law_574
      refine z_ite (fun h11 => ?_) (fun h11 => ?_)
      · refine z_swIn (tgt := 575) (off := 542) hc dL_law_33 (by rw [h11]; decide) (by rw [h11]; decide) (by rw [h11]; decide) (by decide) ?_
        refine z_aload_n hc dL_law_575 1 rfl ?_
        refine z_aload_n hc dL_law_576 0 rfl ?_
        refine z_iload_n hc dL_law_577 3 rfl ?_
        refine z_iconst (v := (1 : Int32)) hc dL_law_578 (by decide) ?_
        refine z_iadd hc dL_law_579 ?_
        refine z_src hc hX dL_law_580 (fun v95 => ?_)
        refine z_callC (As := [.int v95]) (rest := []) hc dL_law_581 (fun _ _ _ h => tX7_borne h) rfl mpX7_borne miX7_borne kmL_65 ⟨rfl, rfl, Nat.le_of_ble_eq_true rfl, Nat.le_of_ble_eq_true rfl⟩ ⟨Nat.le_of_ble_eq_true rfl, Nat.le_of_ble_eq_true rfl⟩ rfl (Nat.le_of_ble_eq_true rfl) (fun b96 σ97 => ?_)
        refine z_aload_n hc dL_law_584 2 rfl ?_
        refine z_aload_n hc dL_law_585 0 rfl ?_
        refine z_iload_n hc dL_law_586 3 rfl ?_
        refine z_iconst (v := (1 : Int32)) hc dL_law_587 (by decide) ?_
        refine z_iadd hc dL_law_588 ?_
        refine z_src hc hX dL_law_589 (fun v98 => ?_)
        refine z_callM (As := [.int v98]) (rest := [.int b96]) hc dL_law_590 (fun _ _ _ h => tX8_borne h) rfl mpX8_borne miX8_borne kmL_68 ⟨rfl, rfl, Nat.le_of_ble_eq_true rfl, Nat.le_of_ble_eq_true rfl⟩ ⟨Nat.le_of_ble_eq_true rfl, Nat.le_of_ble_eq_true rfl⟩ rfl (Nat.le_of_ble_eq_true rfl) (fun b99 σ100 => ?_)
        refine z_icmp_eq (tgt := 1115) hc dL_law_593 (by decide) ?_ ?_
        · refine z_iinc (v := (x3 + (6 : Int32))) (lv' := [(3, .int (x3 + (6 : Int32))), (0, .ref b), (1, .ref (ad 0)), (2, .ref (am 0))]) hc dL_law_1115 3 rfl rfl (by decide) rfl ?_
          refine z_goto (tgt := 18) hc dL_law_1118 (by decide) ?_
          refine z_sub [1, 2, 3, 0] rfl ?_
          exact ih _ _ _
        · refine z_iconst (v := (0 : Int32)) hc dL_law_596 (by decide) ?_
          exact z_law0 hc dL_law_597
      refine z_ite (fun h12 => ?_) (fun h12 => ?_)
      · refine z_swIn (tgt := 598) (off := 565) hc dL_law_33 (by rw [h12]; decide) (by rw [h12]; decide) (by rw [h12]; decide) (by decide) ?_
        refine z_aload_n hc dL_law_598 1 rfl ?_
        refine z_aload_n hc dL_law_599 0 rfl ?_
        refine z_iload_n hc dL_law_600 3 rfl ?_
        refine z_iconst (v := (1 : Int32)) hc dL_law_601 (by decide) ?_
        refine z_iadd hc dL_law_602 ?_
        refine z_src hc hX dL_law_603 (fun v101 => ?_)
        refine z_aload_n hc dL_law_604 0 rfl ?_
        refine z_iload_n hc dL_law_605 3 rfl ?_
        refine z_iconst (v := (2 : Int32)) hc dL_law_606 (by decide) ?_
        refine z_iadd hc dL_law_607 ?_
        refine z_src hc hX dL_law_608 (fun v102 => ?_)
        refine z_aload_n hc dL_law_609 0 rfl ?_
        refine z_iload_n hc dL_law_610 3 rfl ?_
        refine z_iconst (v := (3 : Int32)) hc dL_law_611 (by decide) ?_
        refine z_iadd hc dL_law_612 ?_
        refine z_src hc hX dL_law_613 (fun v103 => ?_)
        refine z_callC (As := [.int v101, .int v102, .int v103]) (rest := []) hc dL_law_614 (fun _ _ _ h => tX7_looked h) rfl mpX7_looked miX7_looked kmL_69 ⟨rfl, rfl, Nat.le_of_ble_eq_true rfl, Nat.le_of_ble_eq_true rfl⟩ ⟨Nat.le_of_ble_eq_true rfl, Nat.le_of_ble_eq_true rfl⟩ rfl (Nat.le_of_ble_eq_true rfl) (fun b104 σ105 => ?_)
        refine z_aload_n hc dL_law_617 2 rfl ?_
        refine z_aload_n hc dL_law_618 0 rfl ?_
        refine z_iload_n hc dL_law_619 3 rfl ?_
        refine z_iconst (v := (1 : Int32)) hc dL_law_620 (by decide) ?_
        refine z_iadd hc dL_law_621 ?_
        refine z_src hc hX dL_law_622 (fun v106 => ?_)
        refine z_aload_n hc dL_law_623 0 rfl ?_
        refine z_iload_n hc dL_law_624 3 rfl ?_
        refine z_iconst (v := (2 : Int32)) hc dL_law_625 (by decide) ?_
        refine z_iadd hc dL_law_626 ?_
        refine z_src hc hX dL_law_627 (fun v107 => ?_)
        refine z_aload_n hc dL_law_628 0 rfl ?_
        refine z_iload_n hc dL_law_629 3 rfl ?_
        refine z_iconst (v := (3 : Int32)) hc dL_law_630 (by decide) ?_
        refine z_iadd hc dL_law_631 ?_
        refine z_src hc hX dL_law_632 (fun v108 => ?_)
        refine z_callM (As := [.int v106, .int v107, .int v108]) (rest := [.int b104]) hc dL_law_633 (fun _ _ _ h => tX8_looked h) rfl mpX8_looked miX8_looked kmL_72 ⟨rfl, rfl, Nat.le_of_ble_eq_true rfl, Nat.le_of_ble_eq_true rfl⟩ ⟨Nat.le_of_ble_eq_true rfl, Nat.le_of_ble_eq_true rfl⟩ rfl (Nat.le_of_ble_eq_true rfl) (fun b109 σ110 => ?_)
        refine z_icmp_eq (tgt := 1115) hc dL_law_636 (by decide) ?_ ?_
        · refine z_iinc (v := (x3 + (6 : Int32))) (lv' := [(3, .int (x3 + (6 : Int32))), (0, .ref b), (1, .ref (ad 0)), (2, .ref (am 0))]) hc dL_law_1115 3 rfl rfl (by decide) rfl ?_
          refine z_goto (tgt := 18) hc dL_law_1118 (by decide) ?_
          refine z_sub [1, 2, 3, 0] rfl ?_
          exact ih _ _ _
        · refine z_iconst (v := (0 : Int32)) hc dL_law_639 (by decide) ?_
          exact z_law0 hc dL_law_640
      refine z_ite (fun h13 => ?_) (fun h13 => ?_)
      · refine z_swIn (tgt := 641) (off := 608) hc dL_law_33 (by rw [h13]; decide) (by rw [h13]; decide) (by rw [h13]; decide) (by decide) ?_
        refine z_aload_n hc dL_law_641 1 rfl ?_
        refine z_aload_n hc dL_law_642 0 rfl ?_
        refine z_iload_n hc dL_law_643 3 rfl ?_
        refine z_iconst (v := (1 : Int32)) hc dL_law_644 (by decide) ?_
        refine z_iadd hc dL_law_645 ?_
        refine z_src hc hX dL_law_646 (fun v111 => ?_)
        refine z_aload_n hc dL_law_647 0 rfl ?_
        refine z_iload_n hc dL_law_648 3 rfl ?_
        refine z_iconst (v := (2 : Int32)) hc dL_law_649 (by decide) ?_
        refine z_iadd hc dL_law_650 ?_
        refine z_src hc hX dL_law_651 (fun v112 => ?_)
        refine z_callC (As := [.int v111, .int v112]) (rest := []) hc dL_law_652 (fun _ _ _ h => tX7_fall h) rfl mpX7_fall miX7_fall kmL_73 ⟨rfl, rfl, Nat.le_of_ble_eq_true rfl, Nat.le_of_ble_eq_true rfl⟩ ⟨Nat.le_of_ble_eq_true rfl, Nat.le_of_ble_eq_true rfl⟩ rfl (Nat.le_of_ble_eq_true rfl) (fun b113 σ114 => ?_)
        refine z_aload_n hc dL_law_655 2 rfl ?_
        refine z_aload_n hc dL_law_656 0 rfl ?_
        refine z_iload_n hc dL_law_657 3 rfl ?_
        refine z_iconst (v := (1 : Int32)) hc dL_law_658 (by decide) ?_
        refine z_iadd hc dL_law_659 ?_
        refine z_src hc hX dL_law_660 (fun v115 => ?_)
        refine z_aload_n hc dL_law_661 0 rfl ?_
        refine z_iload_n hc dL_law_662 3 rfl ?_
        refine z_iconst (v := (2 : Int32)) hc dL_law_663 (by decide) ?_
        refine z_iadd hc dL_law_664 ?_
        refine z_src hc hX dL_law_665 (fun v116 => ?_)
        refine z_callM (As := [.int v115, .int v116]) (rest := [.int b113]) hc dL_law_666 (fun _ _ _ h => tX8_fall h) rfl mpX8_fall miX8_fall kmL_76 ⟨rfl, rfl, Nat.le_of_ble_eq_true rfl, Nat.le_of_ble_eq_true rfl⟩ ⟨Nat.le_of_ble_eq_true rfl, Nat.le_of_ble_eq_true rfl⟩ rfl (Nat.le_of_ble_eq_true rfl) (fun b117 σ118 => ?_)
        refine z_icmp_eq (tgt := 1115) hc dL_law_669 (by decide) ?_ ?_
        · refine z_iinc (v := (x3 + (6 : Int32))) (lv' := [(3, .int (x3 + (6 : Int32))), (0, .ref b), (1, .ref (ad 0)), (2, .ref (am 0))]) hc dL_law_1115 3 rfl rfl (by decide) rfl ?_
          refine z_goto (tgt := 18) hc dL_law_1118 (by decide) ?_
          refine z_sub [1, 2, 3, 0] rfl ?_
          exact ih _ _ _
        · refine z_iconst (v := (0 : Int32)) hc dL_law_672 (by decide) ?_
          exact z_law0 hc dL_law_673
      refine z_ite (fun h14 => ?_) (fun h14 => ?_)
      · refine z_swIn (tgt := 674) (off := 641) hc dL_law_33 (by rw [h14]; decide) (by rw [h14]; decide) (by rw [h14]; decide) (by decide) ?_
        refine z_aload_n hc dL_law_674 1 rfl ?_
        refine z_aload_n hc dL_law_675 0 rfl ?_
        refine z_iload_n hc dL_law_676 3 rfl ?_
        refine z_iconst (v := (1 : Int32)) hc dL_law_677 (by decide) ?_
        refine z_iadd hc dL_law_678 ?_
        refine z_src hc hX dL_law_679 (fun v119 => ?_)
        refine z_callC (As := [.int v119]) (rest := []) hc dL_law_680 (fun _ _ _ h => tX7_day h) rfl mpX7_day miX7_day kmL_77 ⟨rfl, rfl, Nat.le_of_ble_eq_true rfl, Nat.le_of_ble_eq_true rfl⟩ ⟨Nat.le_of_ble_eq_true rfl, Nat.le_of_ble_eq_true rfl⟩ rfl (Nat.le_of_ble_eq_true rfl) (fun b120 σ121 => ?_)
        refine z_aload_n hc dL_law_683 2 rfl ?_
        refine z_aload_n hc dL_law_684 0 rfl ?_
        refine z_iload_n hc dL_law_685 3 rfl ?_
        refine z_iconst (v := (1 : Int32)) hc dL_law_686 (by decide) ?_
        refine z_iadd hc dL_law_687 ?_
        refine z_src hc hX dL_law_688 (fun v122 => ?_)
        refine z_callM (As := [.int v122]) (rest := [.int b120]) hc dL_law_689 (fun _ _ _ h => tX8_day h) rfl mpX8_day miX8_day kmL_80 ⟨rfl, rfl, Nat.le_of_ble_eq_true rfl, Nat.le_of_ble_eq_true rfl⟩ ⟨Nat.le_of_ble_eq_true rfl, Nat.le_of_ble_eq_true rfl⟩ rfl (Nat.le_of_ble_eq_true rfl) (fun b123 σ124 => ?_)
        refine z_icmp_eq (tgt := 1115) hc dL_law_692 (by decide) ?_ ?_
        · refine z_iinc (v := (x3 + (6 : Int32))) (lv' := [(3, .int (x3 + (6 : Int32))), (0, .ref b), (1, .ref (ad 0)), (2, .ref (am 0))]) hc dL_law_1115 3 rfl rfl (by decide) rfl ?_
          refine z_goto (tgt := 18) hc dL_law_1118 (by decide) ?_
          refine z_sub [1, 2, 3, 0] rfl ?_
          exact ih _ _ _
        · refine z_iconst (v := (0 : Int32)) hc dL_law_695 (by decide) ?_
          exact z_law0 hc dL_law_696
      refine z_ite (fun h15 => ?_) (fun h15 => ?_)
      · refine z_swIn (tgt := 697) (off := 664) hc dL_law_33 (by rw [h15]; decide) (by rw [h15]; decide) (by rw [h15]; decide) (by decide) ?_
        refine z_aload_n hc dL_law_697 1 rfl ?_
        refine z_aload_n hc dL_law_698 0 rfl ?_
        refine z_iload_n hc dL_law_699 3 rfl ?_
        refine z_iconst (v := (1 : Int32)) hc dL_law_700 (by decide) ?_
        refine z_iadd hc dL_law_701 ?_
        refine z_src hc hX dL_law_702 (fun v125 => ?_)
        refine z_callC (As := [.int v125]) (rest := []) hc dL_law_703 (fun _ _ _ h => tX7_shown h) rfl mpX7_shown miX7_shown kmL_81 ⟨rfl, rfl, Nat.le_of_ble_eq_true rfl, Nat.le_of_ble_eq_true rfl⟩ ⟨Nat.le_of_ble_eq_true rfl, Nat.le_of_ble_eq_true rfl⟩ rfl (Nat.le_of_ble_eq_true rfl) (fun b126 σ127 => ?_)
        refine z_aload_n hc dL_law_706 2 rfl ?_
        refine z_aload_n hc dL_law_707 0 rfl ?_
        refine z_iload_n hc dL_law_708 3 rfl ?_
        refine z_iconst (v := (1 : Int32)) hc dL_law_709 (by decide) ?_
        refine z_iadd hc dL_law_710 ?_
        refine z_src hc hX dL_law_711 (fun v128 => ?_)
        refine z_callM (As := [.int v128]) (rest := [.int b126]) hc dL_law_712 (fun _ _ _ h => tX8_shown h) rfl mpX8_shown miX8_shown kmL_84 ⟨rfl, rfl, Nat.le_of_ble_eq_true rfl, Nat.le_of_ble_eq_true rfl⟩ ⟨Nat.le_of_ble_eq_true rfl, Nat.le_of_ble_eq_true rfl⟩ rfl (Nat.le_of_ble_eq_true rfl) (fun b129 σ130 => ?_)
        refine z_icmp_eq (tgt := 1115) hc dL_law_715 (by decide) ?_ ?_
        · refine z_iinc (v := (x3 + (6 : Int32))) (lv' := [(3, .int (x3 + (6 : Int32))), (0, .ref b), (1, .ref (ad 0)), (2, .ref (am 0))]) hc dL_law_1115 3 rfl rfl (by decide) rfl ?_
          refine z_goto (tgt := 18) hc dL_law_1118 (by decide) ?_
          refine z_sub [1, 2, 3, 0] rfl ?_
          exact ih _ _ _
        · refine z_iconst (v := (0 : Int32)) hc dL_law_718 (by decide) ?_
          exact z_law0 hc dL_law_719
      refine z_ite (fun h16 => ?_) (fun h16 => ?_)
      · refine z_swIn (tgt := 720) (off := 687) hc dL_law_33 (by rw [h16]; decide) (by rw [h16]; decide) (by rw [h16]; decide) (by decide) ?_
        refine z_aload_n hc dL_law_720 1 rfl ?_
        refine z_aload_n hc dL_law_721 0 rfl ?_
        refine z_iload_n hc dL_law_722 3 rfl ?_
        refine z_iconst (v := (1 : Int32)) hc dL_law_723 (by decide) ?_
        refine z_iadd hc dL_law_724 ?_
        refine z_src hc hX dL_law_725 (fun v131 => ?_)
        refine z_callC (As := [.int v131]) (rest := []) hc dL_law_726 (fun _ _ _ h => tX7_leaning h) rfl mpX7_leaning miX7_leaning kmL_85 ⟨rfl, rfl, Nat.le_of_ble_eq_true rfl, Nat.le_of_ble_eq_true rfl⟩ ⟨Nat.le_of_ble_eq_true rfl, Nat.le_of_ble_eq_true rfl⟩ rfl (Nat.le_of_ble_eq_true rfl) (fun b132 σ133 => ?_)
        refine z_aload_n hc dL_law_729 2 rfl ?_
        refine z_aload_n hc dL_law_730 0 rfl ?_
        refine z_iload_n hc dL_law_731 3 rfl ?_
        refine z_iconst (v := (1 : Int32)) hc dL_law_732 (by decide) ?_
        refine z_iadd hc dL_law_733 ?_
        refine z_src hc hX dL_law_734 (fun v134 => ?_)
        refine z_callM (As := [.int v134]) (rest := [.int b132]) hc dL_law_735 (fun _ _ _ h => tX8_leaning h) rfl mpX8_leaning miX8_leaning kmL_88 ⟨rfl, rfl, Nat.le_of_ble_eq_true rfl, Nat.le_of_ble_eq_true rfl⟩ ⟨Nat.le_of_ble_eq_true rfl, Nat.le_of_ble_eq_true rfl⟩ rfl (Nat.le_of_ble_eq_true rfl) (fun b135 σ136 => ?_)
        refine z_icmp_eq (tgt := 1115) hc dL_law_738 (by decide) ?_ ?_
        · refine z_iinc (v := (x3 + (6 : Int32))) (lv' := [(3, .int (x3 + (6 : Int32))), (0, .ref b), (1, .ref (ad 0)), (2, .ref (am 0))]) hc dL_law_1115 3 rfl rfl (by decide) rfl ?_
          refine z_goto (tgt := 18) hc dL_law_1118 (by decide) ?_
          refine z_sub [1, 2, 3, 0] rfl ?_
          exact ih _ _ _
        · refine z_iconst (v := (0 : Int32)) hc dL_law_741 (by decide) ?_
          exact z_law0 hc dL_law_742
      refine z_ite (fun h17 => ?_) (fun h17 => ?_)
      · refine z_swIn (tgt := 743) (off := 710) hc dL_law_33 (by rw [h17]; decide) (by rw [h17]; decide) (by rw [h17]; decide) (by decide) ?_
        refine z_aload_n hc dL_law_743 1 rfl ?_
        refine z_aload_n hc dL_law_744 0 rfl ?_
        refine z_iload_n hc dL_law_745 3 rfl ?_
        refine z_iconst (v := (1 : Int32)) hc dL_law_746 (by decide) ?_
        refine z_iadd hc dL_law_747 ?_
        refine z_src hc hX dL_law_748 (fun v137 => ?_)
        refine z_aload_n hc dL_law_749 0 rfl ?_
        refine z_iload_n hc dL_law_750 3 rfl ?_
        refine z_iconst (v := (2 : Int32)) hc dL_law_751 (by decide) ?_
        refine z_iadd hc dL_law_752 ?_
        refine z_src hc hX dL_law_753 (fun v138 => ?_)
        refine z_callC (As := [.int v137, .int v138]) (rest := []) hc dL_law_754 (fun _ _ _ h => tX7_felling h) rfl mpX7_felling miX7_felling kmL_89 ⟨rfl, rfl, Nat.le_of_ble_eq_true rfl, Nat.le_of_ble_eq_true rfl⟩ ⟨Nat.le_of_ble_eq_true rfl, Nat.le_of_ble_eq_true rfl⟩ rfl (Nat.le_of_ble_eq_true rfl) (fun b139 σ140 => ?_)
        refine z_aload_n hc dL_law_757 2 rfl ?_
        refine z_aload_n hc dL_law_758 0 rfl ?_
        refine z_iload_n hc dL_law_759 3 rfl ?_
        refine z_iconst (v := (1 : Int32)) hc dL_law_760 (by decide) ?_
        refine z_iadd hc dL_law_761 ?_
        refine z_src hc hX dL_law_762 (fun v141 => ?_)
        refine z_aload_n hc dL_law_763 0 rfl ?_
        refine z_iload_n hc dL_law_764 3 rfl ?_
        refine z_iconst (v := (2 : Int32)) hc dL_law_765 (by decide) ?_
        refine z_iadd hc dL_law_766 ?_
        refine z_src hc hX dL_law_767 (fun v142 => ?_)
        refine z_callM (As := [.int v141, .int v142]) (rest := [.int b139]) hc dL_law_768 (fun _ _ _ h => tX8_felling h) rfl mpX8_felling miX8_felling kmL_92 ⟨rfl, rfl, Nat.le_of_ble_eq_true rfl, Nat.le_of_ble_eq_true rfl⟩ ⟨Nat.le_of_ble_eq_true rfl, Nat.le_of_ble_eq_true rfl⟩ rfl (Nat.le_of_ble_eq_true rfl) (fun b143 σ144 => ?_)
        refine z_icmp_eq (tgt := 1115) hc dL_law_771 (by decide) ?_ ?_
        · refine z_iinc (v := (x3 + (6 : Int32))) (lv' := [(3, .int (x3 + (6 : Int32))), (0, .ref b), (1, .ref (ad 0)), (2, .ref (am 0))]) hc dL_law_1115 3 rfl rfl (by decide) rfl ?_
          refine z_goto (tgt := 18) hc dL_law_1118 (by decide) ?_
          refine z_sub [1, 2, 3, 0] rfl ?_
          exact ih _ _ _
        · refine z_iconst (v := (0 : Int32)) hc dL_law_774 (by decide) ?_
          exact z_law0 hc dL_law_775
      refine z_ite (fun h18 => ?_) (fun h18 => ?_)
      · refine z_swIn (tgt := 776) (off := 743) hc dL_law_33 (by rw [h18]; decide) (by rw [h18]; decide) (by rw [h18]; decide) (by decide) ?_
        refine z_aload_n hc dL_law_776 1 rfl ?_
        refine z_callC (As := []) (rest := []) hc dL_law_777 (fun _ _ _ h => tX7_hand h) rfl mpX7_hand miX7_hand kmL_93 ⟨rfl, rfl, Nat.le_of_ble_eq_true rfl, Nat.le_of_ble_eq_true rfl⟩ ⟨Nat.le_of_ble_eq_true rfl, Nat.le_of_ble_eq_true rfl⟩ rfl (Nat.le_of_ble_eq_true rfl) (fun b145 σ146 => ?_)
        refine z_aload_n hc dL_law_780 2 rfl ?_
        refine z_callM (As := []) (rest := [.int b145]) hc dL_law_781 (fun _ _ _ h => tX8_hand h) rfl mpX8_hand miX8_hand kmL_96 ⟨rfl, rfl, Nat.le_of_ble_eq_true rfl, Nat.le_of_ble_eq_true rfl⟩ ⟨Nat.le_of_ble_eq_true rfl, Nat.le_of_ble_eq_true rfl⟩ rfl (Nat.le_of_ble_eq_true rfl) (fun b147 σ148 => ?_)
        refine z_icmp_eq (tgt := 1115) hc dL_law_784 (by decide) ?_ ?_
        · refine z_iinc (v := (x3 + (6 : Int32))) (lv' := [(3, .int (x3 + (6 : Int32))), (0, .ref b), (1, .ref (ad 0)), (2, .ref (am 0))]) hc dL_law_1115 3 rfl rfl (by decide) rfl ?_
          refine z_goto (tgt := 18) hc dL_law_1118 (by decide) ?_
          refine z_sub [1, 2, 3, 0] rfl ?_
          exact ih _ _ _
        · refine z_iconst (v := (0 : Int32)) hc dL_law_787 (by decide) ?_
          exact z_law0 hc dL_law_788
      refine z_ite (fun h19 => ?_) (fun h19 => ?_)
      · refine z_swIn (tgt := 789) (off := 756) hc dL_law_33 (by rw [h19]; decide) (by rw [h19]; decide) (by rw [h19]; decide) (by decide) ?_
        refine z_aload_n hc dL_law_789 1 rfl ?_
        refine z_aload_n hc dL_law_790 0 rfl ?_
        refine z_iload_n hc dL_law_791 3 rfl ?_
        refine z_iconst (v := (1 : Int32)) hc dL_law_792 (by decide) ?_
        refine z_iadd hc dL_law_793 ?_
        refine z_src hc hX dL_law_794 (fun v149 => ?_)
        refine z_aload_n hc dL_law_795 0 rfl ?_
        refine z_iload_n hc dL_law_796 3 rfl ?_
        refine z_iconst (v := (2 : Int32)) hc dL_law_797 (by decide) ?_
        refine z_iadd hc dL_law_798 ?_
        refine z_src hc hX dL_law_799 (fun v150 => ?_)
        refine z_aload_n hc dL_law_800 0 rfl ?_
        refine z_iload_n hc dL_law_801 3 rfl ?_
        refine z_iconst (v := (3 : Int32)) hc dL_law_802 (by decide) ?_
        refine z_iadd hc dL_law_803 ?_
        refine z_src hc hX dL_law_804 (fun v151 => ?_)
        refine z_callC (As := [.int v149, .int v150, .int v151]) (rest := []) hc dL_law_805 (fun _ _ _ h => tX7_weigh h) rfl mpX7_weigh miX7_weigh kmL_97 ⟨rfl, rfl, Nat.le_of_ble_eq_true rfl, Nat.le_of_ble_eq_true rfl⟩ ⟨Nat.le_of_ble_eq_true rfl, Nat.le_of_ble_eq_true rfl⟩ rfl (Nat.le_of_ble_eq_true rfl) (fun b152 σ153 => ?_)
        refine z_aload_n hc dL_law_808 2 rfl ?_
        refine z_aload_n hc dL_law_809 0 rfl ?_
        refine z_iload_n hc dL_law_810 3 rfl ?_
        refine z_iconst (v := (1 : Int32)) hc dL_law_811 (by decide) ?_
        refine z_iadd hc dL_law_812 ?_
        refine z_src hc hX dL_law_813 (fun v154 => ?_)
        refine z_aload_n hc dL_law_814 0 rfl ?_
        refine z_iload_n hc dL_law_815 3 rfl ?_
        refine z_iconst (v := (2 : Int32)) hc dL_law_816 (by decide) ?_
        refine z_iadd hc dL_law_817 ?_
        refine z_src hc hX dL_law_818 (fun v155 => ?_)
        refine z_aload_n hc dL_law_819 0 rfl ?_
        refine z_iload_n hc dL_law_820 3 rfl ?_
        refine z_iconst (v := (3 : Int32)) hc dL_law_821 (by decide) ?_
        refine z_iadd hc dL_law_822 ?_
        refine z_src hc hX dL_law_823 (fun v156 => ?_)
        refine z_callM (As := [.int v154, .int v155, .int v156]) (rest := [.int b152]) hc dL_law_824 (fun _ _ _ h => tX8_weigh h) rfl mpX8_weigh miX8_weigh kmL_100 ⟨rfl, rfl, Nat.le_of_ble_eq_true rfl, Nat.le_of_ble_eq_true rfl⟩ ⟨Nat.le_of_ble_eq_true rfl, Nat.le_of_ble_eq_true rfl⟩ rfl (Nat.le_of_ble_eq_true rfl) (fun b157 σ158 => ?_)
        refine z_icmp_eq (tgt := 1115) hc dL_law_827 (by decide) ?_ ?_
        · refine z_iinc (v := (x3 + (6 : Int32))) (lv' := [(3, .int (x3 + (6 : Int32))), (0, .ref b), (1, .ref (ad 0)), (2, .ref (am 0))]) hc dL_law_1115 3 rfl rfl (by decide) rfl ?_
          refine z_goto (tgt := 18) hc dL_law_1118 (by decide) ?_
          refine z_sub [1, 2, 3, 0] rfl ?_
          exact ih _ _ _
        · refine z_iconst (v := (0 : Int32)) hc dL_law_830 (by decide) ?_
          exact z_law0 hc dL_law_831
      refine z_ite (fun h20 => ?_) (fun h20 => ?_)
      · refine z_swIn (tgt := 832) (off := 799) hc dL_law_33 (by rw [h20]; decide) (by rw [h20]; decide) (by rw [h20]; decide) (by decide) ?_
        refine z_aload_n hc dL_law_832 1 rfl ?_
        refine z_aload_n hc dL_law_833 0 rfl ?_
        refine z_iload_n hc dL_law_834 3 rfl ?_
        refine z_iconst (v := (1 : Int32)) hc dL_law_835 (by decide) ?_
        refine z_iadd hc dL_law_836 ?_
        refine z_src hc hX dL_law_837 (fun v159 => ?_)
        refine z_aload_n hc dL_law_838 0 rfl ?_
        refine z_iload_n hc dL_law_839 3 rfl ?_
        refine z_iconst (v := (2 : Int32)) hc dL_law_840 (by decide) ?_
        refine z_iadd hc dL_law_841 ?_
        refine z_src hc hX dL_law_842 (fun v160 => ?_)
        refine z_aload_n hc dL_law_843 0 rfl ?_
        refine z_iload_n hc dL_law_844 3 rfl ?_
        refine z_iconst (v := (3 : Int32)) hc dL_law_845 (by decide) ?_
        refine z_iadd hc dL_law_846 ?_
        refine z_src hc hX dL_law_847 (fun v161 => ?_)
        refine z_aload_n hc dL_law_848 0 rfl ?_
        refine z_iload_n hc dL_law_849 3 rfl ?_
        refine z_iconst (v := (4 : Int32)) hc dL_law_850 (by decide) ?_
        refine z_iadd hc dL_law_851 ?_
        refine z_src hc hX dL_law_852 (fun v162 => ?_)
        refine z_callC (As := [.int v159, .int v160, .int v161, .int v162]) (rest := []) hc dL_law_853 (fun _ _ _ h => tX7_pair h) rfl mpX7_pair miX7_pair kmL_101 ⟨rfl, rfl, Nat.le_of_ble_eq_true rfl, Nat.le_of_ble_eq_true rfl⟩ ⟨Nat.le_of_ble_eq_true rfl, Nat.le_of_ble_eq_true rfl⟩ rfl (Nat.le_of_ble_eq_true rfl) (fun b163 σ164 => ?_)
        refine z_aload_n hc dL_law_856 2 rfl ?_
        refine z_aload_n hc dL_law_857 0 rfl ?_
        refine z_iload_n hc dL_law_858 3 rfl ?_
        refine z_iconst (v := (1 : Int32)) hc dL_law_859 (by decide) ?_
        refine z_iadd hc dL_law_860 ?_
        refine z_src hc hX dL_law_861 (fun v165 => ?_)
        refine z_aload_n hc dL_law_862 0 rfl ?_
        refine z_iload_n hc dL_law_863 3 rfl ?_
        refine z_iconst (v := (2 : Int32)) hc dL_law_864 (by decide) ?_
        refine z_iadd hc dL_law_865 ?_
        refine z_src hc hX dL_law_866 (fun v166 => ?_)
        refine z_aload_n hc dL_law_867 0 rfl ?_
        refine z_iload_n hc dL_law_868 3 rfl ?_
        refine z_iconst (v := (3 : Int32)) hc dL_law_869 (by decide) ?_
        refine z_iadd hc dL_law_870 ?_
        refine z_src hc hX dL_law_871 (fun v167 => ?_)
        refine z_aload_n hc dL_law_872 0 rfl ?_
        refine z_iload_n hc dL_law_873 3 rfl ?_
        refine z_iconst (v := (4 : Int32)) hc dL_law_874 (by decide) ?_
        refine z_iadd hc dL_law_875 ?_
        refine z_src hc hX dL_law_876 (fun v168 => ?_)
        refine z_callM (As := [.int v165, .int v166, .int v167, .int v168]) (rest := [.int b163]) hc dL_law_877 (fun _ _ _ h => tX8_pair h) rfl mpX8_pair miX8_pair kmL_105 ⟨rfl, rfl, Nat.le_of_ble_eq_true rfl, Nat.le_of_ble_eq_true rfl⟩ ⟨Nat.le_of_ble_eq_true rfl, Nat.le_of_ble_eq_true rfl⟩ rfl (Nat.le_of_ble_eq_true rfl) (fun b169 σ170 => ?_)
        refine z_icmp_eq (tgt := 1115) hc dL_law_880 (by decide) ?_ ?_
        · refine z_iinc (v := (x3 + (6 : Int32))) (lv' := [(3, .int (x3 + (6 : Int32))), (0, .ref b), (1, .ref (ad 0)), (2, .ref (am 0))]) hc dL_law_1115 3 rfl rfl (by decide) rfl ?_
          refine z_goto (tgt := 18) hc dL_law_1118 (by decide) ?_
          refine z_sub [1, 2, 3, 0] rfl ?_
          exact ih _ _ _
        · refine z_iconst (v := (0 : Int32)) hc dL_law_883 (by decide) ?_
          exact z_law0 hc dL_law_884
      refine z_ite (fun h21 => ?_) (fun h21 => ?_)
      · refine z_swIn (tgt := 885) (off := 852) hc dL_law_33 (by rw [h21]; decide) (by rw [h21]; decide) (by rw [h21]; decide) (by decide) ?_
        refine z_aload_n hc dL_law_885 1 rfl ?_
        refine z_callC (As := []) (rest := []) hc dL_law_886 (fun _ _ _ h => tX7_unweigh h) rfl mpX7_unweigh miX7_unweigh kmL_106 ⟨rfl, rfl, Nat.le_of_ble_eq_true rfl, Nat.le_of_ble_eq_true rfl⟩ ⟨Nat.le_of_ble_eq_true rfl, Nat.le_of_ble_eq_true rfl⟩ rfl (Nat.le_of_ble_eq_true rfl) (fun b171 σ172 => ?_)
        refine z_aload_n hc dL_law_889 2 rfl ?_
        refine z_callM (As := []) (rest := [.int b171]) hc dL_law_890 (fun _ _ _ h => tX8_unweigh h) rfl mpX8_unweigh miX8_unweigh kmL_109 ⟨rfl, rfl, Nat.le_of_ble_eq_true rfl, Nat.le_of_ble_eq_true rfl⟩ ⟨Nat.le_of_ble_eq_true rfl, Nat.le_of_ble_eq_true rfl⟩ rfl (Nat.le_of_ble_eq_true rfl) (fun b173 σ174 => ?_)
        refine z_icmp_eq (tgt := 1115) hc dL_law_893 (by decide) ?_ ?_
        · refine z_iinc (v := (x3 + (6 : Int32))) (lv' := [(3, .int (x3 + (6 : Int32))), (0, .ref b), (1, .ref (ad 0)), (2, .ref (am 0))]) hc dL_law_1115 3 rfl rfl (by decide) rfl ?_
          refine z_goto (tgt := 18) hc dL_law_1118 (by decide) ?_
          refine z_sub [1, 2, 3, 0] rfl ?_
          exact ih _ _ _
        · refine z_iconst (v := (0 : Int32)) hc dL_law_896 (by decide) ?_
          exact z_law0 hc dL_law_897
      refine z_ite (fun h22 => ?_) (fun h22 => ?_)
      · refine z_swIn (tgt := 898) (off := 865) hc dL_law_33 (by rw [h22]; decide) (by rw [h22]; decide) (by rw [h22]; decide) (by decide) ?_
        refine z_aload_n hc dL_law_898 1 rfl ?_
        refine z_callC (As := []) (rest := []) hc dL_law_899 (fun _ _ _ h => tX7_agree h) rfl mpX7_agree miX7_agree kmL_110 ⟨rfl, rfl, Nat.le_of_ble_eq_true rfl, Nat.le_of_ble_eq_true rfl⟩ ⟨Nat.le_of_ble_eq_true rfl, Nat.le_of_ble_eq_true rfl⟩ rfl (Nat.le_of_ble_eq_true rfl) (fun b175 σ176 => ?_)
        refine z_aload_n hc dL_law_902 2 rfl ?_
        refine z_callM (As := []) (rest := [.int b175]) hc dL_law_903 (fun _ _ _ h => tX8_agree h) rfl mpX8_agree miX8_agree kmL_113 ⟨rfl, rfl, Nat.le_of_ble_eq_true rfl, Nat.le_of_ble_eq_true rfl⟩ ⟨Nat.le_of_ble_eq_true rfl, Nat.le_of_ble_eq_true rfl⟩ rfl (Nat.le_of_ble_eq_true rfl) (fun b177 σ178 => ?_)
        refine z_icmp_eq (tgt := 1115) hc dL_law_906 (by decide) ?_ ?_
        · refine z_iinc (v := (x3 + (6 : Int32))) (lv' := [(3, .int (x3 + (6 : Int32))), (0, .ref b), (1, .ref (ad 0)), (2, .ref (am 0))]) hc dL_law_1115 3 rfl rfl (by decide) rfl ?_
          refine z_goto (tgt := 18) hc dL_law_1118 (by decide) ?_
          refine z_sub [1, 2, 3, 0] rfl ?_
          exact ih _ _ _
        · refine z_iconst (v := (0 : Int32)) hc dL_law_909 (by decide) ?_
          exact z_law0 hc dL_law_910
      refine z_ite (fun h23 => ?_) (fun h23 => ?_)
      · refine z_swIn (tgt := 911) (off := 878) hc dL_law_33 (by rw [h23]; decide) (by rw [h23]; decide) (by rw [h23]; decide) (by decide) ?_
        refine z_aload_n hc dL_law_911 1 rfl ?_
        refine z_aload_n hc dL_law_912 0 rfl ?_
        refine z_iload_n hc dL_law_913 3 rfl ?_
        refine z_iconst (v := (1 : Int32)) hc dL_law_914 (by decide) ?_
        refine z_iadd hc dL_law_915 ?_
        refine z_src hc hX dL_law_916 (fun v179 => ?_)
        refine z_aload_n hc dL_law_917 0 rfl ?_
        refine z_iload_n hc dL_law_918 3 rfl ?_
        refine z_iconst (v := (2 : Int32)) hc dL_law_919 (by decide) ?_
        refine z_iadd hc dL_law_920 ?_
        refine z_src hc hX dL_law_921 (fun v180 => ?_)
        refine z_callC (As := [.int v179, .int v180]) (rest := []) hc dL_law_922 (fun _ _ _ h => tX7_odds h) rfl mpX7_odds miX7_odds kmL_114 ⟨rfl, rfl, Nat.le_of_ble_eq_true rfl, Nat.le_of_ble_eq_true rfl⟩ ⟨Nat.le_of_ble_eq_true rfl, Nat.le_of_ble_eq_true rfl⟩ rfl (Nat.le_of_ble_eq_true rfl) (fun b181 σ182 => ?_)
        refine z_aload_n hc dL_law_925 2 rfl ?_
        refine z_aload_n hc dL_law_926 0 rfl ?_
        refine z_iload_n hc dL_law_927 3 rfl ?_
        refine z_iconst (v := (1 : Int32)) hc dL_law_928 (by decide) ?_
        refine z_iadd hc dL_law_929 ?_
        refine z_src hc hX dL_law_930 (fun v183 => ?_)
        refine z_aload_n hc dL_law_931 0 rfl ?_
        refine z_iload_n hc dL_law_932 3 rfl ?_
        refine z_iconst (v := (2 : Int32)) hc dL_law_933 (by decide) ?_
        refine z_iadd hc dL_law_934 ?_
        refine z_src hc hX dL_law_935 (fun v184 => ?_)
        refine z_callM (As := [.int v183, .int v184]) (rest := [.int b181]) hc dL_law_936 (fun _ _ _ h => tX8_odds h) rfl mpX8_odds miX8_odds kmL_117 ⟨rfl, rfl, Nat.le_of_ble_eq_true rfl, Nat.le_of_ble_eq_true rfl⟩ ⟨Nat.le_of_ble_eq_true rfl, Nat.le_of_ble_eq_true rfl⟩ rfl (Nat.le_of_ble_eq_true rfl) (fun b185 σ186 => ?_)
        refine z_icmp_eq (tgt := 1115) hc dL_law_939 (by decide) ?_ ?_
        · refine z_iinc (v := (x3 + (6 : Int32))) (lv' := [(3, .int (x3 + (6 : Int32))), (0, .ref b), (1, .ref (ad 0)), (2, .ref (am 0))]) hc dL_law_1115 3 rfl rfl (by decide) rfl ?_
          refine z_goto (tgt := 18) hc dL_law_1118 (by decide) ?_
          refine z_sub [1, 2, 3, 0] rfl ?_
          exact ih _ _ _
        · refine z_iconst (v := (0 : Int32)) hc dL_law_942 (by decide) ?_
          exact z_law0 hc dL_law_943
      refine z_ite (fun h24 => ?_) (fun h24 => ?_)
      · refine z_swIn (tgt := 944) (off := 911) hc dL_law_33 (by rw [h24]; decide) (by rw [h24]; decide) (by rw [h24]; decide) (by decide) ?_
        refine z_aload_n hc dL_law_944 1 rfl ?_
        refine z_aload_n hc dL_law_945 0 rfl ?_
        refine z_iload_n hc dL_law_946 3 rfl ?_
        refine z_iconst (v := (1 : Int32)) hc dL_law_947 (by decide) ?_
        refine z_iadd hc dL_law_948 ?_
        refine z_src hc hX dL_law_949 (fun v187 => ?_)
        refine z_callC (As := [.int v187]) (rest := []) hc dL_law_950 (fun _ _ _ h => tX7_raise h) rfl mpX7_raise miX7_raise kmL_118 ⟨rfl, rfl, Nat.le_of_ble_eq_true rfl, Nat.le_of_ble_eq_true rfl⟩ ⟨Nat.le_of_ble_eq_true rfl, Nat.le_of_ble_eq_true rfl⟩ rfl (Nat.le_of_ble_eq_true rfl) (fun b188 σ189 => ?_)
        refine z_aload_n hc dL_law_953 2 rfl ?_
        refine z_aload_n hc dL_law_954 0 rfl ?_
        refine z_iload_n hc dL_law_955 3 rfl ?_
        refine z_iconst (v := (1 : Int32)) hc dL_law_956 (by decide) ?_
        refine z_iadd hc dL_law_957 ?_
        refine z_src hc hX dL_law_958 (fun v190 => ?_)
        refine z_callM (As := [.int v190]) (rest := [.int b188]) hc dL_law_959 (fun _ _ _ h => tX8_raise h) rfl mpX8_raise miX8_raise kmL_121 ⟨rfl, rfl, Nat.le_of_ble_eq_true rfl, Nat.le_of_ble_eq_true rfl⟩ ⟨Nat.le_of_ble_eq_true rfl, Nat.le_of_ble_eq_true rfl⟩ rfl (Nat.le_of_ble_eq_true rfl) (fun b191 σ192 => ?_)
        refine z_icmp_eq (tgt := 1115) hc dL_law_962 (by decide) ?_ ?_
        · refine z_iinc (v := (x3 + (6 : Int32))) (lv' := [(3, .int (x3 + (6 : Int32))), (0, .ref b), (1, .ref (ad 0)), (2, .ref (am 0))]) hc dL_law_1115 3 rfl rfl (by decide) rfl ?_
          refine z_goto (tgt := 18) hc dL_law_1118 (by decide) ?_
          refine z_sub [1, 2, 3, 0] rfl ?_
          exact ih _ _ _
        · refine z_iconst (v := (0 : Int32)) hc dL_law_965 (by decide) ?_
          exact z_law0 hc dL_law_966
      refine z_ite (fun h25 => ?_) (fun h25 => ?_)
      · refine z_swIn (tgt := 967) (off := 934) hc dL_law_33 (by rw [h25]; decide) (by rw [h25]; decide) (by rw [h25]; decide) (by decide) ?_
        refine z_aload_n hc dL_law_967 1 rfl ?_
        refine z_aload_n hc dL_law_968 0 rfl ?_
        refine z_iload_n hc dL_law_969 3 rfl ?_
        refine z_iconst (v := (1 : Int32)) hc dL_law_970 (by decide) ?_
        refine z_iadd hc dL_law_971 ?_
        refine z_src hc hX dL_law_972 (fun v193 => ?_)
        refine z_callC (As := [.int v193]) (rest := []) hc dL_law_973 (fun _ _ _ h => tX7_kind h) rfl mpX7_kind miX7_kind kmL_122 ⟨rfl, rfl, Nat.le_of_ble_eq_true rfl, Nat.le_of_ble_eq_true rfl⟩ ⟨Nat.le_of_ble_eq_true rfl, Nat.le_of_ble_eq_true rfl⟩ rfl (Nat.le_of_ble_eq_true rfl) (fun b194 σ195 => ?_)
        refine z_aload_n hc dL_law_976 2 rfl ?_
        refine z_aload_n hc dL_law_977 0 rfl ?_
        refine z_iload_n hc dL_law_978 3 rfl ?_
        refine z_iconst (v := (1 : Int32)) hc dL_law_979 (by decide) ?_
        refine z_iadd hc dL_law_980 ?_
        refine z_src hc hX dL_law_981 (fun v196 => ?_)
        refine z_callM (As := [.int v196]) (rest := [.int b194]) hc dL_law_982 (fun _ _ _ h => tX8_kind h) rfl mpX8_kind miX8_kind kmL_125 ⟨rfl, rfl, Nat.le_of_ble_eq_true rfl, Nat.le_of_ble_eq_true rfl⟩ ⟨Nat.le_of_ble_eq_true rfl, Nat.le_of_ble_eq_true rfl⟩ rfl (Nat.le_of_ble_eq_true rfl) (fun b197 σ198 => ?_)
        refine z_icmp_eq (tgt := 1115) hc dL_law_985 (by decide) ?_ ?_
        · refine z_iinc (v := (x3 + (6 : Int32))) (lv' := [(3, .int (x3 + (6 : Int32))), (0, .ref b), (1, .ref (ad 0)), (2, .ref (am 0))]) hc dL_law_1115 3 rfl rfl (by decide) rfl ?_
          refine z_goto (tgt := 18) hc dL_law_1118 (by decide) ?_
          refine z_sub [1, 2, 3, 0] rfl ?_
          exact ih _ _ _
        · refine z_iconst (v := (0 : Int32)) hc dL_law_988 (by decide) ?_
          exact z_law0 hc dL_law_989
      refine z_ite (fun h26 => ?_) (fun h26 => ?_)
      · refine z_swIn (tgt := 990) (off := 957) hc dL_law_33 (by rw [h26]; decide) (by rw [h26]; decide) (by rw [h26]; decide) (by decide) ?_
        refine z_aload_n hc dL_law_990 1 rfl ?_
        refine z_aload_n hc dL_law_991 0 rfl ?_
        refine z_iload_n hc dL_law_992 3 rfl ?_
        refine z_iconst (v := (1 : Int32)) hc dL_law_993 (by decide) ?_
        refine z_iadd hc dL_law_994 ?_
        refine z_src hc hX dL_law_995 (fun v199 => ?_)
        refine z_aload_n hc dL_law_996 0 rfl ?_
        refine z_iload_n hc dL_law_997 3 rfl ?_
        refine z_iconst (v := (2 : Int32)) hc dL_law_998 (by decide) ?_
        refine z_iadd hc dL_law_999 ?_
        refine z_src hc hX dL_law_1000 (fun v200 => ?_)
        refine z_callC (As := [.int v199, .int v200]) (rest := []) hc dL_law_1001 (fun _ _ _ h => tX7_as h) rfl mpX7_as miX7_as kmL_126 ⟨rfl, rfl, Nat.le_of_ble_eq_true rfl, Nat.le_of_ble_eq_true rfl⟩ ⟨Nat.le_of_ble_eq_true rfl, Nat.le_of_ble_eq_true rfl⟩ rfl (Nat.le_of_ble_eq_true rfl) (fun b201 σ202 => ?_)
        refine z_aload_n hc dL_law_1004 2 rfl ?_
        refine z_aload_n hc dL_law_1005 0 rfl ?_
        refine z_iload_n hc dL_law_1006 3 rfl ?_
        refine z_iconst (v := (1 : Int32)) hc dL_law_1007 (by decide) ?_
        refine z_iadd hc dL_law_1008 ?_
        refine z_src hc hX dL_law_1009 (fun v203 => ?_)
        refine z_aload_n hc dL_law_1010 0 rfl ?_
        refine z_iload_n hc dL_law_1011 3 rfl ?_
        refine z_iconst (v := (2 : Int32)) hc dL_law_1012 (by decide) ?_
        refine z_iadd hc dL_law_1013 ?_
        refine z_src hc hX dL_law_1014 (fun v204 => ?_)
        refine z_callM (As := [.int v203, .int v204]) (rest := [.int b201]) hc dL_law_1015 (fun _ _ _ h => tX8_as h) rfl mpX8_as miX8_as kmL_129 ⟨rfl, rfl, Nat.le_of_ble_eq_true rfl, Nat.le_of_ble_eq_true rfl⟩ ⟨Nat.le_of_ble_eq_true rfl, Nat.le_of_ble_eq_true rfl⟩ rfl (Nat.le_of_ble_eq_true rfl) (fun b205 σ206 => ?_)
        refine z_icmp_eq (tgt := 1115) hc dL_law_1018 (by decide) ?_ ?_
        · refine z_iinc (v := (x3 + (6 : Int32))) (lv' := [(3, .int (x3 + (6 : Int32))), (0, .ref b), (1, .ref (ad 0)), (2, .ref (am 0))]) hc dL_law_1115 3 rfl rfl (by decide) rfl ?_
          refine z_goto (tgt := 18) hc dL_law_1118 (by decide) ?_
          refine z_sub [1, 2, 3, 0] rfl ?_
          exact ih _ _ _
        · refine z_iconst (v := (0 : Int32)) hc dL_law_1021 (by decide) ?_
          exact z_law0 hc dL_law_1022
      refine z_ite (fun h27 => ?_) (fun h27 => ?_)
      · refine z_swIn (tgt := 1023) (off := 990) hc dL_law_33 (by rw [h27]; decide) (by rw [h27]; decide) (by rw [h27]; decide) (by decide) ?_
        refine z_aload_n hc dL_law_1023 1 rfl ?_
        refine z_aload_n hc dL_law_1024 0 rfl ?_
        refine z_iload_n hc dL_law_1025 3 rfl ?_
        refine z_iconst (v := (1 : Int32)) hc dL_law_1026 (by decide) ?_
        refine z_iadd hc dL_law_1027 ?_
        refine z_src hc hX dL_law_1028 (fun v207 => ?_)
        refine z_aload_n hc dL_law_1029 0 rfl ?_
        refine z_iload_n hc dL_law_1030 3 rfl ?_
        refine z_iconst (v := (2 : Int32)) hc dL_law_1031 (by decide) ?_
        refine z_iadd hc dL_law_1032 ?_
        refine z_src hc hX dL_law_1033 (fun v208 => ?_)
        refine z_callC (As := [.int v207, .int v208]) (rest := []) hc dL_law_1034 (fun _ _ _ h => tX7_ask h) rfl mpX7_ask miX7_ask kmL_130 ⟨rfl, rfl, Nat.le_of_ble_eq_true rfl, Nat.le_of_ble_eq_true rfl⟩ ⟨Nat.le_of_ble_eq_true rfl, Nat.le_of_ble_eq_true rfl⟩ rfl (Nat.le_of_ble_eq_true rfl) (fun b209 σ210 => ?_)
        refine z_aload_n hc dL_law_1037 2 rfl ?_
        refine z_aload_n hc dL_law_1038 0 rfl ?_
        refine z_iload_n hc dL_law_1039 3 rfl ?_
        refine z_iconst (v := (1 : Int32)) hc dL_law_1040 (by decide) ?_
        refine z_iadd hc dL_law_1041 ?_
        refine z_src hc hX dL_law_1042 (fun v211 => ?_)
        refine z_aload_n hc dL_law_1043 0 rfl ?_
        refine z_iload_n hc dL_law_1044 3 rfl ?_
        refine z_iconst (v := (2 : Int32)) hc dL_law_1045 (by decide) ?_
        refine z_iadd hc dL_law_1046 ?_
        refine z_src hc hX dL_law_1047 (fun v212 => ?_)
        refine z_callM (As := [.int v211, .int v212]) (rest := [.int b209]) hc dL_law_1048 (fun _ _ _ h => tX8_ask h) rfl mpX8_ask miX8_ask kmL_133 ⟨rfl, rfl, Nat.le_of_ble_eq_true rfl, Nat.le_of_ble_eq_true rfl⟩ ⟨Nat.le_of_ble_eq_true rfl, Nat.le_of_ble_eq_true rfl⟩ rfl (Nat.le_of_ble_eq_true rfl) (fun b213 σ214 => ?_)
        refine z_icmp_eq (tgt := 1115) hc dL_law_1051 (by decide) ?_ ?_
        · refine z_iinc (v := (x3 + (6 : Int32))) (lv' := [(3, .int (x3 + (6 : Int32))), (0, .ref b), (1, .ref (ad 0)), (2, .ref (am 0))]) hc dL_law_1115 3 rfl rfl (by decide) rfl ?_
          refine z_goto (tgt := 18) hc dL_law_1118 (by decide) ?_
          refine z_sub [1, 2, 3, 0] rfl ?_
          exact ih _ _ _
        · refine z_iconst (v := (0 : Int32)) hc dL_law_1054 (by decide) ?_
          exact z_law0 hc dL_law_1055
      refine z_ite (fun h28 => ?_) (fun h28 => ?_)
      · refine z_swIn (tgt := 1056) (off := 1023) hc dL_law_33 (by rw [h28]; decide) (by rw [h28]; decide) (by rw [h28]; decide) (by decide) ?_
        refine z_aload_n hc dL_law_1056 1 rfl ?_
        refine z_aload_n hc dL_law_1057 0 rfl ?_
        refine z_iload_n hc dL_law_1058 3 rfl ?_
        refine z_iconst (v := (1 : Int32)) hc dL_law_1059 (by decide) ?_
        refine z_iadd hc dL_law_1060 ?_
        refine z_src hc hX dL_law_1061 (fun v215 => ?_)
        refine z_callC (As := [.int v215]) (rest := []) hc dL_law_1062 (fun _ _ _ h => tX7_trace h) rfl mpX7_trace miX7_trace kmL_134 ⟨rfl, rfl, Nat.le_of_ble_eq_true rfl, Nat.le_of_ble_eq_true rfl⟩ ⟨Nat.le_of_ble_eq_true rfl, Nat.le_of_ble_eq_true rfl⟩ rfl (Nat.le_of_ble_eq_true rfl) (fun b216 σ217 => ?_)
        refine z_aload_n hc dL_law_1065 2 rfl ?_
        refine z_aload_n hc dL_law_1066 0 rfl ?_
        refine z_iload_n hc dL_law_1067 3 rfl ?_
        refine z_iconst (v := (1 : Int32)) hc dL_law_1068 (by decide) ?_
        refine z_iadd hc dL_law_1069 ?_
        refine z_src hc hX dL_law_1070 (fun v218 => ?_)
        refine z_callM (As := [.int v218]) (rest := [.int b216]) hc dL_law_1071 (fun _ _ _ h => tX8_trace h) rfl mpX8_trace miX8_trace kmL_137 ⟨rfl, rfl, Nat.le_of_ble_eq_true rfl, Nat.le_of_ble_eq_true rfl⟩ ⟨Nat.le_of_ble_eq_true rfl, Nat.le_of_ble_eq_true rfl⟩ rfl (Nat.le_of_ble_eq_true rfl) (fun b219 σ220 => ?_)
        refine z_icmp_eq (tgt := 1115) hc dL_law_1074 (by decide) ?_ ?_
        · refine z_iinc (v := (x3 + (6 : Int32))) (lv' := [(3, .int (x3 + (6 : Int32))), (0, .ref b), (1, .ref (ad 0)), (2, .ref (am 0))]) hc dL_law_1115 3 rfl rfl (by decide) rfl ?_
          refine z_goto (tgt := 18) hc dL_law_1118 (by decide) ?_
          refine z_sub [1, 2, 3, 0] rfl ?_
          exact ih _ _ _
        · refine z_iconst (v := (0 : Int32)) hc dL_law_1077 (by decide) ?_
          exact z_law0 hc dL_law_1078
      refine z_ite (fun h29 => ?_) (fun h29 => ?_)
      · refine z_swIn (tgt := 1079) (off := 1046) hc dL_law_33 (by rw [h29]; decide) (by rw [h29]; decide) (by rw [h29]; decide) (by decide) ?_
        refine z_aload_n hc dL_law_1079 1 rfl ?_
        refine z_aload_n hc dL_law_1080 0 rfl ?_
        refine z_iload_n hc dL_law_1081 3 rfl ?_
        refine z_iconst (v := (1 : Int32)) hc dL_law_1082 (by decide) ?_
        refine z_iadd hc dL_law_1083 ?_
        refine z_src hc hX dL_law_1084 (fun v221 => ?_)
        refine z_callC (As := [.int v221]) (rest := []) hc dL_law_1085 (fun _ _ _ h => tX7_count h) rfl mpX7_count miX7_count kmL_138 ⟨rfl, rfl, Nat.le_of_ble_eq_true rfl, Nat.le_of_ble_eq_true rfl⟩ ⟨Nat.le_of_ble_eq_true rfl, Nat.le_of_ble_eq_true rfl⟩ rfl (Nat.le_of_ble_eq_true rfl) (fun b222 σ223 => ?_)
        refine z_aload_n hc dL_law_1088 2 rfl ?_
        refine z_aload_n hc dL_law_1089 0 rfl ?_
        refine z_iload_n hc dL_law_1090 3 rfl ?_
        refine z_iconst (v := (1 : Int32)) hc dL_law_1091 (by decide) ?_
        refine z_iadd hc dL_law_1092 ?_
        refine z_src hc hX dL_law_1093 (fun v224 => ?_)
        refine z_callM (As := [.int v224]) (rest := [.int b222]) hc dL_law_1094 (fun _ _ _ h => tX8_count h) rfl mpX8_count miX8_count kmL_141 ⟨rfl, rfl, Nat.le_of_ble_eq_true rfl, Nat.le_of_ble_eq_true rfl⟩ ⟨Nat.le_of_ble_eq_true rfl, Nat.le_of_ble_eq_true rfl⟩ rfl (Nat.le_of_ble_eq_true rfl) (fun b225 σ226 => ?_)
        refine z_icmp_eq (tgt := 1115) hc dL_law_1097 (by decide) ?_ ?_
        · refine z_iinc (v := (x3 + (6 : Int32))) (lv' := [(3, .int (x3 + (6 : Int32))), (0, .ref b), (1, .ref (ad 0)), (2, .ref (am 0))]) hc dL_law_1115 3 rfl rfl (by decide) rfl ?_
          refine z_goto (tgt := 18) hc dL_law_1118 (by decide) ?_
          refine z_sub [1, 2, 3, 0] rfl ?_
          exact ih _ _ _
        · refine z_iconst (v := (0 : Int32)) hc dL_law_1100 (by decide) ?_
          exact z_law0 hc dL_law_1101
      refine z_ite (fun h30 => ?_) (fun h30 => ?_)
      · refine z_swIn (tgt := 1102) (off := 1069) hc dL_law_33 (by rw [h30]; decide) (by rw [h30]; decide) (by rw [h30]; decide) (by decide) ?_
        refine z_aload_n hc dL_law_1102 1 rfl ?_
        refine z_callC (As := []) (rest := []) hc dL_law_1103 (fun _ _ _ h => tX7_status h) rfl mpX7_status miX7_status kmL_142 ⟨rfl, rfl, Nat.le_of_ble_eq_true rfl, Nat.le_of_ble_eq_true rfl⟩ ⟨Nat.le_of_ble_eq_true rfl, Nat.le_of_ble_eq_true rfl⟩ rfl (Nat.le_of_ble_eq_true rfl) (fun b227 σ228 => ?_)
        refine z_aload_n hc dL_law_1106 2 rfl ?_
        refine z_callM (As := []) (rest := [.int b227]) hc dL_law_1107 (fun _ _ _ h => tX8_status h) rfl mpX8_status miX8_status kmL_145 ⟨rfl, rfl, Nat.le_of_ble_eq_true rfl, Nat.le_of_ble_eq_true rfl⟩ ⟨Nat.le_of_ble_eq_true rfl, Nat.le_of_ble_eq_true rfl⟩ rfl (Nat.le_of_ble_eq_true rfl) (fun b229 σ230 => ?_)
        refine z_icmp_eq (tgt := 1115) hc dL_law_1110 (by decide) ?_ ?_
        · refine z_iinc (v := (x3 + (6 : Int32))) (lv' := [(3, .int (x3 + (6 : Int32))), (0, .ref b), (1, .ref (ad 0)), (2, .ref (am 0))]) hc dL_law_1115 3 rfl rfl (by decide) rfl ?_
          refine z_goto (tgt := 18) hc dL_law_1118 (by decide) ?_
          refine z_sub [1, 2, 3, 0] rfl ?_
          exact ih _ _ _
        · refine z_iconst (v := (0 : Int32)) hc dL_law_1113 (by decide) ?_
          exact z_law0 hc dL_law_1114
      refine z_swOut (tgt := 1115) hc dL_law_33 (zsw0_30 h0 h1 h2 h3 h4 h5 h6 h7 h8 h9 h10 h11 h12 h13 h14 h15 h16 h17 h18 h19 h20 h21 h22 h23 h24 h25 h26 h27 h28 h29 h30) (by decide) ?_
      refine z_iinc (v := (x3 + (6 : Int32))) (lv' := [(3, .int (x3 + (6 : Int32))), (0, .ref b), (1, .ref (ad 0)), (2, .ref (am 0))]) hc dL_law_1115 3 rfl rfl (by decide) rfl ?_
      refine z_goto (tgt := 18) hc dL_law_1118 (by decide) ?_
      refine z_sub [1, 2, 3, 0] rfl ?_
      exact ih _ _ _
