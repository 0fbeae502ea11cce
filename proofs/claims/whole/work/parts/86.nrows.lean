abbrev zSA (A : Nat → Prop) : Type := { ws : va_W // va_D A ws }
abbrev zlwA (A : Nat → Prop) : zSA A → va_W := Subtype.val
def zPostN (D : va_G) (A : Nat → Prop) (B : va_W → Prop) : Array Value → State → Outcome → State → Prop :=
  fun _ st oc t => (oc = .returned none ∧ ∃ ws, B ws ∧ va_P D vwCl ws t.heap ∧ va_D A ws) ∧ va_F A st t
def zPreN (D : va_G) (ca : Nat → ClassId) (xa : Nat → Nat) (A : Nat → Prop) (ws : va_W) (U : State) : Prop :=
  (∀ q, U.heap.size ≤ q → A q) ∧ va_P D vwCl ws U.heap ∧ zKx D ca xa A (zlwA A) U ∧ va_AOA .long U
/-- a constructor's contract: from the cells ws it comes to cells with B, and makes mc cells of ms slots -/
def zCtN (l : Launch) (y : MethodName) (cc : ByteArray) (nL : Nat) (rm : Room) (D : va_G) (ca : Nat → ClassId) (xa : Nat → Nat) (A : Nat → Prop) (al : List Value) (ws : va_W) (B : va_W → Prop) (mc ms : Nat) : Prop :=
  Met l y (Cond.code y cc nL none :: zlwg) rm (va_Pc al (zPreN D ca xa A ws)) (zPostN D A B) mc ms A
theorem va_AOA.moved {ty : FieldType} {u U : State} (hvm : u.vm.Alike U.vm) (h : va_AOA ty u) : va_AOA ty U := by
  unfold va_AOA at h ⊢
  simp only [Cond.before, Cond.holds, Cond.value, beq_iff_eq] at h ⊢
  rw [hvm.findClass]
  cases hc : u.vm.findClass (FieldType.array ty).toString with
  | none => rw [hc] at h; simp at h
  | some comp =>
    rw [hc] at h
    simp only [Option.bind_some, Option.bind_eq_some_iff, Option.map_eq_some_iff] at h ⊢
    obtain ⟨c, hi, k, hk, hb⟩ := h
    obtain ⟨k', hk', he⟩ := hvm.2.2 _ _ hk
    refine ⟨c, ?_, k', hk', ?_⟩
    · refine (va_idx_bare U.vm comp).symm.trans ?_
      first | rw [hvm.bare_eq] | rw [← hvm.bare_eq]
      exact (va_idx_bare u.vm comp).trans hi
    · rw [he, hvm.findClass]
      exact hb
section zN
variable {p : Program} {l : Launch} {e : Env} {R : Room} {s : State} {m : MethodId} {args : Array Value} {below : List Frame} {meth : Method} {c : Code} {cells slots : Nat}
variable {α : Type} {D : va_G} {ca : Nat → ClassId} {xa : Nat → Nat} {A : Nat → Prop} {nL : Nat} {Qf : α → zSA A → State → Prop} {cc : ByteArray} {own : String}
variable {o : Option (α × zSA A)} {pc tgt : Nat} {lv lv' : List (Nat × Value)} {st : List Value} {ws ws' : va_W} {hD : va_D A ws}
theorem n_eq (hw : ws = ws') (k : ∀ hD', zGO p l e R s m args below meth c (cells) (slots) (zlwA A) D A nL Qf o ⟨ws', hD'⟩ (pc) lv (st)) : zGO p l e R s m args below meth c (cells) (slots) (zlwA A) D A nL Qf o ⟨ws, hD⟩ (pc) lv (st) := by subst hw; exact k hD
theorem n_perm (ks : List Nat) (h1 : ks.filterMap (fun i => ws[i]?) = ws') (h2 : va_nd ks = true) (h3 : ks.map (fun i => ws[i]?) = ws'.map some) (k : ∀ hD', zGO p l e R s m args below meth c (cells) (slots) (zlwA A) D A nL Qf o ⟨ws', hD'⟩ (pc) lv (st)) : zGO p l e R s m args below meth c (cells) (slots) (zlwA A) D A nL Qf o ⟨ws, hD⟩ (pc) lv (st) :=
  fun a τ h0 H locs ls hP hS hl => k (hD.sub ks h2 h3) a τ h0 H locs ls (hP.sub ks h1) hS hl
theorem n_cs {ce sl : Nat} (h1 : cells = ce) (h2 : slots = sl) (k : zGO p l e R s m args below meth c (ce) (sl) (zlwA A) D A nL Qf o ⟨ws, hD⟩ (pc) lv (st)) : zGO p l e R s m args below meth c (cells) (slots) (zlwA A) D A nL Qf o ⟨ws, hD⟩ (pc) lv (st) := by subst h1; subst h2; exact k
theorem n_geT (hc : zCx p s m args meth c cc nL own D ca xa A (zlwA A)) {x y : Int32} {off : Int} (d : decode cc pc = .ok (.if_icmp .ge off, 3)) (ht : (pc : Int) + off = (tgt : Int)) (h : y ≤ x) (k : zGO p l e R s m args below meth c (cells) (slots) (zlwA A) D A nL Qf o ⟨ws, hD⟩ (tgt) lv (st)) : zGO p l e R s m args below meth c (cells) (slots) (zlwA A) D A nL Qf o ⟨ws, hD⟩ (pc) lv (.int y :: .int x :: st) :=
  fun a τ h0 H locs ls hP hS hl => lv_icmp_ge hc.1 hc.2.1 d ht (fun _ => k a τ h0 H locs ls hP hS hl) (fun q => absurd h q)
theorem n_geF (hc : zCx p s m args meth c cc nL own D ca xa A (zlwA A)) {x y : Int32} {off : Int} (d : decode cc pc = .ok (.if_icmp .ge off, 3)) (ht : (pc : Int) + off = (tgt : Int)) (h : ¬ y ≤ x) (k : zGO p l e R s m args below meth c (cells) (slots) (zlwA A) D A nL Qf o ⟨ws, hD⟩ (pc + 3) lv (st)) : zGO p l e R s m args below meth c (cells) (slots) (zlwA A) D A nL Qf o ⟨ws, hD⟩ (pc) lv (.int y :: .int x :: st) :=
  fun a τ h0 H locs ls hP hS hl => lv_icmp_ge hc.1 hc.2.1 d ht (fun q => absurd q h) (fun _ => k a τ h0 H locs ls hP hS hl)
theorem n_obj (hc : zCx p s m args meth c cc nL own D ca xa A (zlwA A)) {idx a0 : Nat} (hlink : Cond.methodLink own idx objectInit ∈ zlwg) (hinst : Cond.instanceMethod objectInit ∈ zlwg) (hcode : Cond.code objectInit ⟨#[0xb1]⟩ 1 none ∈ zlwg) (hR : 1 ≤ R.frames ∧ (st.map fun v => v.category).sum + 12 ≤ R.locals) (d : decode cc pc = .ok (.invokespecial idx, 3)) (k : zGO p l e R s m args below meth c (cells) (slots) (zlwA A) D A nL Qf o ⟨ws, hD⟩ (pc + 3) lv (st)) : zGO p l e R s m args below meth c (cells) (slots) (zlwA A) D A nL Qf o ⟨ws, hD⟩ (pc) lv (.ref a0 :: st) :=
  fun a τ h0 H locs ls hP hS hl => W.objInit hc.1 hc.2.1 hc.2.2.2.1 (hc.2.2.2.2.1 _ hlink) (hc.2.2.2.2.1 _ hinst) (hc.2.2.2.2.1 _ hcode) rfl (by rw [hc.2.2.1]; exact hl.1) rfl d hR.1 (by show 2 * 0 + _ + 12 ≤ _; rw [Nat.mul_zero, Nat.zero_add]; exact hR.2) (k a τ h0 H locs ls hP hS hl)
theorem n_arrI : Cond.arrayClass .int ∈ zlwg := zlwg_of (List.mem_of_getElem? (i := 177) (by decide +kernel)) rfl
theorem n_newI (hc : zCx p s m args meth c cc nL own D ca xa A (zlwA A)) {n : Int32} {N' : Nat} {wf : Nat → va_W} (d : decode cc pc = .ok (.newarray .int, 2)) (hn : ¬ n < 0) (hN : n.toNatClampNeg = N') (hby : N' * componentBytes .int ≤ 536870912) (hR : cells + 1 ≤ R.cells ∧ slots + N' ≤ R.slots) (hw : ∀ q, ws ++ [(q, .inl (ca 0, N', .inl (fun _ => 0)))] = wf q) (k : ∀ q hD', zGO p l e R s m args below meth c (cells + 1) (slots + N') (zlwA A) D A nL Qf o ⟨wf q, hD'⟩ (pc + 2) lv (.ref q :: st)) : zGO p l e R s m args below meth c (cells) (slots) (zlwA A) D A nL Qf o ⟨ws, hD⟩ (pc) lv (.int n :: st) := by
  intro a τ h0 H locs ls hP hS hl
  refine va_newa (atype := .int) (a0 := (N', .inl (fun _ => 0))) hc.1 hc.2.1 (hc.2.2.2.2.1 _ n_arrI) rfl hc.2.2.2.2.2.2.2.1 hP hD hS hc.2.2.2.2.2.2.1 (fun cA => rfl) hn hN hby hR.1 hR.2 d (fun q cA H1 hK1 hP1 hD1 hS1 => ?_)
  have e1 : cA = ca 0 := Option.some.inj ((hK1.2 5 _ rfl).2.symm.trans (hc.2.2.2.2.2.2.2.1.2 0 _ rfl).2)
  subst e1
  rw [hw q] at hP1 hD1
  exact k q hD1 a τ h0 H1 locs ls hP1 hS1 hl
theorem n_arrB : Cond.arrayClass .byte ∈ zlwg := zlwg_of (List.mem_of_getElem? (i := 205) (by decide +kernel)) rfl
theorem n_newB (hc : zCx p s m args meth c cc nL own D ca xa A (zlwA A)) {n : Int32} {N' : Nat} {wf : Nat → va_W} (d : decode cc pc = .ok (.newarray .byte, 2)) (hn : ¬ n < 0) (hN : n.toNatClampNeg = N') (hby : N' * componentBytes .byte ≤ 536870912) (hR : cells + 1 ≤ R.cells ∧ slots + N' ≤ R.slots) (hw : ∀ q, ws ++ [(q, .inl (ca 1, N', .inl (fun _ => 0)))] = wf q) (k : ∀ q hD', zGO p l e R s m args below meth c (cells + 1) (slots + N') (zlwA A) D A nL Qf o ⟨wf q, hD'⟩ (pc + 2) lv (.ref q :: st)) : zGO p l e R s m args below meth c (cells) (slots) (zlwA A) D A nL Qf o ⟨ws, hD⟩ (pc) lv (.int n :: st) := by
  intro a τ h0 H locs ls hP hS hl
  refine va_newa (atype := .byte) (a0 := (N', .inl (fun _ => 0))) hc.1 hc.2.1 (hc.2.2.2.2.1 _ n_arrB) rfl hc.2.2.2.2.2.2.2.1 hP hD hS hc.2.2.2.2.2.2.1 (fun cA => rfl) hn hN hby hR.1 hR.2 d (fun q cA H1 hK1 hP1 hD1 hS1 => ?_)
  have e1 : cA = ca 1 := Option.some.inj ((hK1.2 5 _ rfl).2.symm.trans (hc.2.2.2.2.2.2.2.1.2 1 _ rfl).2)
  subst e1
  rw [hw q] at hP1 hD1
  exact k q hD1 a τ h0 H1 locs ls hP1 hS1 hl
theorem n_arrJ : Cond.arrayClass .long ∈ zlwg := zlwg_of (List.mem_of_getElem? (i := 337) (by decide +kernel)) rfl
theorem n_newJ (hc : zCx p s m args meth c cc nL own D ca xa A (zlwA A)) {n : Int32} {N' : Nat} {wf : Nat → va_W} (d : decode cc pc = .ok (.newarray .long, 2)) (hn : ¬ n < 0) (hN : n.toNatClampNeg = N') (hby : N' * componentBytes .long ≤ 536870912) (hR : cells + 1 ≤ R.cells ∧ slots + N' ≤ R.slots) (hw : ∀ q, ws ++ [(q, .inl (ca 2, N', .inr (.inl (fun _ => 0))))] = wf q) (k : ∀ q hD', zGO p l e R s m args below meth c (cells + 1) (slots + N') (zlwA A) D A nL Qf o ⟨wf q, hD'⟩ (pc + 2) lv (.ref q :: st)) : zGO p l e R s m args below meth c (cells) (slots) (zlwA A) D A nL Qf o ⟨ws, hD⟩ (pc) lv (.int n :: st) := by
  intro a τ h0 H locs ls hP hS hl
  refine va_newa (atype := .long) (a0 := (N', .inr (.inl (fun _ => 0)))) hc.1 hc.2.1 (hc.2.2.2.2.1 _ n_arrJ) rfl hc.2.2.2.2.2.2.2.1 hP hD hS hc.2.2.2.2.2.2.1 (fun cA => rfl) hn hN hby hR.1 hR.2 d (fun q cA H1 hK1 hP1 hD1 hS1 => ?_)
  have e1 : cA = ca 2 := Option.some.inj ((hK1.2 5 _ rfl).2.symm.trans (hc.2.2.2.2.2.2.2.1.2 2 _ rfl).2)
  subst e1
  rw [hw q] at hP1 hD1
  exact k q hD1 a τ h0 H1 locs ls hP1 hS1 hl
theorem n_arrZ : Cond.arrayClass .boolean ∈ zlwg := zlwg_of (List.mem_of_getElem? (i := 1192) (by decide +kernel)) rfl
theorem n_newZ (hc : zCx p s m args meth c cc nL own D ca xa A (zlwA A)) {n : Int32} {N' : Nat} {wf : Nat → va_W} (d : decode cc pc = .ok (.newarray .boolean, 2)) (hn : ¬ n < 0) (hN : n.toNatClampNeg = N') (hby : N' * componentBytes .boolean ≤ 536870912) (hR : cells + 1 ≤ R.cells ∧ slots + N' ≤ R.slots) (hw : ∀ q, ws ++ [(q, .inl (ca 3, N', .inl (fun _ => 0)))] = wf q) (k : ∀ q hD', zGO p l e R s m args below meth c (cells + 1) (slots + N') (zlwA A) D A nL Qf o ⟨wf q, hD'⟩ (pc + 2) lv (.ref q :: st)) : zGO p l e R s m args below meth c (cells) (slots) (zlwA A) D A nL Qf o ⟨ws, hD⟩ (pc) lv (.int n :: st) := by
  intro a τ h0 H locs ls hP hS hl
  refine va_newa (atype := .boolean) (a0 := (N', .inl (fun _ => 0))) hc.1 hc.2.1 (hc.2.2.2.2.1 _ n_arrZ) rfl hc.2.2.2.2.2.2.2.1 hP hD hS hc.2.2.2.2.2.2.1 (fun cA => rfl) hn hN hby hR.1 hR.2 d (fun q cA H1 hK1 hP1 hD1 hS1 => ?_)
  have e1 : cA = ca 3 := Option.some.inj ((hK1.2 5 _ rfl).2.symm.trans (hc.2.2.2.2.2.2.2.1.2 3 _ rfl).2)
  subst e1
  rw [hw q] at hP1 hD1
  exact k q hD1 a τ h0 H1 locs ls hP1 hS1 hl
theorem n_putF (hc : zCx p s m args meth c cc nL own D ca xa A (zlwA A)) (hini : meth.name = "<init>") {C : String} {T : u_T} {N ci idx : Nat} (hinx : ∀ w ∈ u_ws C T N, w ∈ zlwg) (ty0 : Nat → FieldType) (hty : ∀ k, k < N → parseFieldDescriptor (T k).2.2.1 = some (ty0 k)) (hnm : ∀ a, a < N → ∀ b, b < N → a ≠ b → (T a).2.1 ≠ (T b).2.1) (q0 : Nat) {a0 : Nat} {fs : List Value} (he : ws[q0]? = some (a0, .inr (ci, fs))) (hcl : vwCl[ci]? = some (C, T, N)) (j : Nat) (hj : j < N) (hlink : Cond.fieldLink own idx (T j).1 (T j).2.1 (T j).2.2.1 ∈ zlwg) (hfin : (T j).2.2.2 = true) (hdecl : (T j).1 = own) {ty : FieldType} {v : Value} (hd : parseFieldDescriptor (T j).2.2.1 = some ty) (hn : narrow ty v = v) (hfit : fits ty v = true) (hl' : j < fs.length) (d : decode cc pc = .ok (.putfield idx, 3)) (hw : ws.set q0 (a0, .inr (ci, fs.set j v)) = ws') (k : ∀ hD', zGO p l e R s m args below meth c (cells) (slots) (zlwA A) D A nL Qf o ⟨ws', hD'⟩ (pc + 3) lv (st)) : zGO p l e R s m args below meth c (cells) (slots) (zlwA A) D A nL Qf o ⟨ws, hD⟩ (pc) lv (v :: .ref a0 :: st) := by
  intro a τ h0 H locs ls hP hS hl
  refine va_putF hc.1 hc.2.1 hc.2.2.2.2.1 hinx ty0 hty hnm hc.2.2.2.1 hc.2.2.2.2.2.2.2.1 hP hD hS q0 he hcl j hj (hc.2.2.2.2.1 _ hlink) (fun _ h9 => h9) hfin hini hdecl hd hn hfit hl' d (fun H1 locs1 hP1 hD1 hS1 => ?_)
  rw [hw] at hP1 hD1
  exact k hD1 a τ h0 H1 locs1 ls hP1 hS1 hl
theorem n_put (hc : zCx p s m args meth c cc nL own D ca xa A (zlwA A)) {C : String} {T : u_T} {N ci idx : Nat} (hinx : ∀ w ∈ u_ws C T N, w ∈ zlwg) (ty0 : Nat → FieldType) (hty : ∀ k, k < N → parseFieldDescriptor (T k).2.2.1 = some (ty0 k)) (hnm : ∀ a, a < N → ∀ b, b < N → a ≠ b → (T a).2.1 ≠ (T b).2.1) (q0 : Nat) {a0 : Nat} {fs : List Value} (he : ws[q0]? = some (a0, .inr (ci, fs))) (hcl : vwCl[ci]? = some (C, T, N)) (j : Nat) (hj : j < N) (hlink : Cond.fieldLink own idx (T j).1 (T j).2.1 (T j).2.2.1 ∈ zlwg) (hfin : (T j).2.2.2 = false) {ty : FieldType} {v : Value} (hd : parseFieldDescriptor (T j).2.2.1 = some ty) (hn : narrow ty v = v) (hfit : fits ty v = true) (hl' : j < fs.length) (d : decode cc pc = .ok (.putfield idx, 3)) (hw : ws.set q0 (a0, .inr (ci, fs.set j v)) = ws') (k : ∀ hD', zGO p l e R s m args below meth c (cells) (slots) (zlwA A) D A nL Qf o ⟨ws', hD'⟩ (pc + 3) lv (st)) : zGO p l e R s m args below meth c (cells) (slots) (zlwA A) D A nL Qf o ⟨ws, hD⟩ (pc) lv (v :: .ref a0 :: st) := by
  intro a τ h0 H locs ls hP hS hl
  refine va_put hc.1 hc.2.1 hc.2.2.2.2.1 hinx ty0 hty hnm hc.2.2.2.1 hc.2.2.2.2.2.2.2.1 hP hD hS q0 he hcl j hj (hc.2.2.2.2.1 _ hlink) (fun _ h9 => h9) hfin hd hn hfit hl' d (fun H1 locs1 hP1 hD1 hS1 => ?_)
  rw [hw] at hP1 hD1
  exact k hD1 a τ h0 H1 locs1 ls hP1 hS1 hl
theorem n_get (hc : zCx p s m args meth c cc nL own D ca xa A (zlwA A)) {C : String} {T : u_T} {N ci idx : Nat} (hinx : ∀ w ∈ u_ws C T N, w ∈ zlwg) (q0 : Nat) {a0 : Nat} {fs : List Value} (he : ws[q0]? = some (a0, .inr (ci, fs))) (hcl : vwCl[ci]? = some (C, T, N)) (j : Nat) (hj : j < N) (hlink : Cond.fieldLink own idx (T j).1 (T j).2.1 (T j).2.2.1 ∈ zlwg) {v : Value} (hv : fs[j]? = some v) (d : decode cc pc = .ok (.getfield idx, 3)) (k : zGO p l e R s m args below meth c (cells) (slots) (zlwA A) D A nL Qf o ⟨ws, hD⟩ (pc + 3) lv (v :: st)) : zGO p l e R s m args below meth c (cells) (slots) (zlwA A) D A nL Qf o ⟨ws, hD⟩ (pc) lv (.ref a0 :: st) :=
  fun a τ h0 H locs ls hP hS hl => va_get hc.1 hc.2.1 hc.2.2.2.2.1 hinx hc.2.2.2.1 hc.2.2.2.2.2.2.2.1 hP q0 he hcl j hj (hc.2.2.2.2.1 _ hlink) (fun _ h9 => h9) hv d (k a τ h0 H locs ls hP hS hl)
theorem n_iast (hc : zCx p s m args meth c cc nL own D ca xa A (zlwA A)) (q0 : Nat) {a0 n0 : Nat} {f : Nat → Int32} (he : ws[q0]? = some (a0, .inl (ca 0, n0, .inl f))) {i x : Int32} (hin : vp_in i n0) (d : decode cc pc = .ok (.iastore, 1)) (hw : ws.set q0 (a0, .inl (ca 0, n0, .inl (upd f i.toNatClampNeg x))) = ws') (k : ∀ hD', zGO p l e R s m args below meth c (cells) (slots) (zlwA A) D A nL Qf o ⟨ws', hD'⟩ (pc + 1) lv (st)) : zGO p l e R s m args below meth c (cells) (slots) (zlwA A) D A nL Qf o ⟨ws, hD⟩ (pc) lv (.int x :: .int i :: .ref a0 :: st) := by
  intro a τ h0 H locs ls hP hS hl
  refine va_iast hc.1 hc.2.1 hc.2.2.2.2.2.2.2.1 hP hD hS q0 0 he rfl hin d (fun H1 locs1 hP1 hD1 hS1 => ?_)
  rw [hw] at hP1 hD1
  exact k hD1 a τ h0 H1 locs1 ls hP1 hS1 hl
theorem n_newc (hc : zCx p s m args meth c cc nL own D ca xa A (zlwA A)) {C : String} {T : u_T} {N ci idx : Nat} {wf : Nat → va_W} (hinx : ∀ w ∈ u_ws C T N, w ∈ zlwg) (ty0 : Nat → FieldType) (hty : ∀ k, k < N → parseFieldDescriptor (T k).2.2.1 = some (ty0 k)) (hw3 : Cond.classLink own idx C ∈ zlwg ∧ Cond.instantiable C N ∈ zlwg ∧ Cond.initialized C ∈ zlwg) (hcl : vwCl[ci]? = some (C, T, N)) (fs : List Value) (hfs : ∀ j, j < N → defaultValue (ty0 j) = vp_V fs j) (hR : cells + 1 ≤ R.cells ∧ slots + N ≤ R.slots) (d : decode cc pc = .ok (.new idx, 3)) (hw : ∀ q, ws ++ [(q, .inr (ci, fs))] = wf q) (k : ∀ q hD', zGO p l e R s m args below meth c (cells + 1) (slots + N) (zlwA A) D A nL Qf o ⟨wf q, hD'⟩ (pc + 3) lv (.ref q :: st)) : zGO p l e R s m args below meth c (cells) (slots) (zlwA A) D A nL Qf o ⟨ws, hD⟩ (pc) lv (st) := by
  intro a τ h0 H locs ls hP hS hl
  refine va_new (ci := ci) (fs := fs) hc.1 hc.2.1 hc.2.2.2.2.1 hinx ty0 hty hc.2.2.2.1 (hc.2.2.2.2.1 _ hw3.1) (hc.2.2.2.2.1 _ hw3.2.1) (hc.2.2.2.2.1 _ hw3.2.2) hc.2.2.2.2.2.2.2.1 hP hD hS hc.2.2.2.2.2.2.1 hcl hfs hR.1 hR.2 d (fun q H1 hP1 hD1 hS1 => ?_)
  rw [hw q] at hP1 hD1
  exact k q hD1 a τ h0 H1 locs ls hP1 hS1 hl
theorem n_ret (hc : zCx p s m args meth c cc nL own D ca xa A (zlwA A)) (hr : meth.sig.returnType = none) {B : va_W → Prop} (hB : B ws) (d : decode cc pc = .ok (.return_, 1)) : zGO p l e R s m args below meth c cells slots (zlwA A) D A nL (fun (_ : α) (_ : zSA A) => MQ below (zPostN D A B) args s cells slots A) o ⟨ws, hD⟩ pc lv [] := by
  intro a τ h H locs ls hP hS hl
  have hlocks : meth.locks = false := hc.2.2.2.2.2.1
  exact W.vret hc.1 hc.2.1 hr (fun t ht hW => ⟨⟨rfl, ws, hB, by rw [ht]; exact hP, hD⟩, hS.F ht⟩) hS.2.2 d
theorem n_met {y : MethodName} {rm : Room} {al : List Value} {B : va_W → Prop} {mc ms : Nat} (hy : plainName y.cls = true) (hyn : y.name = "<init>") (hlen : (lg_sl al).length ≤ nL) (hlv : lv_args 0 al = lv) (hD0 : va_D A ws)
    (body : ∀ (p : Program) (e : Env) (s : State) (m : MethodId) (args : Array Value) (below : List Frame) (meth : Method) (c : Code), zCx p s m args meth c cc nL y.cls D ca xa A (zlwA A) → meth.sig.returnType = none → meth.name = "<init>" → va_AOA .long s → zGO p l e rm s m args below meth c 0 0 (zlwA A) D A nL (fun (_ : Unit) (_ : zSA A) => MQ below (zPostN D A B) args s mc ms A) (some ((), ⟨ws, hD0⟩)) ⟨ws, hD0⟩ 0 lv []) : zCtN l y cc nL rm D ca xa A al ws B mc ms := by
  refine Met.ofW (cc := cc) (maxL := nL) (ret := none) hy rfl ?_
  intro p e s m args below meth c s₁ B hml hv
  obtain ⟨rfl, hA, hP, hKx, hO⟩ := hv
  have hts := atoms_spec (ws := Cond.code y cc nL none :: zlwg) B.pre
  have hown : s.vm.findClass y.cls = some m.cls := findClass_of_methodNamed B.named
  have hl := lv_entry al (n := nL) hlen
  rw [lg_entry_eq]
  rw [hlv] at hl
  exact body p e s m al.toArray below meth c ⟨B.exec, B.bytes, hml, hown, fun w hw => hts w (List.mem_cons_of_mem _ hw), B.notSynchronized, hA, hKx⟩ B.returns ((name_of_methodNamed B.named B.method).1.trans hyn) hO () ⟨ws, hD0⟩ rfl s.heap [] _ hP va_S.rf hl
theorem zPreN.blind {al : List Value} : FrameBlind (va_Pc al (zPreN D ca xa A ws)) := fun a U g mk q => ⟨q.1, q.2.1, q.2.2.1, q.2.2.2.1.blind rfl rfl, q.2.2.2.2.moved (Vm.Alike.refl U.vm)⟩
theorem zKx.part {S S' : Type} {lw : S → va_W} {lw2 : S' → va_W} {A1 : Nat → Prop} {U : State} (h : zKx D ca xa A lw U) (hAB : ∀ q, A1 q → A q) (hd : ∀ σ, va_D A1 (lw2 σ)) : zKx D ca xa A1 lw2 U := ⟨h.1, hd, h.2.2.1, h.2.2.2.narrow hAB⟩
/-- a constructor that is called on the cell at place iC; the others stay -/
theorem n_call (hc : zCx p s m args meth c cc nL own D ca xa A (zlwA A)) (hO : va_AOA .long s) {y : MethodName} {cc2 : ByteArray} {nL2 idx b0 mc ms : Nat} {rm2 : Room} {host : String} {e0 : va_E} {B : va_W → Prop} {rest : List Value} {wr : va_W} (iC : Nat) (isR : List Nat) (hC : ws[iC]? = some (b0, e0)) (hRr : isR.map (fun i => ws[i]?) = wr.map some) (hnd : va_nd isR = true) (hdis : ∀ i ∈ isR, i ∉ [iC])
    (hct : ∀ A1 : Nat → Prop, va_D A1 [(b0, e0)] → zCtN l y cc2 nL2 rm2 D ca xa A1 [.ref b0] [(b0, e0)] B mc ms) (hp : zMp y cc2 nL2 none 0) (hyn : y.name = "<init>") (hi : Cond.instanceMethod y ∈ zlwg) (hlk : Cond.methodLinkNest own idx y host ∈ znest) (hrm : rm2.cells = mc ∧ rm2.slots = ms ∧ rm2.frames + 1 ≤ R.frames ∧ 8 + (nL2 + 11) + rm2.locals ≤ R.locals) (hcs : cells + mc ≤ R.cells ∧ slots + ms ≤ R.slots) (hcat : (rest.map fun v => v.category).sum ≤ 8) (d : decode cc pc = .ok (.invokespecial idx, 3))
    (k : ∀ w1, B w1 → ∀ hD', zGO p l e R s m args below meth c (cells + mc) (slots + ms) (zlwA A) D A nL Qf o ⟨wr ++ w1, hD'⟩ (pc + 3) lv (rest)) : zGO p l e R s m args below meth c (cells) (slots) (zlwA A) D A nL Qf o ⟨ws, hD⟩ (pc) lv (.ref b0 :: rest) := by
  intro a τ h0 H locs ls hP hS hl
  have hPc : va_P D vwCl [(b0, e0)] H := hP.sub (ws' := [(b0, e0)]) [iC] (by simp [hC])
  have hFc := va_free (wc := [(b0, e0)]) hD hS hc.2.2.2.2.2.2.1 [iC] (by simp [hC])
  have hDc : va_D (va_A [(b0, e0)] H.size) [(b0, e0)] := (hD.sub (ws' := [(b0, e0)]) [iC] rfl (by simp [hC])).self
  have hpre : ∀ U : State, U.heap = H → s.WarmedH U.vm → zPreN D ca xa (va_A [(b0, e0)] H.size) [(b0, e0)] U := fun U hU hW =>
    ⟨fun q hq => Or.inr (by rw [← hU]; exact hq), by rw [hU]; exact hPc, ((hc.2.2.2.2.2.2.2).at hW (fun a h1 h2 => by rw [hU]; exact hS.2.1 a h1 h2)).part hFc (fun σ => σ.2), hO.moved hW.alike⟩
  intro T hT X
  have hRun : va_Run p l e R s m args below meth c H locs cells slots mc ms (F0 m pc ls (.ref b0 :: rest)) rest (zPostN D (va_A [(b0, e0)] H.size) B ([Value.ref b0]).toArray) (va_A [(b0, e0)] H.size) := va_runIN (As := []) (rest := rest) (g := F0 m pc ls (.ref b0 :: rest)) ⟨hc.1, hc.2.1, hc.2.2.1, hc.2.2.2.1, hc.2.2.2.2.1⟩ (hct (va_A [(b0, e0)] H.size) hDc) ⟨va_cnB 0 hc.2.2.2.2.1 (zG2 hp) rfl hrm.1 hrm.2.1 (hc.2.2.2.2.2.2.2.2.2.1 _ hlk) (hc.2.2.2.2.1 _ hp.2.1) hp.2.2 hrm.2.2, hyn, hc.2.2.2.2.1 _ hi⟩ ⟨zPreN.blind, fun U hU hW => ⟨rfl, hpre U hU hW⟩⟩ rfl rfl hl.1 rfl (lv_room hcat) d hcs
  obtain ⟨v, st₀, t, T', L, h0', X', hL, e1, e2, ⟨⟨hv, w1, hB, hP1, hD1⟩, hz, hk⟩, stp⟩ := hRun T hT X
  cases hv
  rw [h0'] at hz hk
  obtain ⟨hPj, hDj⟩ := va_join (wr := wr) (w1 := w1) hP hD [iC] isR (by simp [hC]) hRr hnd hdis hk hFc hP1 hD1
  obtain ⟨t2, a1, b1⟩ := k w1 hB hDj a τ h0 T'.heap (locs ++ L) ls (by rw [e1]; exact hPj)
    ⟨Nat.le_trans hS.1 (by rw [e1]; exact hz), fun q h1 h2 => by rw [e1, hk q (Nat.lt_of_lt_of_le h1 hS.1) (fun z => h2 (hFc q z))]; exact hS.2.1 q h1 h2, fun q hq => by
      rcases List.mem_append.mp hq with h | h
      · exact hS.2.2 q h
      · exact hFc _ (hL q h)⟩ hl T' rfl X'
  exact ⟨t2, stp t2 a1, b1⟩
theorem va_D_congr {w1 w2 : va_W} (h : w1.map Prod.fst = w2.map Prod.fst) (hd : va_D A w1) : va_D A w2 := by
  have key : ∀ (i : Nat) (x : Nat × va_E), w2[i]? = some x → ∃ y, w1[i]? = some y ∧ y.1 = x.1 := by
    intro i x hx
    have h1 : (w2.map Prod.fst)[i]? = some x.1 := by rw [List.getElem?_map, hx]; rfl
    rw [← h, List.getElem?_map] at h1
    cases hy : w1[i]? with
    | none => rw [hy] at h1; cases h1
    | some y => rw [hy] at h1; exact ⟨y, rfl, Option.some.inj h1⟩
  refine ⟨fun i j a b ha hb hab => ?_, fun k q hq => ?_⟩
  · obtain ⟨a', h1, h2⟩ := key i a ha
    obtain ⟨b', h3, h4⟩ := key j b hb
    exact hd.1 i j a' b' h1 h3 (by rw [h2, h4]; exact hab)
  · obtain ⟨q', h1, h2⟩ := key k q hq
    rw [← h2]
    exact hd.2 k q' h1
theorem va_P_one {D : va_G} {cl : List vw_C} {q : Nat × va_E} {H : Heap} (h : va_at D cl q H) : va_P D cl [q] H := fun k x hx => by
  match k, hx with
  | 0, hx => cases hx; exact h
  | k + 1, hx => simp at hx
theorem arrV_congr {c : ClassId} {n : Nat} {f g : Nat → Value} (h : ∀ j, j < n → f j = g j) : arrV c n f = arrV c n g := by
  unfold arrV
  have e : (fun j : Fin n => f j.val) = (fun j : Fin n => g j.val) := funext fun j => h j.val j.isLt
  rw [e]
theorem n_multi (hc : zCx p s m args meth c cc nL own D ca xa A (zlwA A)) (hO : va_AOA .long s) {idx : Nat} (hlk : Cond.classLink own idx "[[J" ∈ zlwg) (hR : cells + (1 + 15) ≤ R.cells ∧ slots + (15 + 15 * 9) ≤ R.slots) (d : decode cc pc = .ok (.multianewarray idx 2, 4))
    (k : ∀ (q : Nat) (r : Nat → Nat) hD', zGO p l e R s m args below meth c (cells + 1 + 15) (slots + 15 + 15 * 9) (zlwA A) D A nL Qf o ⟨(ws ++ [(q, .inl (ca 4, 15, .inr (.inr (.inr (.inr (fun j => some (r j)))))))]) ++ (List.range 15).map (fun i => (r i, .inl (ca 2, 9, .inr (.inl (fun _ => 0))))), hD'⟩ (pc + 4) lv (.ref q :: st)) : zGO p l e R s m args below meth c (cells) (slots) (zlwA A) D A nL Qf o ⟨ws, hD⟩ (pc) lv (.int 9 :: .int 15 :: st) := by
  intro a τ h0 H locs ls hP hS hl
  have hnil : ws ++ va_pl [] (fun _ => (.inl (ca 0, 0, .inl fun _ => 0) : va_E)) = ws := List.append_nil ws
  refine va_mna (X := ws) (L := []) (f := fun _ => .inl (ca 0, 0, .inl fun _ => 0)) (ty := .long) (cy := ca 2) (z := (9, .inr (.inl (fun _ => 0)))) hc.1 hc.2.1 hc.2.2.2.1 (hc.2.2.2.2.1 _ hlk) hO (hc.2.2.2.2.1 _ n_arrJ) (hc.2.2.2.2.2.2.2.1.2 2 _ rfl).2 hc.2.2.2.2.2.2.2.1 (by rw [hnil]; exact hP) (by rw [hnil]; exact hD) hS hc.2.2.2.2.2.2.1 (by decide) (by decide) (N' := 15) (K' := 9) (by decide) (by decide) (by decide) (by decide) (by decide) rfl rfl hR.1 hR.2 (fun c => ?_) d (fun q r cA H1 hr1 hr2 hK1 hP1 hD1 hS1 => ?_)
  · exact arrV_new c 9 (.long 0)
  · have e1 : cA = ca 4 := Option.some.inj ((hK1.2 5 _ rfl).2.symm.trans (hc.2.2.2.2.2.2.2.1.2 4 _ rfl).2)
    subst e1
    have hrows : va_pl ([] ++ (List.range 15).map r) (vr_up (fun _ => (.inl (ca 0, 0, .inl fun _ => 0) : va_E)) ((List.range 15).map r) (.inl (ca 2, (9, .inr (.inl (fun _ => 0)))))) = (List.range 15).map (fun i => (r i, .inl (ca 2, 9, .inr (.inl (fun _ => 0))))) := by
      unfold va_pl
      rw [List.nil_append, List.map_map]
      apply List.map_congr_left
      intro i hi
      show (r i, vr_up _ _ _ (r i)) = _
      rw [vr_up_in (List.mem_map_of_mem hi)]
    rw [hrows] at hP1 hD1
    have hD2 := va_D_congr (w2 := (ws ++ [(q, .inl (ca 4, 15, .inr (.inr (.inr (.inr (fun j => some (r j)))))))]) ++ (List.range 15).map (fun i => (r i, .inl (ca 2, 9, .inr (.inl (fun _ => 0)))))) (by simp) hD1
    refine k q r hD2 a τ h0 H1 locs ls ?_ hS1 hl
    have hl1 : ∀ i x, ws[i]? = some x → i < ws.length := fun i x h => (List.getElem?_eq_some_iff.mp h).1
    refine va_P.app (va_P.app (fun i x hx => ?_) (va_P_one ?_)) (fun i x hx => ?_)
    · exact hP1 i x (by rw [List.append_assoc, List.getElem?_append_left (hl1 i x hx)]; exact hx)
    · have h9 := hP1 ws.length (q, .inl (ca 4, 15, .inr (.inr (.inr (.inr (fun i => if i < 15 then some (r i) else none)))))) (by
        rw [List.append_assoc, List.getElem?_append_right (Nat.le_refl _)]; simp)
      refine h9.trans (congrArg some ?_)
      exact arrV_congr (f := fun j => va_rf (if j < 15 then some (r j) else none)) (g := fun j => va_rf (some (r j))) (fun j hj => by simp only [if_pos hj])
    · exact hP1 (ws.length + 1 + i) x (by
        rw [List.getElem?_append_right (by simp only [List.length_append, List.length_cons, List.length_nil]; omega), ← hx]
        congr 1
        simp only [List.length_append, List.length_cons, List.length_nil]
        omega)

end zN
