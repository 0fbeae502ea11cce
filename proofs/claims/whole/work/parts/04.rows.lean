/-! ===== stores: what the cells of a world hold, by cell and place ===== -/
abbrev zSt : Type := (Nat → Nat → Int32) × (Nat → Nat → Int64)
def zsi (σ : zSt) (k i : Nat) (v : Int32) : zSt := (fun a => if a = k then upd (σ.1 a) i v else σ.1 a, σ.2)
def zsl (σ : zSt) (k i : Nat) (v : Int64) : zSt := (σ.1, fun a => if a = k then vp_updL (σ.2 a) i v else σ.2 a)
def zsc (σ : zSt) (k : Nat) (f : Nat → Int32) : zSt := (fun a => if a = k then f else σ.1 a, σ.2)
/-- the shape of a world: a cell by its number and what it holds -/
abbrev zSh : Type := Nat → (Nat → Int32) → (Nat → Int64) → Nat × va_E
def zlay (cl : zSh) (n : Nat) (σ : zSt) : va_W := (List.range n).map (fun k => cl k (σ.1 k) (σ.2 k))
theorem zlay_get {cl : zSh} {n : Nat} {σ : zSt} {k : Nat} (h : k < n) : (zlay cl n σ)[k]? = some (cl k (σ.1 k) (σ.2 k)) := by
  unfold zlay
  rw [List.getElem?_map, List.getElem?_range h]
  rfl
theorem zlay_no {cl : zSh} {n : Nat} {σ : zSt} {k : Nat} (h : ¬ k < n) : (zlay cl n σ)[k]? = none := by
  unfold zlay
  rw [List.getElem?_map, List.getElem?_eq_none (by rw [List.length_range]; omega)]
  rfl
theorem zlay_len {cl : zSh} {n : Nat} {σ : zSt} : (zlay cl n σ).length = n := by
  unfold zlay
  rw [List.length_map, List.length_range]
theorem zlay_set {cl : zSh} {n k : Nat} {σ τ : zSt} {x : Nat × va_E} (h : cl k (τ.1 k) (τ.2 k) = x) (ho : ∀ j, j ≠ k → τ.1 j = σ.1 j ∧ τ.2 j = σ.2 j) : (zlay cl n σ).set k x = zlay cl n τ := by
  apply List.ext_getElem?
  intro j
  rw [List.getElem?_set]
  by_cases hj : j < n
  · rw [zlay_get hj, zlay_get hj, zlay_len]
    by_cases e : k = j
    · subst e
      rw [if_pos rfl, if_pos hj, h]
    · obtain ⟨a, b⟩ := ho j (fun q => e q.symm)
      rw [if_neg e, a, b]
  · rw [zlay_no hj, zlay_no hj, zlay_len]
    by_cases e : k = j
    · subst e
      rw [if_pos rfl, if_neg hj]
    · rw [if_neg e]
theorem zsi_at {σ : zSt} {k i : Nat} {v : Int32} : (zsi σ k i v).1 k = upd (σ.1 k) i v := if_pos rfl
theorem zsi_ne {σ : zSt} {k i j : Nat} {v : Int32} (h : j ≠ k) : (zsi σ k i v).1 j = σ.1 j := if_neg h
theorem zsl_at {σ : zSt} {k i : Nat} {v : Int64} : (zsl σ k i v).2 k = vp_updL (σ.2 k) i v := if_pos rfl
theorem zsl_ne {σ : zSt} {k i j : Nat} {v : Int64} (h : j ≠ k) : (zsl σ k i v).2 j = σ.2 j := if_neg h
theorem zlay_si {cl : zSh} {n k i : Nat} {σ : zSt} {v : Int32} {x : Nat × va_E} (h : cl k (upd (σ.1 k) i v) (σ.2 k) = x) : (zlay cl n σ).set k x = zlay cl n (zsi σ k i v) :=
  zlay_set (by rw [zsi_at]; exact h) (fun j hj => ⟨zsi_ne hj, rfl⟩)
theorem zlay_sl {cl : zSh} {n k i : Nat} {σ : zSt} {v : Int64} {x : Nat × va_E} (h : cl k (σ.1 k) (vp_updL (σ.2 k) i v) = x) : (zlay cl n σ).set k x = zlay cl n (zsl σ k i v) :=
  zlay_set (by rw [zsl_at]; exact h) (fun j hj => ⟨rfl, zsl_ne hj⟩)
theorem zlay_sc {cl : zSh} {n k : Nat} {σ : zSt} {f : Nat → Int32} {x : Nat × va_E} (h : cl k f (σ.2 k) = x) : (zlay cl n σ).set k x = zlay cl n (zsc σ k f) :=
  zlay_set (by show cl k (if k = k then f else _) (σ.2 k) = x; rw [if_pos rfl]; exact h) (fun j hj => ⟨if_neg hj, rfl⟩)
/-- apart is said of addresses alone -/
theorem zlay_D {cl : zSh} {n : Nat} {A : Nat → Prop} {ad : Nat → Nat} (hcl : ∀ k f g, (cl k f g).1 = ad k) (h : ∀ i j, i < n → j < n → ad i = ad j → i = j) (hA : ∀ i, i < n → A (ad i)) (σ : zSt) : va_D A (zlay cl n σ) := by
  have lt : ∀ {k : Nat} {q : Nat × va_E}, (zlay cl n σ)[k]? = some q → k < n ∧ q.1 = ad k := by
    intro k q hq
    by_cases hk : k < n
    · rw [zlay_get hk] at hq
      cases hq
      exact ⟨hk, hcl _ _ _⟩
    · rw [zlay_no hk] at hq
      cases hq
  refine ⟨fun i j a b ha hb hab => ?_, fun k q hq => ?_⟩
  · obtain ⟨h1, h2⟩ := lt ha
    obtain ⟨h3, h4⟩ := lt hb
    exact h i j h1 h3 (by rw [← h2, ← h4]; exact hab)
  · obtain ⟨h1, h2⟩ := lt hq
    rw [h2]
    exact hA k h1
/-! ===== pieces of which the functions are made ===== -/
def zin (i : Int32) (n : Nat) : Prop := 0 ≤ i ∧ i.toNatClampNeg < n
abbrev zinD (i : Int32) (n : Nat) : Decidable (zin i n) := by unfold zin; exact inferInstance
theorem zin_vp {i : Int32} {n : Nat} (h : zin i n) : vp_in i n := by
  rintro (q | q)
  · exact absurd h.1 (by rw [Int32.not_le]; exact q)
  · exact absurd h.2 (Nat.not_lt.mpr q)
/-- a call -/
def zbnd {α β : Type} {S : Type} (o : Option (α × S)) (k : α → S → Option β) : Option β := match o with
  | some (a, τ) => k a τ
  | none => none
/-- a name for a number -/
def znm {α β : Type} (x : α) (k : α → β) : β := k x
/-- ITEM i of an array of n, cell c -/
def zag {β : Type} (σ : zSt) (c n : Nat) (i : Int32) (k : Int32 → Option β) : Option β := @ite _ (zin i n) (zinD i n) (k (σ.1 c i.toNatClampNeg)) none
def zas {β : Type} (σ : zSt) (c n : Nat) (i v : Int32) (k : zSt → Option β) : Option β := @ite _ (zin i n) (zinD i n) (k (zsi σ c i.toNatClampNeg v)) none
def zagL {β : Type} (σ : zSt) (c n : Nat) (i : Int32) (k : Int64 → Option β) : Option β := @ite _ (zin i n) (zinD i n) (k (σ.2 c i.toNatClampNeg)) none
def zasL {β : Type} (σ : zSt) (c n : Nat) (i : Int32) (v : Int64) (k : zSt → Option β) : Option β := @ite _ (zin i n) (zinD i n) (k (zsl σ c i.toNatClampNeg v)) none
/-- row i of an array of n rows -/
def zrow {β : Type} (n : Nat) (i : Int32) (k : Nat → Option β) : Option β := @ite _ (zin i n) (zinD i n) (k i.toNatClampNeg) none
/-- a table that never changes -/
def ztab {β : Type} (f : Nat → Int32) (n : Nat) (i : Int32) (k : Int32 → Option β) : Option β := @ite _ (zin i n) (zinD i n) (k (f i.toNatClampNeg)) none
def zpf {β : Type} (σ : zSt) (c j : Nat) (v : Int32) (k : zSt → β) : β := k (zsi σ c j v)
def zpfL {β : Type} (σ : zSt) (c j : Nat) (v : Int64) (k : zSt → β) : β := k (zsl σ c j v)
def zdvL {β : Type} (x y : Int64) (k : Int64 → Option β) : Option β := if y = 0 then none else k (x / y)
def zrmL {β : Type} (x y : Int64) (k : Int64 → Option β) : Option β := if y = 0 then none else k (x - x / y * y)
def zrm {β : Type} (x y : Int32) (k : Int32 → Option β) : Option β := if y = 0 then none else k (x - x / y * y)
/-- an answer that is true or false -/
def zrz {S : Type} (v : Int32) (σ : S) : Option (Int32 × S) := if v = 0 ∨ v = 1 then some (v, σ) else none
/-- System.arraycopy within one array of n -/
def zcp {β : Type} (σ : zSt) (c n : Nat) (sp dp len : Int32) (k : zSt → Option β) : Option β :=
  if 0 ≤ sp ∧ 0 ≤ dp ∧ 0 ≤ len ∧ sp.toNatClampNeg + len.toNatClampNeg ≤ n ∧ dp.toNatClampNeg + len.toNatClampNeg ≤ n then k (zsc σ c (va_cpy (σ.1 c) (σ.1 c) sp.toNatClampNeg dp.toNatClampNeg len.toNatClampNeg)) else none
/-! ===== words ===== -/
def zlwg : List Cond := lw_tbl.filter goodWord
theorem zlwg_of {w : Cond} (h : w ∈ lw_tbl) (g : goodWord w = true) : w ∈ zlwg := List.mem_filter.mpr ⟨h, g⟩
theorem zlwg_good {w : Cond} (h : w ∈ zlwg) : (w.onTables && w.keeps) = true ∨ ∃ ty, w = .arrayClass ty := good_of_word (List.mem_filter.mp h).2
def znestW : Cond → Bool
  | .fieldLinkNest .. => true
  | .methodLinkNest .. => true
  | _ => false
def znest : List Cond := lw_tbl.filter znestW
theorem znest_of {w : Cond} (h : w ∈ lw_tbl) (g : znestW w = true) : w ∈ znest := List.mem_filter.mpr ⟨h, g⟩
theorem zGood {cd : Cond} {ws : List Cond} (h : ∀ w ∈ ws, w ∈ zlwg) : GoodIn (cd :: zlwg) ws := fun w hw => ⟨List.mem_cons_of_mem _ (h w hw), zlwg_good (h w hw)⟩

/-! ===== what never changes: tables, texts ===== -/
def zTW (j : Nat) : Int32 := ([170, 204, 240] : List Int32).getD j 0
def zTD (j : Nat) : Int32 := ([2, 1, 2, 3] : List Int32).getD j 0
def zTK (j : Nat) : Int32 := ([1, 3, 7, 9, 25, 35] : List Int32).getD j 0
def zSlen : List Nat := [4, 5, 5, 4, 3, 3, 4, 4]
def zSbyt : List (List Int32) := [[108, 101, 97, 102], [103, 105, 118, 101, 110], [99, 108, 97, 105, 109], [115, 116, 101, 112], [97, 108, 108], [97, 110, 121], [109, 111, 115, 116], [108, 105, 107, 101]]
def zSpool (i : Nat) : Nat := ([32, 42, 44, 49, 101, 103, 105, 107] : List Nat).getD i 0
def zStext (i : Nat) : String := (["leaf", "given", "claim", "step", "all", "any", "most", "like"] : List String).getD i ""
def zEx (xa : Nat → Nat) (A : Nat → Prop) (U : State) : Prop :=
  (va_Z "SafeNet$Weights" "WORLDS_WITH" "[I" (.ref (xa 0)) A U U.heap ∧ va_T .int (xa 0) 3 (fun j => .int (zTW j)) A U U.heap) ∧
  (va_Z "SafeNet$Net" "DOUBTS_BY_FORM" "[I" (.ref (xa 1)) A U U.heap ∧ va_T .int (xa 1) 4 (fun j => .int (zTD j)) A U U.heap) ∧
  (va_Z "SafeNet$Net" "KINDS_ABOVE" "[I" (.ref (xa 2)) A U U.heap ∧ va_T .int (xa 2) 6 (fun j => .int (zTK j)) A U U.heap) ∧
  va_Z "java/lang/String" "COMPACT_STRINGS" "Z" (.int 1) A U U.heap ∧
  vk_S 8 zSlen zSbyt (fun i => xa (10 + i)) (fun i => xa (20 + i)) A U U.heap ∧
  ∀ i, i < 8 → vk_R "SafeNet$Text" (zSpool i) (zStext i) (xa (10 + i)) U
theorem zEx.at {xa : Nat → Nat} {A : Nat → Prop} {s U : State} (h : zEx xa A s) (hW : s.WarmedH U.vm) (hq : ∀ a : Nat, a < s.heap.size → ¬ A a → U.heap[a]? = s.heap[a]?) : zEx xa A U := by
  obtain ⟨⟨a1, a2⟩, ⟨b1, b2⟩, ⟨c1, c2⟩, d1, e1, f1⟩ := h
  have hv := hW.alike
  exact ⟨⟨(a1.kept hq).moved hv, (a2.kept hq).moved hv⟩, ⟨(b1.kept hq).moved hv, (b2.kept hq).moved hv⟩, ⟨(c1.kept hq).moved hv, (c2.kept hq).moved hv⟩, (d1.kept hq).moved hv, (e1.kept hq).moved hv, fun i hi => (f1 i hi).warm hW⟩
theorem zEx.blind {xa : Nat → Nat} {A : Nat → Prop} {s U : State} (h : zEx xa A s) (hv : s.vm = U.vm) (hh : U.heap = s.heap) : zEx xa A U := by
  obtain ⟨⟨a1, a2⟩, ⟨b1, b2⟩, ⟨c1, c2⟩, d1, e1, f1⟩ := h
  have hq : ∀ a : Nat, a < s.heap.size → ¬ A a → U.heap[a]? = s.heap[a]? := fun a _ _ => by rw [hh]
  have hl : s.vm.Alike U.vm := by rw [hv]; exact Vm.Alike.refl _
  exact ⟨⟨(a1.kept hq).moved hl, (a2.kept hq).moved hl⟩, ⟨(b1.kept hq).moved hl, (b2.kept hq).moved hl⟩, ⟨(c1.kept hq).moved hl, (c2.kept hq).moved hl⟩, (d1.kept hq).moved hl, (e1.kept hq).moved hl, fun i hi => (f1 i hi).same hv.symm⟩
theorem zEx.narrow {xa : Nat → Nat} {A B : Nat → Prop} {s : State} (h : zEx xa A s) (hAB : ∀ q, B q → A q) : zEx xa B s := by
  obtain ⟨⟨a1, a2⟩, ⟨b1, b2⟩, ⟨c1, c2⟩, d1, e1, f1⟩ := h
  exact ⟨⟨a1.narrow hAB, a2.narrow hAB⟩, ⟨b1.narrow hAB, b2.narrow hAB⟩, ⟨c1.narrow hAB, c2.narrow hAB⟩, d1.narrow hAB, e1.narrow hAB, f1⟩
/-- the array classes, by their numbers -/
def ztys (ca : Nat → ClassId) : List (ClassId × FieldType) := [(ca 0, .int), (ca 1, .byte), (ca 2, .long), (ca 3, .boolean), (ca 4, .array .long)]
def zKx {S : Type} (D : va_G) (ca : Nat → ClassId) (xa : Nat → Nat) (A : Nat → Prop) (lw : S → va_W) (U : State) : Prop :=
  va_K D vwCl (ztys ca) U ∧ (∀ σ, va_D A (lw σ)) ∧ (∀ w ∈ znest, va_Nw w U) ∧ zEx xa A U
theorem zNw_warm {w : Cond} (h : znestW w = true) {s U : State} (hW : s.WarmedH U.vm) (hZ : va_Nw w s) : va_Nw w U := by
  cases w <;> first | (exact va_Nw.warmF hW hZ) | (exact va_Nw.warmM hW hZ) | (simp [znestW] at h)
theorem zNw_same {w : Cond} (h : znestW w = true) {s U : State} (hv : s.vm = U.vm) (hZ : va_Nw w s) : va_Nw w U := by
  cases w <;> first | (exact va_Nw.same rfl hv hZ) | (simp [znestW] at h)
theorem zKx.at {S : Type} {D : va_G} {ca : Nat → ClassId} {xa : Nat → Nat} {A : Nat → Prop} {lw : S → va_W} {s U : State} (h : zKx D ca xa A lw s) (hW : s.WarmedH U.vm) (hq : ∀ a : Nat, a < s.heap.size → ¬ A a → U.heap[a]? = s.heap[a]?) : zKx D ca xa A lw U :=
  ⟨h.1.moved hW.alike, h.2.1, fun w hw => zNw_warm (List.mem_filter.mp hw).2 hW (h.2.2.1 w hw), h.2.2.2.at hW hq⟩
theorem zKx.blind {S : Type} {D : va_G} {ca : Nat → ClassId} {xa : Nat → Nat} {A : Nat → Prop} {lw : S → va_W} {s U : State} (h : zKx D ca xa A lw s) (hv : s.vm = U.vm) (hh : U.heap = s.heap) : zKx D ca xa A lw U :=
  ⟨h.1.moved (by rw [hv]; exact Vm.Alike.refl _), h.2.1, fun w hw => zNw_same (List.mem_filter.mp hw).2 hv (h.2.2.1 w hw), h.2.2.2.blind hv hh⟩
def zPre {S : Type} (D : va_G) (ca : Nat → ClassId) (xa : Nat → Nat) (A : Nat → Prop) (lw : S → va_W) (σ : S) (U : State) : Prop :=
  (∀ q, U.heap.size ≤ q → A q) ∧ va_P D vwCl (lw σ) U.heap ∧ zKx D ca xa A lw U
def zPost {S : Type} (D : va_G) (A : Nat → Prop) (lw : S → va_W) (rv : Option Value) (τ : S) : Array Value → State → Outcome → State → Prop :=
  fun _ st oc t => (oc = .returned rv ∧ va_P D vwCl (lw τ) t.heap) ∧ va_F A st t
/-- a contract: from store σ the method comes to store τ with the answer rv -/
def zCt {S : Type} (l : Launch) (y : MethodName) (cc : ByteArray) (nL : Nat) (ret : Option FieldType) (rm : Room) (D : va_G) (ca : Nat → ClassId) (xa : Nat → Nat) (A : Nat → Prop) (lw : S → va_W) (al : List Value) (σ : S) (rv : Option Value) (τ : S) : Prop :=
  Met l y (Cond.code y cc nL ret :: zlwg) rm (va_Pc al (zPre D ca xa A lw σ)) (zPost D A lw rv τ) 0 0 A
section zG
variable {p : Program} {l : Launch} {e : Env} {R : Room} {s : State} {m : MethodId} {args : Array Value} {below : List Frame} {meth : Method} {c : Code} {cells slots : Nat}
variable {S α : Type}
/-- the machine at pc with locals lv and stack st, in the world of σ, comes to where o says -/
def zGO (p : Program) (l : Launch) (e : Env) (R : Room) (s : State) (m : MethodId) (args : Array Value) (below : List Frame) (meth : Method) (c : Code) (cells slots : Nat) (lw : S → va_W) (D : va_G) (A : Nat → Prop) (nL : Nat) (Qf : α → S → State → Prop) (o : Option (α × S)) (σ : S) (pc : Nat) (lv : List (Nat × Value)) (st : List Value) : Prop :=
  ∀ (a : α) (τ : S), o = some (a, τ) → ∀ (H : Heap) (locs : List Loc) (ls : Array Slot), va_P D vwCl (lw σ) H → va_S A s.heap H locs → lv_has ls nL lv → W p l e R s m args below meth c H locs cells slots (Qf a τ) (F0 m pc ls st)
def zCx (p : Program) (s : State) (m : MethodId) (args : Array Value) (meth : Method) (c : Code) (cc : ByteArray) (nL : Nat) (own : String) (D : va_G) (ca : Nat → ClassId) (xa : Nat → Nat) (A : Nat → Prop) (lw : S → va_W) : Prop :=
  p.tables.exec = Jvm.exec ∧ c.code = cc ∧ c.maxLocals = nL ∧ s.vm.findClass own = some m.cls ∧ (∀ w ∈ zlwg, w.before args s = true) ∧ meth.locks = false ∧ (∀ q, s.heap.size ≤ q → A q) ∧ zKx D ca xa A lw s
variable {lw : S → va_W} {D : va_G} {ca : Nat → ClassId} {xa : Nat → Nat} {A : Nat → Prop} {nL : Nat} {Qf : α → S → State → Prop} {cc : ByteArray} {own : String}
variable {o o1 o2 : Option (α × S)} {σ : S} {pc tgt : Nat} {lv lv' : List (Nat × Value)} {st : List Value}

theorem z_lift {pc' : Nat} {st' : List Value} (k : zGO p l e R s m args below meth c cells slots lw D A nL Qf o σ (pc') lv' (st')) (f : ∀ {H : Heap} {locs : List Loc} {ls : Array Slot} {Q : State → Prop}, lv_has ls nL lv → (∀ ls' : Array Slot, lv_has ls' nL lv' → W p l e R s m args below meth c H locs cells slots Q (F0 m (pc') ls' (st'))) → W p l e R s m args below meth c H locs cells slots Q (F0 m (pc) ls (st))) : zGO p l e R s m args below meth c cells slots lw D A nL Qf o σ (pc) lv (st) :=
  fun a τ h H locs ls hP hS hl => f hl (fun ls' hl' => k a τ h H locs ls' hP hS hl')
theorem z_none : zGO p l e R s m args below meth c cells slots lw D A nL Qf none σ (pc) lv (st) := fun a τ h => by cases h
theorem z_ite {P : Prop} {dP : Decidable P} (h1 : P → zGO p l e R s m args below meth c cells slots lw D A nL Qf o1 σ (pc) lv (st)) (h2 : ¬ P → zGO p l e R s m args below meth c cells slots lw D A nL Qf o2 σ (pc) lv (st)) : zGO p l e R s m args below meth c cells slots lw D A nL Qf (@ite _ P dP o1 o2) σ (pc) lv (st) := by
  by_cases hP : P
  · rw [if_pos hP]; exact h1 hP
  · rw [if_neg hP]; exact h2 hP
theorem z_sub (ks : List Nat) (hk : lv_pick lv ks = lv') (k : zGO p l e R s m args below meth c cells slots lw D A nL Qf o σ (pc) lv' (st)) : zGO p l e R s m args below meth c cells slots lw D A nL Qf o σ (pc) lv (st) :=
  fun a τ h H locs ls hP hS hl => k a τ h H locs ls hP hS (lv_sub hl ks hk)
theorem z_nm {x : Int32} {k : Int32 → Option (α × S)} (h : ∀ y : Int32, zGO p l e R s m args below meth c cells slots lw D A nL Qf (k y) σ (pc) lv (.int y :: st)) : zGO p l e R s m args below meth c cells slots lw D A nL Qf (znm x k) σ (pc) lv (.int x :: st) := h x
theorem z_nmL {x : Int64} {k : Int64 → Option (α × S)} (h : ∀ y : Int64, zGO p l e R s m args below meth c cells slots lw D A nL Qf (k y) σ (pc) lv (.long y :: st)) : zGO p l e R s m args below meth c cells slots lw D A nL Qf (znm x k) σ (pc) lv (.long x :: st) := h x

theorem z_iconst (hc : zCx p s m args meth c cc nL own D ca xa A lw) {n : Int} {v : Int32} (hv : Int32.ofInt n = v) (d : decode cc pc = .ok (.iconst n, 1)) (k : zGO p l e R s m args below meth c cells slots lw D A nL Qf o σ (pc + 1) lv (.int v :: st)) : zGO p l e R s m args below meth c cells slots lw D A nL Qf o σ (pc) lv (st) := z_lift k (fun hl kk => lv_iconst hc.1 hc.2.1 d hv (kk _ hl))
theorem z_bipush (hc : zCx p s m args meth c cc nL own D ca xa A lw) {n : Int} {v : Int32} (hv : (Int8.ofInt n).toInt32 = v) (d : decode cc pc = .ok (.bipush n, 2)) (k : zGO p l e R s m args below meth c cells slots lw D A nL Qf o σ (pc + 2) lv (.int v :: st)) : zGO p l e R s m args below meth c cells slots lw D A nL Qf o σ (pc) lv (st) := z_lift k (fun hl kk => lv_bipush hc.1 hc.2.1 d hv (kk _ hl))
theorem z_sipush (hc : zCx p s m args meth c cc nL own D ca xa A lw) {n : Int} {v : Int32} (hv : (Int16.ofInt n).toInt32 = v) (d : decode cc pc = .ok (.sipush n, 3)) (k : zGO p l e R s m args below meth c cells slots lw D A nL Qf o σ (pc + 3) lv (.int v :: st)) : zGO p l e R s m args below meth c cells slots lw D A nL Qf o σ (pc) lv (st) := z_lift k (fun hl kk => lv_sipush hc.1 hc.2.1 d hv (kk _ hl))
theorem z_lconst (hc : zCx p s m args meth c cc nL own D ca xa A lw) {n : Fin 2} {v : Int64} (hv : Int64.ofNat (n : Nat) = v) (d : decode cc pc = .ok (.lconst n, 1)) (k : zGO p l e R s m args below meth c cells slots lw D A nL Qf o σ (pc + 1) lv (.long v :: st)) : zGO p l e R s m args below meth c cells slots lw D A nL Qf o σ (pc) lv (st) := z_lift k (fun hl kk => lv_lconst hc.1 hc.2.1 d hv (kk _ hl))
theorem z_ldc (hc : zCx p s m args meth c cc nL own D ca xa A lw) {n : Nat} {v : Int32} (hw : Cond.constant own n v ∈ zlwg) (d : decode cc pc = .ok (.ldc n, 2)) (k : zGO p l e R s m args below meth c cells slots lw D A nL Qf o σ (pc + 2) lv (.int v :: st)) : zGO p l e R s m args below meth c cells slots lw D A nL Qf o σ (pc) lv (st) := z_lift k (fun hl kk => lv_ldc hc.1 hc.2.1 hc.2.2.2.1 (hc.2.2.2.2.1 _ hw) d (kk _ hl))
theorem z_ldc2 (hc : zCx p s m args meth c cc nL own D ca xa A lw) {n : Nat} {v : Int64} (hw : Cond.constantLong own n v ∈ zlwg) (d : decode cc pc = .ok (.ldc2_w n, 3)) (k : zGO p l e R s m args below meth c cells slots lw D A nL Qf o σ (pc + 3) lv (.long v :: st)) : zGO p l e R s m args below meth c cells slots lw D A nL Qf o σ (pc) lv (st) := z_lift k (fun hl kk => lv_ldc2 hc.1 hc.2.1 hc.2.2.2.1 (hc.2.2.2.2.1 _ hw) d (kk _ hl))
theorem z_iload_n (hc : zCx p s m args meth c cc nL own D ca xa A lw) {kk0 : Fin 4} {x : Int32} (q : Nat) (hq : lv[q]? = some ((kk0 : Nat), .int x)) (d : decode cc pc = .ok (.iload_n kk0, 1)) (k : zGO p l e R s m args below meth c cells slots lw D A nL Qf o σ (pc + 1) lv (.int x :: st)) : zGO p l e R s m args below meth c cells slots lw D A nL Qf o σ (pc) lv (st) := z_lift k (fun hl kk => lv_iload_n hc.1 hc.2.1 d rfl (lv_at hl q hq) (kk _ hl))
theorem z_iload (hc : zCx p s m args meth c cc nL own D ca xa A lw) {i : Nat} {x : Int32} (q : Nat) (hq : lv[q]? = some (i, .int x)) (d : decode cc pc = .ok (.iload i, 2)) (k : zGO p l e R s m args below meth c cells slots lw D A nL Qf o σ (pc + 2) lv (.int x :: st)) : zGO p l e R s m args below meth c cells slots lw D A nL Qf o σ (pc) lv (st) := z_lift k (fun hl kk => lv_iload hc.1 hc.2.1 d (lv_at hl q hq) (kk _ hl))
theorem z_lload_n (hc : zCx p s m args meth c cc nL own D ca xa A lw) {kk0 : Fin 4} {x : Int64} (q : Nat) (hq : lv[q]? = some ((kk0 : Nat), .long x)) (d : decode cc pc = .ok (.lload_n kk0, 1)) (k : zGO p l e R s m args below meth c cells slots lw D A nL Qf o σ (pc + 1) lv (.long x :: st)) : zGO p l e R s m args below meth c cells slots lw D A nL Qf o σ (pc) lv (st) := z_lift k (fun hl kk => lv_lload_n hc.1 hc.2.1 d rfl (lv_at hl q hq) (kk _ hl))
theorem z_lload (hc : zCx p s m args meth c cc nL own D ca xa A lw) {i : Nat} {x : Int64} (q : Nat) (hq : lv[q]? = some (i, .long x)) (d : decode cc pc = .ok (.lload i, 2)) (k : zGO p l e R s m args below meth c cells slots lw D A nL Qf o σ (pc + 2) lv (.long x :: st)) : zGO p l e R s m args below meth c cells slots lw D A nL Qf o σ (pc) lv (st) := z_lift k (fun hl kk => lv_lload hc.1 hc.2.1 d (lv_at hl q hq) (kk _ hl))
theorem z_aload_n (hc : zCx p s m args meth c cc nL own D ca xa A lw) {kk0 : Fin 4} {x : Nat} (q : Nat) (hq : lv[q]? = some ((kk0 : Nat), .ref x)) (d : decode cc pc = .ok (.aload_n kk0, 1)) (k : zGO p l e R s m args below meth c cells slots lw D A nL Qf o σ (pc + 1) lv (.ref x :: st)) : zGO p l e R s m args below meth c cells slots lw D A nL Qf o σ (pc) lv (st) := z_lift k (fun hl kk => lv_aload_n hc.1 hc.2.1 d rfl (lv_at hl q hq) (kk _ hl))
theorem z_aload (hc : zCx p s m args meth c cc nL own D ca xa A lw) {i : Nat} {x : Nat} (q : Nat) (hq : lv[q]? = some (i, .ref x)) (d : decode cc pc = .ok (.aload i, 2)) (k : zGO p l e R s m args below meth c cells slots lw D A nL Qf o σ (pc + 2) lv (.ref x :: st)) : zGO p l e R s m args below meth c cells slots lw D A nL Qf o σ (pc) lv (st) := z_lift k (fun hl kk => lv_aload hc.1 hc.2.1 d (lv_at hl q hq) (kk _ hl))
theorem z_istore_n (hc : zCx p s m args meth c cc nL own D ca xa A lw) {kk0 : Fin 4} {i : Nat} {x : Int32} (hi : (kk0 : Nat) = i) (hn : i < nL) (hv : (i, Value.int x) :: lv.filter (fun q => !(q.1 == i) && !(q.1 + 1 == i && q.2.category == 2)) = lv') (d : decode cc pc = .ok (.istore_n kk0, 1)) (k : zGO p l e R s m args below meth c cells slots lw D A nL Qf o σ (pc + 1) lv' (st)) : zGO p l e R s m args below meth c cells slots lw D A nL Qf o σ (pc) lv (.int x :: st) := z_lift k (fun hl kk => lv_istore_n hc.1 hc.2.1 d hi hl hn hv kk)
theorem z_istore (hc : zCx p s m args meth c cc nL own D ca xa A lw) {i : Nat} {x : Int32} (hn : i < nL) (hv : (i, Value.int x) :: lv.filter (fun q => !(q.1 == i) && !(q.1 + 1 == i && q.2.category == 2)) = lv') (d : decode cc pc = .ok (.istore i, 2)) (k : zGO p l e R s m args below meth c cells slots lw D A nL Qf o σ (pc + 2) lv' (st)) : zGO p l e R s m args below meth c cells slots lw D A nL Qf o σ (pc) lv (.int x :: st) := z_lift k (fun hl kk => lv_istore hc.1 hc.2.1 d hl hn hv kk)
theorem z_lstore_n (hc : zCx p s m args meth c cc nL own D ca xa A lw) {kk0 : Fin 4} {i : Nat} {x : Int64} (hi : (kk0 : Nat) = i) (hn : i + 1 < nL) (hv : (i, Value.long x) :: lv.filter (fun q => !(q.1 == i) && (!(q.1 == i + 1) && !(q.1 + 1 == i && q.2.category == 2))) = lv') (d : decode cc pc = .ok (.lstore_n kk0, 1)) (k : zGO p l e R s m args below meth c cells slots lw D A nL Qf o σ (pc + 1) lv' (st)) : zGO p l e R s m args below meth c cells slots lw D A nL Qf o σ (pc) lv (.long x :: st) := z_lift k (fun hl kk => lv_lstore_n hc.1 hc.2.1 d hi hl hn hv kk)
theorem z_lstore (hc : zCx p s m args meth c cc nL own D ca xa A lw) {i : Nat} {x : Int64} (hn : i + 1 < nL) (hv : (i, Value.long x) :: lv.filter (fun q => !(q.1 == i) && (!(q.1 == i + 1) && !(q.1 + 1 == i && q.2.category == 2))) = lv') (d : decode cc pc = .ok (.lstore i, 2)) (k : zGO p l e R s m args below meth c cells slots lw D A nL Qf o σ (pc + 2) lv' (st)) : zGO p l e R s m args below meth c cells slots lw D A nL Qf o σ (pc) lv (.long x :: st) := z_lift k (fun hl kk => lv_lstore hc.1 hc.2.1 d hl hn hv kk)
theorem z_astore_n (hc : zCx p s m args meth c cc nL own D ca xa A lw) {kk0 : Fin 4} {i : Nat} {x : Nat} (hi : (kk0 : Nat) = i) (hn : i < nL) (hv : (i, Value.ref x) :: lv.filter (fun q => !(q.1 == i) && !(q.1 + 1 == i && q.2.category == 2)) = lv') (d : decode cc pc = .ok (.astore_n kk0, 1)) (k : zGO p l e R s m args below meth c cells slots lw D A nL Qf o σ (pc + 1) lv' (st)) : zGO p l e R s m args below meth c cells slots lw D A nL Qf o σ (pc) lv (.ref x :: st) := z_lift k (fun hl kk => lv_astore_n hc.1 hc.2.1 d hi hl hn hv kk)
theorem z_astore (hc : zCx p s m args meth c cc nL own D ca xa A lw) {i : Nat} {x : Nat} (hn : i < nL) (hv : (i, Value.ref x) :: lv.filter (fun q => !(q.1 == i) && !(q.1 + 1 == i && q.2.category == 2)) = lv') (d : decode cc pc = .ok (.astore i, 2)) (k : zGO p l e R s m args below meth c cells slots lw D A nL Qf o σ (pc + 2) lv' (st)) : zGO p l e R s m args below meth c cells slots lw D A nL Qf o σ (pc) lv (.ref x :: st) := z_lift k (fun hl kk => lv_astore hc.1 hc.2.1 d hl hn hv kk)
theorem z_iinc (hc : zCx p s m args meth c cc nL own D ca xa A lw) {i q : Nat} {n : Int} {x v : Int32} (hq : lv[q]? = some (i, .int x)) (hx : x + Int32.ofInt n = v) (hn : i < nL) (hv : (i, Value.int v) :: lv.filter (fun q => !(q.1 == i) && !(q.1 + 1 == i && q.2.category == 2)) = lv') (d : decode cc pc = .ok (.iinc i n, 3)) (k : zGO p l e R s m args below meth c cells slots lw D A nL Qf o σ (pc + 3) lv' (st)) : zGO p l e R s m args below meth c cells slots lw D A nL Qf o σ (pc) lv (st) := z_lift k (fun hl kk => lv_iinc hc.1 hc.2.1 d hl hq hx hn hv kk)
theorem z_iadd (hc : zCx p s m args meth c cc nL own D ca xa A lw) {x y : Int32} (d : decode cc pc = .ok (.iadd, 1)) (k : zGO p l e R s m args below meth c cells slots lw D A nL Qf o σ (pc + 1) lv (.int (x + y) :: st)) : zGO p l e R s m args below meth c cells slots lw D A nL Qf o σ (pc) lv (.int y :: .int x :: st) := z_lift k (fun hl kk => lv_iadd hc.1 hc.2.1 d (kk _ hl))
theorem z_isub (hc : zCx p s m args meth c cc nL own D ca xa A lw) {x y : Int32} (d : decode cc pc = .ok (.isub, 1)) (k : zGO p l e R s m args below meth c cells slots lw D A nL Qf o σ (pc + 1) lv (.int (x - y) :: st)) : zGO p l e R s m args below meth c cells slots lw D A nL Qf o σ (pc) lv (.int y :: .int x :: st) := z_lift k (fun hl kk => lv_isub hc.1 hc.2.1 d (kk _ hl))
theorem z_imul (hc : zCx p s m args meth c cc nL own D ca xa A lw) {x y : Int32} (d : decode cc pc = .ok (.imul, 1)) (k : zGO p l e R s m args below meth c cells slots lw D A nL Qf o σ (pc + 1) lv (.int (x * y) :: st)) : zGO p l e R s m args below meth c cells slots lw D A nL Qf o σ (pc) lv (.int y :: .int x :: st) := z_lift k (fun hl kk => lv_imul hc.1 hc.2.1 d (kk _ hl))
theorem z_iand (hc : zCx p s m args meth c cc nL own D ca xa A lw) {x y : Int32} (d : decode cc pc = .ok (.iand, 1)) (k : zGO p l e R s m args below meth c cells slots lw D A nL Qf o σ (pc + 1) lv (.int (x &&& y) :: st)) : zGO p l e R s m args below meth c cells slots lw D A nL Qf o σ (pc) lv (.int y :: .int x :: st) := z_lift k (fun hl kk => lv_iand hc.1 hc.2.1 d (kk _ hl))
theorem z_ior (hc : zCx p s m args meth c cc nL own D ca xa A lw) {x y : Int32} (d : decode cc pc = .ok (.ior, 1)) (k : zGO p l e R s m args below meth c cells slots lw D A nL Qf o σ (pc + 1) lv (.int (x ||| y) :: st)) : zGO p l e R s m args below meth c cells slots lw D A nL Qf o σ (pc) lv (.int y :: .int x :: st) := z_lift k (fun hl kk => lv_ior hc.1 hc.2.1 d (kk _ hl))
theorem z_ixor (hc : zCx p s m args meth c cc nL own D ca xa A lw) {x y : Int32} (d : decode cc pc = .ok (.ixor, 1)) (k : zGO p l e R s m args below meth c cells slots lw D A nL Qf o σ (pc + 1) lv (.int (x ^^^ y) :: st)) : zGO p l e R s m args below meth c cells slots lw D A nL Qf o σ (pc) lv (.int y :: .int x :: st) := z_lift k (fun hl kk => lv_ixor hc.1 hc.2.1 d (kk _ hl))
theorem z_ishl (hc : zCx p s m args meth c cc nL own D ca xa A lw) {x y : Int32} (d : decode cc pc = .ok (.ishl, 1)) (k : zGO p l e R s m args below meth c cells slots lw D A nL Qf o σ (pc + 1) lv (.int (x <<< (y &&& 31)) :: st)) : zGO p l e R s m args below meth c cells slots lw D A nL Qf o σ (pc) lv (.int y :: .int x :: st) := z_lift k (fun hl kk => lv_ishl hc.1 hc.2.1 d (kk _ hl))
theorem z_ishr (hc : zCx p s m args meth c cc nL own D ca xa A lw) {x y : Int32} (d : decode cc pc = .ok (.ishr, 1)) (k : zGO p l e R s m args below meth c cells slots lw D A nL Qf o σ (pc + 1) lv (.int (x >>> (y &&& 31)) :: st)) : zGO p l e R s m args below meth c cells slots lw D A nL Qf o σ (pc) lv (.int y :: .int x :: st) := z_lift k (fun hl kk => lv_ishr hc.1 hc.2.1 d (kk _ hl))
theorem z_ladd (hc : zCx p s m args meth c cc nL own D ca xa A lw) {x y : Int64} (d : decode cc pc = .ok (.ladd, 1)) (k : zGO p l e R s m args below meth c cells slots lw D A nL Qf o σ (pc + 1) lv (.long (x + y) :: st)) : zGO p l e R s m args below meth c cells slots lw D A nL Qf o σ (pc) lv (.long y :: .long x :: st) := z_lift k (fun hl kk => lv_ladd hc.1 hc.2.1 d (kk _ hl))
theorem z_lsub (hc : zCx p s m args meth c cc nL own D ca xa A lw) {x y : Int64} (d : decode cc pc = .ok (.lsub, 1)) (k : zGO p l e R s m args below meth c cells slots lw D A nL Qf o σ (pc + 1) lv (.long (x - y) :: st)) : zGO p l e R s m args below meth c cells slots lw D A nL Qf o σ (pc) lv (.long y :: .long x :: st) := z_lift k (fun hl kk => lv_lsub hc.1 hc.2.1 d (kk _ hl))
theorem z_lmul (hc : zCx p s m args meth c cc nL own D ca xa A lw) {x y : Int64} (d : decode cc pc = .ok (.lmul, 1)) (k : zGO p l e R s m args below meth c cells slots lw D A nL Qf o σ (pc + 1) lv (.long (x * y) :: st)) : zGO p l e R s m args below meth c cells slots lw D A nL Qf o σ (pc) lv (.long y :: .long x :: st) := z_lift k (fun hl kk => lv_lmul hc.1 hc.2.1 d (kk _ hl))
theorem z_land (hc : zCx p s m args meth c cc nL own D ca xa A lw) {x y : Int64} (d : decode cc pc = .ok (.land, 1)) (k : zGO p l e R s m args below meth c cells slots lw D A nL Qf o σ (pc + 1) lv (.long (x &&& y) :: st)) : zGO p l e R s m args below meth c cells slots lw D A nL Qf o σ (pc) lv (.long y :: .long x :: st) := z_lift k (fun hl kk => lv_land hc.1 hc.2.1 d (kk _ hl))
theorem z_lor (hc : zCx p s m args meth c cc nL own D ca xa A lw) {x y : Int64} (d : decode cc pc = .ok (.lor, 1)) (k : zGO p l e R s m args below meth c cells slots lw D A nL Qf o σ (pc + 1) lv (.long (x ||| y) :: st)) : zGO p l e R s m args below meth c cells slots lw D A nL Qf o σ (pc) lv (.long y :: .long x :: st) := z_lift k (fun hl kk => lv_lor hc.1 hc.2.1 d (kk _ hl))
theorem z_iushr (hc : zCx p s m args meth c cc nL own D ca xa A lw) {x y : Int32} (d : decode cc pc = .ok (.iushr, 1)) (k : zGO p l e R s m args below meth c cells slots lw D A nL Qf o σ (pc + 1) lv (.int (x.toUInt32 >>> (y.toUInt32 &&& Int32.toUInt32 31)).toInt32 :: st)) : zGO p l e R s m args below meth c cells slots lw D A nL Qf o σ (pc) lv (.int y :: .int x :: st) := z_lift k (fun hl kk => lv_iushr hc.1 hc.2.1 d rfl (kk _ hl))
theorem z_ineg (hc : zCx p s m args meth c cc nL own D ca xa A lw) {x : Int32} (d : decode cc pc = .ok (.ineg, 1)) (k : zGO p l e R s m args below meth c cells slots lw D A nL Qf o σ (pc + 1) lv (.int (-x) :: st)) : zGO p l e R s m args below meth c cells slots lw D A nL Qf o σ (pc) lv (.int x :: st) := z_lift k (fun hl kk => lv_ineg hc.1 hc.2.1 d (kk _ hl))
theorem z_lneg (hc : zCx p s m args meth c cc nL own D ca xa A lw) {x : Int64} (d : decode cc pc = .ok (.lneg, 1)) (k : zGO p l e R s m args below meth c cells slots lw D A nL Qf o σ (pc + 1) lv (.long (-x) :: st)) : zGO p l e R s m args below meth c cells slots lw D A nL Qf o σ (pc) lv (.long x :: st) := z_lift k (fun hl kk => lv_lneg hc.1 hc.2.1 d (kk _ hl))
theorem z_i2l (hc : zCx p s m args meth c cc nL own D ca xa A lw) {x : Int32} (d : decode cc pc = .ok (.i2l, 1)) (k : zGO p l e R s m args below meth c cells slots lw D A nL Qf o σ (pc + 1) lv (.long x.toInt64 :: st)) : zGO p l e R s m args below meth c cells slots lw D A nL Qf o σ (pc) lv (.int x :: st) := z_lift k (fun hl kk => lv_i2l hc.1 hc.2.1 d rfl (kk _ hl))
theorem z_l2i (hc : zCx p s m args meth c cc nL own D ca xa A lw) {x : Int64} (d : decode cc pc = .ok (.l2i, 1)) (k : zGO p l e R s m args below meth c cells slots lw D A nL Qf o σ (pc + 1) lv (.int x.toInt32 :: st)) : zGO p l e R s m args below meth c cells slots lw D A nL Qf o σ (pc) lv (.long x :: st) := z_lift k (fun hl kk => lv_l2i hc.1 hc.2.1 d rfl (kk _ hl))
theorem z_i2b (hc : zCx p s m args meth c cc nL own D ca xa A lw) {x : Int32} (d : decode cc pc = .ok (.i2b, 1)) (k : zGO p l e R s m args below meth c cells slots lw D A nL Qf o σ (pc + 1) lv (.int x.toInt8.toInt32 :: st)) : zGO p l e R s m args below meth c cells slots lw D A nL Qf o σ (pc) lv (.int x :: st) := z_lift k (fun hl kk => lv_i2b hc.1 hc.2.1 d rfl (kk _ hl))
theorem z_i2s (hc : zCx p s m args meth c cc nL own D ca xa A lw) {x : Int32} (d : decode cc pc = .ok (.i2s, 1)) (k : zGO p l e R s m args below meth c cells slots lw D A nL Qf o σ (pc + 1) lv (.int x.toInt16.toInt32 :: st)) : zGO p l e R s m args below meth c cells slots lw D A nL Qf o σ (pc) lv (.int x :: st) := z_lift k (fun hl kk => lv_i2s hc.1 hc.2.1 d rfl (kk _ hl))
theorem z_i2c (hc : zCx p s m args meth c cc nL own D ca xa A lw) {x : Int32} (d : decode cc pc = .ok (.i2c, 1)) (k : zGO p l e R s m args below meth c cells slots lw D A nL Qf o σ (pc + 1) lv (.int (x.toUInt32 % 65536).toInt32 :: st)) : zGO p l e R s m args below meth c cells slots lw D A nL Qf o σ (pc) lv (.int x :: st) := z_lift k (fun hl kk => lv_i2c hc.1 hc.2.1 d rfl (kk _ hl))
theorem z_lshl (hc : zCx p s m args meth c cc nL own D ca xa A lw) {x : Int64} {y : Int32} (d : decode cc pc = .ok (.lshl, 1)) (k : zGO p l e R s m args below meth c cells slots lw D A nL Qf o σ (pc + 1) lv (.long (x <<< (y.toInt64 &&& 63)) :: st)) : zGO p l e R s m args below meth c cells slots lw D A nL Qf o σ (pc) lv (.int y :: .long x :: st) := z_lift k (fun hl kk => lv_lshl hc.1 hc.2.1 d rfl (kk _ hl))
theorem z_lshr (hc : zCx p s m args meth c cc nL own D ca xa A lw) {x : Int64} {y : Int32} (d : decode cc pc = .ok (.lshr, 1)) (k : zGO p l e R s m args below meth c cells slots lw D A nL Qf o σ (pc + 1) lv (.long (x >>> (y.toInt64 &&& 63)) :: st)) : zGO p l e R s m args below meth c cells slots lw D A nL Qf o σ (pc) lv (.int y :: .long x :: st) := z_lift k (fun hl kk => lv_lshr hc.1 hc.2.1 d rfl (kk _ hl))
theorem z_dup (hc : zCx p s m args meth c cc nL own D ca xa A lw) {va : Value} (h1 : va.category = 1) (d : decode cc pc = .ok (.dup, 1)) (k : zGO p l e R s m args below meth c cells slots lw D A nL Qf o σ (pc + 1) lv (va :: va :: st)) : zGO p l e R s m args below meth c cells slots lw D A nL Qf o σ (pc) lv (va :: st) := z_lift k (fun hl kk => lv_dup hc.1 hc.2.1 d h1 (kk _ hl))
theorem z_pop (hc : zCx p s m args meth c cc nL own D ca xa A lw) {va : Value} (h1 : va.category = 1) (d : decode cc pc = .ok (.pop, 1)) (k : zGO p l e R s m args below meth c cells slots lw D A nL Qf o σ (pc + 1) lv (st)) : zGO p l e R s m args below meth c cells slots lw D A nL Qf o σ (pc) lv (va :: st) := z_lift k (fun hl kk => lv_pop hc.1 hc.2.1 d h1 (kk _ hl))
theorem z_dup_x1 (hc : zCx p s m args meth c cc nL own D ca xa A lw) {va vb : Value} (h1 : va.category = 1) (h2 : vb.category = 1) (d : decode cc pc = .ok (.dup_x1, 1)) (k : zGO p l e R s m args below meth c cells slots lw D A nL Qf o σ (pc + 1) lv (va :: vb :: va :: st)) : zGO p l e R s m args below meth c cells slots lw D A nL Qf o σ (pc) lv (va :: vb :: st) := z_lift k (fun hl kk => lv_dup_x1 hc.1 hc.2.1 d h1 h2 (kk _ hl))
theorem z_dup_x2 (hc : zCx p s m args meth c cc nL own D ca xa A lw) {va vb vd : Value} (h1 : va.category = 1) (h2 : vb.category = 1) (h3 : vd.category = 1) (d : decode cc pc = .ok (.dup_x2, 1)) (k : zGO p l e R s m args below meth c cells slots lw D A nL Qf o σ (pc + 1) lv (va :: vb :: vd :: va :: st)) : zGO p l e R s m args below meth c cells slots lw D A nL Qf o σ (pc) lv (va :: vb :: vd :: st) := z_lift k (fun hl kk => lv_dup_x2 hc.1 hc.2.1 d h1 h2 h3 (kk _ hl))
theorem z_dup2_11 (hc : zCx p s m args meth c cc nL own D ca xa A lw) {va vb : Value} (h1 : va.category = 1) (h2 : vb.category = 1) (d : decode cc pc = .ok (.dup2, 1)) (k : zGO p l e R s m args below meth c cells slots lw D A nL Qf o σ (pc + 1) lv (va :: vb :: va :: vb :: st)) : zGO p l e R s m args below meth c cells slots lw D A nL Qf o σ (pc) lv (va :: vb :: st) := z_lift k (fun hl kk => lv_dup2_11 hc.1 hc.2.1 d h1 h2 (kk _ hl))
theorem z_dup2_2 (hc : zCx p s m args meth c cc nL own D ca xa A lw) {va : Value} (h1 : va.category = 2) (d : decode cc pc = .ok (.dup2, 1)) (k : zGO p l e R s m args below meth c cells slots lw D A nL Qf o σ (pc + 1) lv (va :: va :: st)) : zGO p l e R s m args below meth c cells slots lw D A nL Qf o σ (pc) lv (va :: st) := z_lift k (fun hl kk => lv_dup2_2 hc.1 hc.2.1 d h1 (kk _ hl))
theorem z_goto (hc : zCx p s m args meth c cc nL own D ca xa A lw) {off : Int} (ht : (pc : Int) + off = (tgt : Int)) (d : decode cc pc = .ok (.goto off, 3)) (k : zGO p l e R s m args below meth c cells slots lw D A nL Qf o σ (tgt) lv (st)) : zGO p l e R s m args below meth c cells slots lw D A nL Qf o σ (pc) lv (st) := z_lift k (fun hl kk => lv_goto hc.1 hc.2.1 d ht (kk _ hl))
theorem z_if_eq (hc : zCx p s m args meth c cc nL own D ca xa A lw) {x : Int32} {off : Int} {dP : Decidable (x = 0)} (ht : (pc : Int) + off = (tgt : Int)) (d : decode cc pc = .ok (.ifCond .eq off, 3)) (k1 : zGO p l e R s m args below meth c cells slots lw D A nL Qf o1 σ (tgt) lv (st)) (k2 : zGO p l e R s m args below meth c cells slots lw D A nL Qf o2 σ (pc + 3) lv (st)) : zGO p l e R s m args below meth c cells slots lw D A nL Qf (@ite _ (x = 0) dP o1 o2) σ (pc) lv (.int x :: st) := by
  intro a τ h H locs ls hP hS hl
  refine lv_if_eq hc.1 hc.2.1 d ht (fun q => ?_) (fun q => ?_)
  · first | rw [if_pos q] at h | rw [if_neg q] at h
    first | exact k1 a τ h H locs ls hP hS hl | exact k2 a τ h H locs ls hP hS hl
  · first | rw [if_neg q] at h | rw [if_pos q] at h
    first | exact k2 a τ h H locs ls hP hS hl | exact k1 a τ h H locs ls hP hS hl
theorem z_icmp_eq (hc : zCx p s m args meth c cc nL own D ca xa A lw) {x y : Int32} {off : Int} {dP : Decidable (x = y)} (ht : (pc : Int) + off = (tgt : Int)) (d : decode cc pc = .ok (.if_icmp .eq off, 3)) (k1 : zGO p l e R s m args below meth c cells slots lw D A nL Qf o1 σ (tgt) lv (st)) (k2 : zGO p l e R s m args below meth c cells slots lw D A nL Qf o2 σ (pc + 3) lv (st)) : zGO p l e R s m args below meth c cells slots lw D A nL Qf (@ite _ (x = y) dP o1 o2) σ (pc) lv (.int y :: .int x :: st) := by
  intro a τ h H locs ls hP hS hl
  refine lv_icmp_eq hc.1 hc.2.1 d ht (fun q => ?_) (fun q => ?_)
  · first | rw [if_pos q] at h | rw [if_neg q] at h
    first | exact k1 a τ h H locs ls hP hS hl | exact k2 a τ h H locs ls hP hS hl
  · first | rw [if_neg q] at h | rw [if_pos q] at h
    first | exact k2 a τ h H locs ls hP hS hl | exact k1 a τ h H locs ls hP hS hl
theorem z_if_ne (hc : zCx p s m args meth c cc nL own D ca xa A lw) {x : Int32} {off : Int} {dP : Decidable (¬ x = 0)} (ht : (pc : Int) + off = (tgt : Int)) (d : decode cc pc = .ok (.ifCond .ne off, 3)) (k1 : zGO p l e R s m args below meth c cells slots lw D A nL Qf o1 σ (tgt) lv (st)) (k2 : zGO p l e R s m args below meth c cells slots lw D A nL Qf o2 σ (pc + 3) lv (st)) : zGO p l e R s m args below meth c cells slots lw D A nL Qf (@ite _ (¬ x = 0) dP o1 o2) σ (pc) lv (.int x :: st) := by
  intro a τ h H locs ls hP hS hl
  refine lv_if_ne hc.1 hc.2.1 d ht (fun q => ?_) (fun q => ?_)
  · first | rw [if_pos q] at h | rw [if_neg q] at h
    first | exact k1 a τ h H locs ls hP hS hl | exact k2 a τ h H locs ls hP hS hl
  · first | rw [if_neg q] at h | rw [if_pos q] at h
    first | exact k2 a τ h H locs ls hP hS hl | exact k1 a τ h H locs ls hP hS hl
theorem z_icmp_ne (hc : zCx p s m args meth c cc nL own D ca xa A lw) {x y : Int32} {off : Int} {dP : Decidable (¬ x = y)} (ht : (pc : Int) + off = (tgt : Int)) (d : decode cc pc = .ok (.if_icmp .ne off, 3)) (k1 : zGO p l e R s m args below meth c cells slots lw D A nL Qf o1 σ (tgt) lv (st)) (k2 : zGO p l e R s m args below meth c cells slots lw D A nL Qf o2 σ (pc + 3) lv (st)) : zGO p l e R s m args below meth c cells slots lw D A nL Qf (@ite _ (¬ x = y) dP o1 o2) σ (pc) lv (.int y :: .int x :: st) := by
  intro a τ h H locs ls hP hS hl
  refine lv_icmp_ne hc.1 hc.2.1 d ht (fun q => ?_) (fun q => ?_)
  · first | rw [if_pos q] at h | rw [if_neg q] at h
    first | exact k1 a τ h H locs ls hP hS hl | exact k2 a τ h H locs ls hP hS hl
  · first | rw [if_neg q] at h | rw [if_pos q] at h
    first | exact k2 a τ h H locs ls hP hS hl | exact k1 a τ h H locs ls hP hS hl
theorem z_if_lt (hc : zCx p s m args meth c cc nL own D ca xa A lw) {x : Int32} {off : Int} {dP : Decidable (x < 0)} (ht : (pc : Int) + off = (tgt : Int)) (d : decode cc pc = .ok (.ifCond .lt off, 3)) (k1 : zGO p l e R s m args below meth c cells slots lw D A nL Qf o1 σ (tgt) lv (st)) (k2 : zGO p l e R s m args below meth c cells slots lw D A nL Qf o2 σ (pc + 3) lv (st)) : zGO p l e R s m args below meth c cells slots lw D A nL Qf (@ite _ (x < 0) dP o1 o2) σ (pc) lv (.int x :: st) := by
  intro a τ h H locs ls hP hS hl
  refine lv_if_lt hc.1 hc.2.1 d ht (fun q => ?_) (fun q => ?_)
  · first | rw [if_pos q] at h | rw [if_neg q] at h
    first | exact k1 a τ h H locs ls hP hS hl | exact k2 a τ h H locs ls hP hS hl
  · first | rw [if_neg q] at h | rw [if_pos q] at h
    first | exact k2 a τ h H locs ls hP hS hl | exact k1 a τ h H locs ls hP hS hl
theorem z_icmp_lt (hc : zCx p s m args meth c cc nL own D ca xa A lw) {x y : Int32} {off : Int} {dP : Decidable (x < y)} (ht : (pc : Int) + off = (tgt : Int)) (d : decode cc pc = .ok (.if_icmp .lt off, 3)) (k1 : zGO p l e R s m args below meth c cells slots lw D A nL Qf o1 σ (tgt) lv (st)) (k2 : zGO p l e R s m args below meth c cells slots lw D A nL Qf o2 σ (pc + 3) lv (st)) : zGO p l e R s m args below meth c cells slots lw D A nL Qf (@ite _ (x < y) dP o1 o2) σ (pc) lv (.int y :: .int x :: st) := by
  intro a τ h H locs ls hP hS hl
  refine lv_icmp_lt hc.1 hc.2.1 d ht (fun q => ?_) (fun q => ?_)
  · first | rw [if_pos q] at h | rw [if_neg q] at h
    first | exact k1 a τ h H locs ls hP hS hl | exact k2 a τ h H locs ls hP hS hl
  · first | rw [if_neg q] at h | rw [if_pos q] at h
    first | exact k2 a τ h H locs ls hP hS hl | exact k1 a τ h H locs ls hP hS hl
theorem z_if_ge (hc : zCx p s m args meth c cc nL own D ca xa A lw) {x : Int32} {off : Int} {dP : Decidable (0 ≤ x)} (ht : (pc : Int) + off = (tgt : Int)) (d : decode cc pc = .ok (.ifCond .ge off, 3)) (k1 : zGO p l e R s m args below meth c cells slots lw D A nL Qf o1 σ (tgt) lv (st)) (k2 : zGO p l e R s m args below meth c cells slots lw D A nL Qf o2 σ (pc + 3) lv (st)) : zGO p l e R s m args below meth c cells slots lw D A nL Qf (@ite _ (0 ≤ x) dP o1 o2) σ (pc) lv (.int x :: st) := by
  intro a τ h H locs ls hP hS hl
  refine lv_if_ge hc.1 hc.2.1 d ht (fun q => ?_) (fun q => ?_)
  · first | rw [if_pos q] at h | rw [if_neg q] at h
    first | exact k1 a τ h H locs ls hP hS hl | exact k2 a τ h H locs ls hP hS hl
  · first | rw [if_neg q] at h | rw [if_pos q] at h
    first | exact k2 a τ h H locs ls hP hS hl | exact k1 a τ h H locs ls hP hS hl
theorem z_icmp_ge (hc : zCx p s m args meth c cc nL own D ca xa A lw) {x y : Int32} {off : Int} {dP : Decidable (y ≤ x)} (ht : (pc : Int) + off = (tgt : Int)) (d : decode cc pc = .ok (.if_icmp .ge off, 3)) (k1 : zGO p l e R s m args below meth c cells slots lw D A nL Qf o1 σ (tgt) lv (st)) (k2 : zGO p l e R s m args below meth c cells slots lw D A nL Qf o2 σ (pc + 3) lv (st)) : zGO p l e R s m args below meth c cells slots lw D A nL Qf (@ite _ (y ≤ x) dP o1 o2) σ (pc) lv (.int y :: .int x :: st) := by
  intro a τ h H locs ls hP hS hl
  refine lv_icmp_ge hc.1 hc.2.1 d ht (fun q => ?_) (fun q => ?_)
  · first | rw [if_pos q] at h | rw [if_neg q] at h
    first | exact k1 a τ h H locs ls hP hS hl | exact k2 a τ h H locs ls hP hS hl
  · first | rw [if_neg q] at h | rw [if_pos q] at h
    first | exact k2 a τ h H locs ls hP hS hl | exact k1 a τ h H locs ls hP hS hl
theorem z_if_gt (hc : zCx p s m args meth c cc nL own D ca xa A lw) {x : Int32} {off : Int} {dP : Decidable (0 < x)} (ht : (pc : Int) + off = (tgt : Int)) (d : decode cc pc = .ok (.ifCond .gt off, 3)) (k1 : zGO p l e R s m args below meth c cells slots lw D A nL Qf o1 σ (tgt) lv (st)) (k2 : zGO p l e R s m args below meth c cells slots lw D A nL Qf o2 σ (pc + 3) lv (st)) : zGO p l e R s m args below meth c cells slots lw D A nL Qf (@ite _ (0 < x) dP o1 o2) σ (pc) lv (.int x :: st) := by
  intro a τ h H locs ls hP hS hl
  refine lv_if_gt hc.1 hc.2.1 d ht (fun q => ?_) (fun q => ?_)
  · first | rw [if_pos q] at h | rw [if_neg q] at h
    first | exact k1 a τ h H locs ls hP hS hl | exact k2 a τ h H locs ls hP hS hl
  · first | rw [if_neg q] at h | rw [if_pos q] at h
    first | exact k2 a τ h H locs ls hP hS hl | exact k1 a τ h H locs ls hP hS hl
theorem z_icmp_gt (hc : zCx p s m args meth c cc nL own D ca xa A lw) {x y : Int32} {off : Int} {dP : Decidable (y < x)} (ht : (pc : Int) + off = (tgt : Int)) (d : decode cc pc = .ok (.if_icmp .gt off, 3)) (k1 : zGO p l e R s m args below meth c cells slots lw D A nL Qf o1 σ (tgt) lv (st)) (k2 : zGO p l e R s m args below meth c cells slots lw D A nL Qf o2 σ (pc + 3) lv (st)) : zGO p l e R s m args below meth c cells slots lw D A nL Qf (@ite _ (y < x) dP o1 o2) σ (pc) lv (.int y :: .int x :: st) := by
  intro a τ h H locs ls hP hS hl
  refine lv_icmp_gt hc.1 hc.2.1 d ht (fun q => ?_) (fun q => ?_)
  · first | rw [if_pos q] at h | rw [if_neg q] at h
    first | exact k1 a τ h H locs ls hP hS hl | exact k2 a τ h H locs ls hP hS hl
  · first | rw [if_neg q] at h | rw [if_pos q] at h
    first | exact k2 a τ h H locs ls hP hS hl | exact k1 a τ h H locs ls hP hS hl
theorem z_if_le (hc : zCx p s m args meth c cc nL own D ca xa A lw) {x : Int32} {off : Int} {dP : Decidable (x ≤ 0)} (ht : (pc : Int) + off = (tgt : Int)) (d : decode cc pc = .ok (.ifCond .le off, 3)) (k1 : zGO p l e R s m args below meth c cells slots lw D A nL Qf o1 σ (tgt) lv (st)) (k2 : zGO p l e R s m args below meth c cells slots lw D A nL Qf o2 σ (pc + 3) lv (st)) : zGO p l e R s m args below meth c cells slots lw D A nL Qf (@ite _ (x ≤ 0) dP o1 o2) σ (pc) lv (.int x :: st) := by
  intro a τ h H locs ls hP hS hl
  refine lv_if_le hc.1 hc.2.1 d ht (fun q => ?_) (fun q => ?_)
  · first | rw [if_pos q] at h | rw [if_neg q] at h
    first | exact k1 a τ h H locs ls hP hS hl | exact k2 a τ h H locs ls hP hS hl
  · first | rw [if_neg q] at h | rw [if_pos q] at h
    first | exact k2 a τ h H locs ls hP hS hl | exact k1 a τ h H locs ls hP hS hl
theorem z_icmp_le (hc : zCx p s m args meth c cc nL own D ca xa A lw) {x y : Int32} {off : Int} {dP : Decidable (x ≤ y)} (ht : (pc : Int) + off = (tgt : Int)) (d : decode cc pc = .ok (.if_icmp .le off, 3)) (k1 : zGO p l e R s m args below meth c cells slots lw D A nL Qf o1 σ (tgt) lv (st)) (k2 : zGO p l e R s m args below meth c cells slots lw D A nL Qf o2 σ (pc + 3) lv (st)) : zGO p l e R s m args below meth c cells slots lw D A nL Qf (@ite _ (x ≤ y) dP o1 o2) σ (pc) lv (.int y :: .int x :: st) := by
  intro a τ h H locs ls hP hS hl
  refine lv_icmp_le hc.1 hc.2.1 d ht (fun q => ?_) (fun q => ?_)
  · first | rw [if_pos q] at h | rw [if_neg q] at h
    first | exact k1 a τ h H locs ls hP hS hl | exact k2 a τ h H locs ls hP hS hl
  · first | rw [if_neg q] at h | rw [if_pos q] at h
    first | exact k2 a τ h H locs ls hP hS hl | exact k1 a τ h H locs ls hP hS hl
theorem zcm_lt (x y : Int64) : lg_cmp x y < 0 ↔ x < y := by
  unfold lg_cmp
  by_cases h : x > y
  · rw [if_pos h]; exact ⟨fun q => absurd q (by decide), fun q => absurd (Int64.lt_trans q h) (Int64.lt_irrefl)⟩
  · rw [if_neg h]
    by_cases e : x = y
    · rw [if_pos e]; exact ⟨fun q => absurd q (by decide), fun q => absurd q (by rw [e]; exact Int64.lt_irrefl)⟩
    · rw [if_neg e]; exact ⟨fun _ => Int64.lt_of_le_of_ne (Int64.not_lt.mp h) e, fun _ => by decide⟩
theorem zcm_gt (x y : Int64) : 0 < lg_cmp x y ↔ y < x := by
  unfold lg_cmp
  by_cases h : x > y
  · rw [if_pos h]; exact ⟨fun _ => h, fun _ => by decide⟩
  · rw [if_neg h]
    refine ⟨fun q => ?_, fun q => absurd q h⟩
    by_cases e : x = y
    · rw [if_pos e] at q; exact absurd q (by decide)
    · rw [if_neg e] at q; exact absurd q (by decide)
theorem zcm_eq (x y : Int64) : lg_cmp x y = 0 ↔ x = y := by
  unfold lg_cmp
  by_cases h : x > y
  · rw [if_pos h]; exact ⟨fun q => absurd q (by decide), fun q => absurd h (by rw [q]; exact Int64.lt_irrefl)⟩
  · rw [if_neg h]
    by_cases e : x = y
    · rw [if_pos e]; exact ⟨fun _ => e, fun _ => rfl⟩
    · rw [if_neg e]; exact ⟨fun q => absurd q (by decide), fun q => absurd q e⟩
theorem zcm_le (x y : Int64) : lg_cmp x y ≤ 0 ↔ x ≤ y := by
  rw [← Int32.not_lt, zcm_gt, Int64.not_lt]
theorem zcm_ge (x y : Int64) : 0 ≤ lg_cmp x y ↔ y ≤ x := by
  rw [← Int32.not_lt, zcm_lt, Int64.not_lt]

theorem z_lcmp_eq (hc : zCx p s m args meth c cc nL own D ca xa A lw) {x y : Int64} {off : Int} {dP : Decidable (x = y)} (d1 : decode cc pc = .ok (.lcmp, 1)) (ht : ((pc + 1 : Nat) : Int) + off = (tgt : Int)) (d2 : decode cc (pc + 1) = .ok (.ifCond .eq off, 3)) (k1 : zGO p l e R s m args below meth c cells slots lw D A nL Qf o1 σ (tgt) lv (st)) (k2 : zGO p l e R s m args below meth c cells slots lw D A nL Qf o2 σ (pc + 4) lv (st)) : zGO p l e R s m args below meth c cells slots lw D A nL Qf (@ite _ (x = y) dP o1 o2) σ (pc) lv (.long y :: .long x :: st) := by
  intro a τ h H locs ls hP hS hl
  refine W.lcmp hc.1 hc.2.1 d1 (lv_if_eq hc.1 hc.2.1 d2 ht (fun q => ?_) (fun q => ?_))
  · have q' : x = y := (zcm_eq x y).mp q
    rw [if_pos q'] at h
    exact k1 a τ h H locs ls hP hS hl
  · have q' : ¬ (x = y) := fun z => q ((zcm_eq x y).mpr z)
    rw [if_neg q'] at h
    exact k2 a τ h H locs ls hP hS hl
theorem z_lcmp_ne (hc : zCx p s m args meth c cc nL own D ca xa A lw) {x y : Int64} {off : Int} {dP : Decidable (¬ x = y)} (d1 : decode cc pc = .ok (.lcmp, 1)) (ht : ((pc + 1 : Nat) : Int) + off = (tgt : Int)) (d2 : decode cc (pc + 1) = .ok (.ifCond .ne off, 3)) (k1 : zGO p l e R s m args below meth c cells slots lw D A nL Qf o1 σ (tgt) lv (st)) (k2 : zGO p l e R s m args below meth c cells slots lw D A nL Qf o2 σ (pc + 4) lv (st)) : zGO p l e R s m args below meth c cells slots lw D A nL Qf (@ite _ (¬ x = y) dP o1 o2) σ (pc) lv (.long y :: .long x :: st) := by
  intro a τ h H locs ls hP hS hl
  refine W.lcmp hc.1 hc.2.1 d1 (lv_if_ne hc.1 hc.2.1 d2 ht (fun q => ?_) (fun q => ?_))
  · have q' : ¬ x = y := ((not_congr (zcm_eq x y))).mp q
    rw [if_pos q'] at h
    exact k1 a τ h H locs ls hP hS hl
  · have q' : ¬ (¬ x = y) := fun z => (show ¬ ¬ lg_cmp x y = 0 from fun u => u q) (((not_congr (zcm_eq x y))).mpr z)
    rw [if_neg q'] at h
    exact k2 a τ h H locs ls hP hS hl
theorem z_lcmp_lt (hc : zCx p s m args meth c cc nL own D ca xa A lw) {x y : Int64} {off : Int} {dP : Decidable (x < y)} (d1 : decode cc pc = .ok (.lcmp, 1)) (ht : ((pc + 1 : Nat) : Int) + off = (tgt : Int)) (d2 : decode cc (pc + 1) = .ok (.ifCond .lt off, 3)) (k1 : zGO p l e R s m args below meth c cells slots lw D A nL Qf o1 σ (tgt) lv (st)) (k2 : zGO p l e R s m args below meth c cells slots lw D A nL Qf o2 σ (pc + 4) lv (st)) : zGO p l e R s m args below meth c cells slots lw D A nL Qf (@ite _ (x < y) dP o1 o2) σ (pc) lv (.long y :: .long x :: st) := by
  intro a τ h H locs ls hP hS hl
  refine W.lcmp hc.1 hc.2.1 d1 (lv_if_lt hc.1 hc.2.1 d2 ht (fun q => ?_) (fun q => ?_))
  · have q' : x < y := (zcm_lt x y).mp q
    rw [if_pos q'] at h
    exact k1 a τ h H locs ls hP hS hl
  · have q' : ¬ (x < y) := fun z => q ((zcm_lt x y).mpr z)
    rw [if_neg q'] at h
    exact k2 a τ h H locs ls hP hS hl
theorem z_lcmp_ge (hc : zCx p s m args meth c cc nL own D ca xa A lw) {x y : Int64} {off : Int} {dP : Decidable (y ≤ x)} (d1 : decode cc pc = .ok (.lcmp, 1)) (ht : ((pc + 1 : Nat) : Int) + off = (tgt : Int)) (d2 : decode cc (pc + 1) = .ok (.ifCond .ge off, 3)) (k1 : zGO p l e R s m args below meth c cells slots lw D A nL Qf o1 σ (tgt) lv (st)) (k2 : zGO p l e R s m args below meth c cells slots lw D A nL Qf o2 σ (pc + 4) lv (st)) : zGO p l e R s m args below meth c cells slots lw D A nL Qf (@ite _ (y ≤ x) dP o1 o2) σ (pc) lv (.long y :: .long x :: st) := by
  intro a τ h H locs ls hP hS hl
  refine W.lcmp hc.1 hc.2.1 d1 (lv_if_ge hc.1 hc.2.1 d2 ht (fun q => ?_) (fun q => ?_))
  · have q' : y ≤ x := (zcm_ge x y).mp q
    rw [if_pos q'] at h
    exact k1 a τ h H locs ls hP hS hl
  · have q' : ¬ (y ≤ x) := fun z => q ((zcm_ge x y).mpr z)
    rw [if_neg q'] at h
    exact k2 a τ h H locs ls hP hS hl
theorem z_lcmp_gt (hc : zCx p s m args meth c cc nL own D ca xa A lw) {x y : Int64} {off : Int} {dP : Decidable (y < x)} (d1 : decode cc pc = .ok (.lcmp, 1)) (ht : ((pc + 1 : Nat) : Int) + off = (tgt : Int)) (d2 : decode cc (pc + 1) = .ok (.ifCond .gt off, 3)) (k1 : zGO p l e R s m args below meth c cells slots lw D A nL Qf o1 σ (tgt) lv (st)) (k2 : zGO p l e R s m args below meth c cells slots lw D A nL Qf o2 σ (pc + 4) lv (st)) : zGO p l e R s m args below meth c cells slots lw D A nL Qf (@ite _ (y < x) dP o1 o2) σ (pc) lv (.long y :: .long x :: st) := by
  intro a τ h H locs ls hP hS hl
  refine W.lcmp hc.1 hc.2.1 d1 (lv_if_gt hc.1 hc.2.1 d2 ht (fun q => ?_) (fun q => ?_))
  · have q' : y < x := (zcm_gt x y).mp q
    rw [if_pos q'] at h
    exact k1 a τ h H locs ls hP hS hl
  · have q' : ¬ (y < x) := fun z => q ((zcm_gt x y).mpr z)
    rw [if_neg q'] at h
    exact k2 a τ h H locs ls hP hS hl
theorem z_lcmp_le (hc : zCx p s m args meth c cc nL own D ca xa A lw) {x y : Int64} {off : Int} {dP : Decidable (x ≤ y)} (d1 : decode cc pc = .ok (.lcmp, 1)) (ht : ((pc + 1 : Nat) : Int) + off = (tgt : Int)) (d2 : decode cc (pc + 1) = .ok (.ifCond .le off, 3)) (k1 : zGO p l e R s m args below meth c cells slots lw D A nL Qf o1 σ (tgt) lv (st)) (k2 : zGO p l e R s m args below meth c cells slots lw D A nL Qf o2 σ (pc + 4) lv (st)) : zGO p l e R s m args below meth c cells slots lw D A nL Qf (@ite _ (x ≤ y) dP o1 o2) σ (pc) lv (.long y :: .long x :: st) := by
  intro a τ h H locs ls hP hS hl
  refine W.lcmp hc.1 hc.2.1 d1 (lv_if_le hc.1 hc.2.1 d2 ht (fun q => ?_) (fun q => ?_))
  · have q' : x ≤ y := (zcm_le x y).mp q
    rw [if_pos q'] at h
    exact k1 a τ h H locs ls hP hS hl
  · have q' : ¬ (x ≤ y) := fun z => q ((zcm_le x y).mpr z)
    rw [if_neg q'] at h
    exact k2 a τ h H locs ls hP hS hl
theorem z_ldiv (hc : zCx p s m args meth c cc nL own D ca xa A lw) {x y : Int64} {k : Int64 → Option (α × S)} (d : decode cc pc = .ok (.ldiv, 1)) (h : ∀ z : Int64, zGO p l e R s m args below meth c cells slots lw D A nL Qf (k z) σ (pc + 1) lv (.long z :: st)) : zGO p l e R s m args below meth c cells slots lw D A nL Qf (zdvL x y k) σ (pc) lv (.long y :: .long x :: st) := by
  unfold zdvL
  refine z_ite (fun _ => z_none) (fun q => ?_)
  intro a τ h' H locs ls hP hS hl
  exact lv_ldiv hc.1 hc.2.1 d q (h _ a τ h' H locs ls hP hS hl)
theorem z_lrem (hc : zCx p s m args meth c cc nL own D ca xa A lw) {x y : Int64} {k : Int64 → Option (α × S)} (d : decode cc pc = .ok (.lrem, 1)) (h : ∀ z : Int64, zGO p l e R s m args below meth c cells slots lw D A nL Qf (k z) σ (pc + 1) lv (.long z :: st)) : zGO p l e R s m args below meth c cells slots lw D A nL Qf (zrmL x y k) σ (pc) lv (.long y :: .long x :: st) := by
  unfold zrmL
  refine z_ite (fun _ => z_none) (fun q => ?_)
  intro a τ h' H locs ls hP hS hl
  exact lv_lrem hc.1 hc.2.1 d q (h _ a τ h' H locs ls hP hS hl)
theorem z_irem (hc : zCx p s m args meth c cc nL own D ca xa A lw) {x y : Int32} {k : Int32 → Option (α × S)} (d : decode cc pc = .ok (.irem, 1)) (h : ∀ z : Int32, zGO p l e R s m args below meth c cells slots lw D A nL Qf (k z) σ (pc + 1) lv (.int z :: st)) : zGO p l e R s m args below meth c cells slots lw D A nL Qf (zrm x y k) σ (pc) lv (.int y :: .int x :: st) := by
  unfold zrm
  refine z_ite (fun _ => z_none) (fun q => ?_)
  intro a τ h' H locs ls hP hS hl
  exact lv_irem hc.1 hc.2.1 d q (h _ a τ h' H locs ls hP hS hl)
theorem z_swIn (hc : zCx p s m args meth c cc nL own D ca xa A lw) {dflt lo hi : Int} {offs : Array Int} {len : Nat} {x : Int32} {off : Int} (d : decode cc pc = .ok (.tableswitch dflt lo hi offs, len)) (h1 : ¬ x.toInt < lo) (h2 : ¬ hi < x.toInt) (ho : offs[(x.toInt - lo).toNat]? = some off) (ht : (pc : Int) + off = (tgt : Int)) (k : zGO p l e R s m args below meth c cells slots lw D A nL Qf o σ (tgt) lv (st)) : zGO p l e R s m args below meth c cells slots lw D A nL Qf o σ (pc) lv (.int x :: st) := z_lift k (fun hl kk => lv_tableIn hc.1 hc.2.1 d h1 h2 ho ht (kk _ hl))
theorem z_swOut (hc : zCx p s m args meth c cc nL own D ca xa A lw) {dflt lo hi : Int} {offs : Array Int} {len : Nat} {x : Int32} (d : decode cc pc = .ok (.tableswitch dflt lo hi offs, len)) (h : x.toInt < lo ∨ hi < x.toInt) (ht : (pc : Int) + dflt = (tgt : Int)) (k : zGO p l e R s m args below meth c cells slots lw D A nL Qf o σ (tgt) lv (st)) : zGO p l e R s m args below meth c cells slots lw D A nL Qf o σ (pc) lv (.int x :: st) := z_lift k (fun hl kk => lv_tableOut hc.1 hc.2.1 d h ht (kk _ hl))

end zG
