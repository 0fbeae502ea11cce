/-! ===== stores: what the cells of a world hold, by cell and place ===== -/
abbrev zSt : Type := (Nat → Nat → Int32) × (Nat → Nat → Int64)
def zsi (σ : zSt) (k i : Nat) (v : Int32) : zSt := (fun a => if a = k then upd (σ.1 a) i v else σ.1 a, σ.2)
def zsl (σ : zSt) (k i : Nat) (v : Int64) : zSt := (σ.1, fun a => if a = k then vp_updL (σ.2 a) i v else σ.2 a)
def zsc (σ : zSt) (k : Nat) (f : Nat → Int32) : zSt := (fun a => if a = k then f else σ.1 a, σ.2)
/-- the shape of a world: a cell by its number and what it holds -/
abbrev zSh : Type := Nat → (Nat → Int32) → (Nat → Int64) → Nat × va_E
def zlay (cl : zSh) (n : Nat) (σ : zSt) : va_W := (List.range n).map (fun k => cl k (σ.1 k) (σ.2 k))
theorem zlay_get {cl : zSh} {n : Nat} {σ : zSt} {k : Nat} (h : k < n) : (zlay cl n σ)[k]? = some (cl k (σ.1 k) (σ.2 k)) := by
  unfold zlay
  rw [List.getElem?_map, List.getElem?_range h]
  rfl
theorem zlay_no {cl : zSh} {n : Nat} {σ : zSt} {k : Nat} (h : ¬ k < n) : (zlay cl n σ)[k]? = none := by
  unfold zlay
  rw [List.getElem?_map, List.getElem?_eq_none (by rw [List.length_range]; omega)]
  rfl
theorem zlay_len {cl : zSh} {n : Nat} {σ : zSt} : (zlay cl n σ).length = n := by
  unfold zlay
  rw [List.length_map, List.length_range]
theorem zlay_set {cl : zSh} {n k : Nat} {σ τ : zSt} {x : Nat × va_E} (h : cl k (τ.1 k) (τ.2 k) = x) (ho : ∀ j, j ≠ k → τ.1 j = σ.1 j ∧ τ.2 j = σ.2 j) : (zlay cl n σ).set k x = zlay cl n τ := by
  apply List.ext_getElem?
  intro j
  rw [List.getElem?_set]
  by_cases hj : j < n
  · rw [zlay_get hj, zlay_get hj, zlay_len]
    by_cases e : k = j
    · subst e
      rw [if_pos rfl, if_pos hj, h]
    · obtain ⟨a, b⟩ := ho j (fun q => e q.symm)
      rw [if_neg e, a, b]
  · rw [zlay_no hj, zlay_no hj, zlay_len]
    by_cases e : k = j
    · subst e
      rw [if_pos rfl, if_neg hj]
    · rw [if_neg e]
theorem zsi_at {σ : zSt} {k i : Nat} {v : Int32} : (zsi σ k i v).1 k = upd (σ.1 k) i v := if_pos rfl
theorem zsi_ne {σ : zSt} {k i j : Nat} {v : Int32} (h : j ≠ k) : (zsi σ k i v).1 j = σ.1 j := if_neg h
theorem zsl_at {σ : zSt} {k i : Nat} {v : Int64} : (zsl σ k i v).2 k = vp_updL (σ.2 k) i v := if_pos rfl
theorem zsl_ne {σ : zSt} {k i j : Nat} {v : Int64} (h : j ≠ k) : (zsl σ k i v).2 j = σ.2 j := if_neg h
theorem zlay_si {cl : zSh} {n k i : Nat} {σ : zSt} {v : Int32} {x : Nat × va_E} (h : cl k (upd (σ.1 k) i v) (σ.2 k) = x) : (zlay cl n σ).set k x = zlay cl n (zsi σ k i v) :=
  zlay_set (by rw [zsi_at]; exact h) (fun j hj => ⟨zsi_ne hj, rfl⟩)
theorem zlay_sl {cl : zSh} {n k i : Nat} {σ : zSt} {v : Int64} {x : Nat × va_E} (h : cl k (σ.1 k) (vp_updL (σ.2 k) i v) = x) : (zlay cl n σ).set k x = zlay cl n (zsl σ k i v) :=
  zlay_set (by rw [zsl_at]; exact h) (fun j hj => ⟨rfl, zsl_ne hj⟩)
theorem zlay_sc {cl : zSh} {n k : Nat} {σ : zSt} {f : Nat → Int32} {x : Nat × va_E} (h : cl k f (σ.2 k) = x) : (zlay cl n σ).set k x = zlay cl n (zsc σ k f) :=
  zlay_set (by show cl k (if k = k then f else _) (σ.2 k) = x; rw [if_pos rfl]; exact h) (fun j hj => ⟨if_neg hj, rfl⟩)
/-- apart is said of addresses alone -/
theorem zlay_D {cl : zSh} {n : Nat} {A : Nat → Prop} {ad : Nat → Nat} (hcl : ∀ k f g, (cl k f g).1 = ad k) (h : ∀ i j, i < n → j < n → ad i = ad j → i = j) (hA : ∀ i, i < n → A (ad i)) (σ : zSt) : va_D A (zlay cl n σ) := by
  have lt : ∀ {k : Nat} {q : Nat × va_E}, (zlay cl n σ)[k]? = some q → k < n ∧ q.1 = ad k := by
    intro k q hq
    by_cases hk : k < n
    · rw [zlay_get hk] at hq
      cases hq
      exact ⟨hk, hcl _ _ _⟩
    · rw [zlay_no hk] at hq
      cases hq
  refine ⟨fun i j a b ha hb hab => ?_, fun k q hq => ?_⟩
  · obtain ⟨h1, h2⟩ := lt ha
    obtain ⟨h3, h4⟩ := lt hb
    exact h i j h1 h3 (by rw [← h2, ← h4]; exact hab)
  · obtain ⟨h1, h2⟩ := lt hq
    rw [h2]
    exact hA k h1
/-! ===== pieces of which the functions are made ===== -/
def zin (i : Int32) (n : Nat) : Prop := 0 ≤ i ∧ i.toNatClampNeg < n
abbrev zinD (i : Int32) (n : Nat) : Decidable (zin i n) := by unfold zin; exact inferInstance
theorem zin_vp {i : Int32} {n : Nat} (h : zin i n) : vp_in i n := by
  rintro (q | q)
  · exact absurd h.1 (by rw [Int32.not_le]; exact q)
  · exact absurd h.2 (Nat.not_lt.mpr q)
/-- a call -/
def zbnd {α β : Type} {S : Type} (o : Option (α × S)) (k : α → S → Option β) : Option β := match o with
  | some (a, τ) => k a τ
  | none => none
/-- a name for a number -/
def znm {α β : Type} (x : α) (k : α → β) : β := k x
/-- ITEM i of an array of n, cell c -/
def zag {β : Type} (σ : zSt) (c n : Nat) (i : Int32) (k : Int32 → Option β) : Option β := @ite _ (zin i n) (zinD i n) (k (σ.1 c i.toNatClampNeg)) none
def zas {β : Type} (σ : zSt) (c n : Nat) (i v : Int32) (k : zSt → Option β) : Option β := @ite _ (zin i n) (zinD i n) (k (zsi σ c i.toNatClampNeg v)) none
def zagL {β : Type} (σ : zSt) (c n : Nat) (i : Int32) (k : Int64 → Option β) : Option β := @ite _ (zin i n) (zinD i n) (k (σ.2 c i.toNatClampNeg)) none
def zasL {β : Type} (σ : zSt) (c n : Nat) (i : Int32) (v : Int64) (k : zSt → Option β) : Option β := @ite _ (zin i n) (zinD i n) (k (zsl σ c i.toNatClampNeg v)) none
/-- row i of an array of n rows -/
def zrow {β : Type} (n : Nat) (i : Int32) (k : Nat → Option β) : Option β := @ite _ (zin i n) (zinD i n) (k i.toNatClampNeg) none
/-- a table that never changes -/
def ztab {β : Type} (f : Nat → Int32) (n : Nat) (i : Int32) (k : Int32 → Option β) : Option β := @ite _ (zin i n) (zinD i n) (k (f i.toNatClampNeg)) none
def zpf {β : Type} (σ : zSt) (c j : Nat) (v : Int32) (k : zSt → β) : β := k (zsi σ c j v)
def zpfL {β : Type} (σ : zSt) (c j : Nat) (v : Int64) (k : zSt → β) : β := k (zsl σ c j v)
def zdvL {β : Type} (x y : Int64) (k : Int64 → Option β) : Option β := if y = 0 then none else k (x / y)
def zrmL {β : Type} (x y : Int64) (k : Int64 → Option β) : Option β := if y = 0 then none else k (x - x / y * y)
def zrm {β : Type} (x y : Int32) (k : Int32 → Option β) : Option β := if y = 0 then none else k (x - x / y * y)
/-- an answer that is true or false -/
def zrz {S : Type} (v : Int32) (σ : S) : Option (Int32 × S) := if v = 0 ∨ v = 1 then some (v, σ) else none
/-- System.arraycopy within one array of n -/
def zcp {β : Type} (σ : zSt) (c n : Nat) (sp dp len : Int32) (k : zSt → Option β) : Option β :=
  if 0 ≤ sp ∧ 0 ≤ dp ∧ 0 ≤ len ∧ sp.toNatClampNeg + len.toNatClampNeg ≤ n ∧ dp.toNatClampNeg + len.toNatClampNeg ≤ n then k (zsc σ c (va_cpy (σ.1 c) (σ.1 c) sp.toNatClampNeg dp.toNatClampNeg len.toNatClampNeg)) else none
/-! ===== words ===== -/
def zlwg : List Cond := lw_tbl.filter goodWord
theorem zlwg_of {w : Cond} (h : w ∈ lw_tbl) (g : goodWord w = true) : w ∈ zlwg := List.mem_filter.mpr ⟨h, g⟩
theorem zlwg_good {w : Cond} (h : w ∈ zlwg) : (w.onTables && w.keeps) = true ∨ ∃ ty, w = .arrayClass ty := good_of_word (List.mem_filter.mp h).2
def znestW : Cond → Bool
  | .fieldLinkNest .. => true
  | .methodLinkNest .. => true
  | _ => false
def znest : List Cond := lw_tbl.filter znestW
theorem znest_of {w : Cond} (h : w ∈ lw_tbl) (g : znestW w = true) : w ∈ znest := List.mem_filter.mpr ⟨h, g⟩
theorem zGood {cd : Cond} {ws : List Cond} (h : ∀ w ∈ ws, w ∈ zlwg) : GoodIn (cd :: zlwg) ws := fun w hw => ⟨List.mem_cons_of_mem _ (h w hw), zlwg_good (h w hw)⟩

/-! ===== what never changes: tables, texts ===== -/
def zTW (j : Nat) : Int32 := ([170, 204, 240] : List Int32).getD j 0
def zTD (j : Nat) : Int32 := ([2, 1, 2, 3] : List Int32).getD j 0
def zTK (j : Nat) : Int32 := ([1, 3, 7, 9, 25, 35] : List Int32).getD j 0
def zSlen : List Nat := [4, 5, 5, 4, 3, 3, 4, 4]
def zSbyt : List (List Int32) := [[108, 101, 97, 102], [103, 105, 118, 101, 110], [99, 108, 97, 105, 109], [115, 116, 101, 112], [97, 108, 108], [97, 110, 121], [109, 111, 115, 116], [108, 105, 107, 101]]
def zSpool (i : Nat) : Nat := ([32, 42, 44, 49, 101, 103, 105, 107] : List Nat).getD i 0
def zStext (i : Nat) : String := (["leaf", "given", "claim", "step", "all", "any", "most", "like"] : List String).getD i ""
def zEx (xa : Nat → Nat) (A : Nat → Prop) (U : State) : Prop :=
  (va_Z "SafeNet$Weights" "WORLDS_WITH" "[I" (.ref (xa 0)) A U U.heap ∧ va_T .int (xa 0) 3 (fun j => .int (zTW j)) A U U.heap) ∧
  (va_Z "SafeNet$Net" "DOUBTS_BY_FORM" "[I" (.ref (xa 1)) A U U.heap ∧ va_T .int (xa 1) 4 (fun j => .int (zTD j)) A U U.heap) ∧
  (va_Z "SafeNet$Net" "KINDS_ABOVE" "[I" (.ref (xa 2)) A U U.heap ∧ va_T .int (xa 2) 6 (fun j => .int (zTK j)) A U U.heap) ∧
  (va_Z "java/lang/String" "COMPACT_STRINGS" "Z" (.int 1) A U U.heap ∧ va_Zq "jdk/internal/util/Preconditions" "SIOOBE_FORMATTER" "Ljava/util/function/BiFunction;" A U U.heap) ∧
  vk_S 8 zSlen zSbyt (fun i => xa (10 + i)) (fun i => xa (20 + i)) A U U.heap ∧
  ∀ i, i < 8 → vk_R "SafeNet$Text" (zSpool i) (zStext i) (xa (10 + i)) U
theorem zEx.at {xa : Nat → Nat} {A : Nat → Prop} {s U : State} (h : zEx xa A s) (hW : s.WarmedH U.vm) (hq : ∀ a : Nat, a < s.heap.size → ¬ A a → U.heap[a]? = s.heap[a]?) : zEx xa A U := by
  obtain ⟨⟨a1, a2⟩, ⟨b1, b2⟩, ⟨c1, c2⟩, ⟨d1, d2⟩, e1, f1⟩ := h
  have hv := hW.alike
  exact ⟨⟨(a1.kept hq).moved hv, (a2.kept hq).moved hv⟩, ⟨(b1.kept hq).moved hv, (b2.kept hq).moved hv⟩, ⟨(c1.kept hq).moved hv, (c2.kept hq).moved hv⟩, ⟨(d1.kept hq).moved hv, (d2.kept hq).moved hv⟩, (e1.kept hq).moved hv, fun i hi => (f1 i hi).warm hW⟩
theorem zEx.blind {xa : Nat → Nat} {A : Nat → Prop} {s U : State} (h : zEx xa A s) (hv : s.vm = U.vm) (hh : U.heap = s.heap) : zEx xa A U := by
  obtain ⟨⟨a1, a2⟩, ⟨b1, b2⟩, ⟨c1, c2⟩, ⟨d1, d2⟩, e1, f1⟩ := h
  have hq : ∀ a : Nat, a < s.heap.size → ¬ A a → U.heap[a]? = s.heap[a]? := fun a _ _ => by rw [hh]
  have hl : s.vm.Alike U.vm := by rw [hv]; exact Vm.Alike.refl _
  exact ⟨⟨(a1.kept hq).moved hl, (a2.kept hq).moved hl⟩, ⟨(b1.kept hq).moved hl, (b2.kept hq).moved hl⟩, ⟨(c1.kept hq).moved hl, (c2.kept hq).moved hl⟩, ⟨(d1.kept hq).moved hl, (d2.kept hq).moved hl⟩, (e1.kept hq).moved hl, fun i hi => (f1 i hi).same hv.symm⟩
theorem zEx.narrow {xa : Nat → Nat} {A B : Nat → Prop} {s : State} (h : zEx xa A s) (hAB : ∀ q, B q → A q) : zEx xa B s := by
  obtain ⟨⟨a1, a2⟩, ⟨b1, b2⟩, ⟨c1, c2⟩, ⟨d1, d2⟩, e1, f1⟩ := h
  exact ⟨⟨a1.narrow hAB, a2.narrow hAB⟩, ⟨b1.narrow hAB, b2.narrow hAB⟩, ⟨c1.narrow hAB, c2.narrow hAB⟩, ⟨d1.narrow hAB, d2.narrow hAB⟩, e1.narrow hAB, f1⟩
/-- the array classes, by their numbers -/
def ztys (ca : Nat → ClassId) : List (ClassId × FieldType) := [(ca 0, .int), (ca 1, .byte), (ca 2, .long), (ca 3, .boolean), (ca 4, .array .long)]
def zKx {S : Type} (D : va_G) (ca : Nat → ClassId) (xa : Nat → Nat) (A : Nat → Prop) (lw : S → va_W) (U : State) : Prop :=
  va_K D vwCl (ztys ca) U ∧ (∀ σ, va_D A (lw σ)) ∧ (∀ w ∈ znest, va_Nw w U) ∧ zEx xa A U
theorem zNw_warm {w : Cond} (h : znestW w = true) {s U : State} (hW : s.WarmedH U.vm) (hZ : va_Nw w s) : va_Nw w U := by
  cases w <;> first | (exact va_Nw.warmF hW hZ) | (exact va_Nw.warmM hW hZ) | (simp [znestW] at h)
theorem zNw_same {w : Cond} (h : znestW w = true) {s U : State} (hv : s.vm = U.vm) (hZ : va_Nw w s) : va_Nw w U := by
  cases w <;> first | (exact va_Nw.same rfl hv hZ) | (simp [znestW] at h)
theorem zKx.at {S : Type} {D : va_G} {ca : Nat → ClassId} {xa : Nat → Nat} {A : Nat → Prop} {lw : S → va_W} {s U : State} (h : zKx D ca xa A lw s) (hW : s.WarmedH U.vm) (hq : ∀ a : Nat, a < s.heap.size → ¬ A a → U.heap[a]? = s.heap[a]?) : zKx D ca xa A lw U :=
  ⟨h.1.moved hW.alike, h.2.1, fun w hw => zNw_warm (List.mem_filter.mp hw).2 hW (h.2.2.1 w hw), h.2.2.2.at hW hq⟩
theorem zKx.blind {S : Type} {D : va_G} {ca : Nat → ClassId} {xa : Nat → Nat} {A : Nat → Prop} {lw : S → va_W} {s U : State} (h : zKx D ca xa A lw s) (hv : s.vm = U.vm) (hh : U.heap = s.heap) : zKx D ca xa A lw U :=
  ⟨h.1.moved (by rw [hv]; exact Vm.Alike.refl _), h.2.1, fun w hw => zNw_same (List.mem_filter.mp hw).2 hv (h.2.2.1 w hw), h.2.2.2.blind hv hh⟩
def zPre {S : Type} (D : va_G) (ca : Nat → ClassId) (xa : Nat → Nat) (A : Nat → Prop) (lw : S → va_W) (σ : S) (U : State) : Prop :=
  (∀ q, U.heap.size ≤ q → A q) ∧ va_P D vwCl (lw σ) U.heap ∧ zKx D ca xa A lw U
def zPost {S : Type} (D : va_G) (A : Nat → Prop) (lw : S → va_W) (rv : Option Value) (τ : S) : Array Value → State → Outcome → State → Prop :=
  fun _ st oc t => (oc = .returned rv ∧ va_P D vwCl (lw τ) t.heap) ∧ va_F A st t
/-- a contract: from store σ the method comes to store τ with the answer rv -/
def zCt {S : Type} (l : Launch) (y : MethodName) (cc : ByteArray) (nL : Nat) (ret : Option FieldType) (rm : Room) (D : va_G) (ca : Nat → ClassId) (xa : Nat → Nat) (A : Nat → Prop) (lw : S → va_W) (al : List Value) (σ : S) (rv : Option Value) (τ : S) : Prop :=
  Met l y (Cond.code y cc nL ret :: zlwg) rm (va_Pc al (zPre D ca xa A lw σ)) (zPost D A lw rv τ) 0 0 A
section zG
variable {p : Program} {l : Launch} {e : Env} {R : Room} {s : State} {m : MethodId} {args : Array Value} {below : List Frame} {meth : Method} {c : Code} {cells slots : Nat}
variable {S α : Type}
/-- the machine at pc with locals lv and stack st, in the world of σ, comes to where o says -/
def zGO (p : Program) (l : Launch) (e : Env) (R : Room) (s : State) (m : MethodId) (args : Array Value) (below : List Frame) (meth : Method) (c : Code) (cells slots : Nat) (lw : S → va_W) (D : va_G) (A : Nat → Prop) (nL : Nat) (Qf : α → S → State → Prop) (o : Option (α × S)) (σ : S) (pc : Nat) (lv : List (Nat × Value)) (st : List Value) : Prop :=
  ∀ (a : α) (τ : S), o = some (a, τ) → ∀ (H : Heap) (locs : List Loc) (ls : Array Slot), va_P D vwCl (lw σ) H → va_S A s.heap H locs → lv_has ls nL lv → W p l e R s m args below meth c H locs cells slots (Qf a τ) (F0 m pc ls st)
def zCx (p : Program) (s : State) (m : MethodId) (args : Array Value) (meth : Method) (c : Code) (cc : ByteArray) (nL : Nat) (own : String) (D : va_G) (ca : Nat → ClassId) (xa : Nat → Nat) (A : Nat → Prop) (lw : S → va_W) : Prop :=
  p.tables.exec = Jvm.exec ∧ c.code = cc ∧ c.maxLocals = nL ∧ s.vm.findClass own = some m.cls ∧ (∀ w ∈ zlwg, w.before args s = true) ∧ meth.locks = false ∧ (∀ q, s.heap.size ≤ q → A q) ∧ zKx D ca xa A lw s
variable {lw : S → va_W} {D : va_G} {ca : Nat → ClassId} {xa : Nat → Nat} {A : Nat → Prop} {nL : Nat} {Qf : α → S → State → Prop} {cc : ByteArray} {own : String}
variable {o o1 o2 : Option (α × S)} {σ : S} {pc tgt : Nat} {lv lv' : List (Nat × Value)} {st : List Value}

theorem z_lift {pc' : Nat} {st' : List Value} (k : zGO p l e R s m args below meth c cells slots lw D A nL Qf o σ (pc') lv' (st')) (f : ∀ {H : Heap} {locs : List Loc} {ls : Array Slot} {Q : State → Prop}, lv_has ls nL lv → (∀ ls' : Array Slot, lv_has ls' nL lv' → W p l e R s m args below meth c H locs cells slots Q (F0 m (pc') ls' (st'))) → W p l e R s m args below meth c H locs cells slots Q (F0 m (pc) ls (st))) : zGO p l e R s m args below meth c cells slots lw D A nL Qf o σ (pc) lv (st) :=
  fun a τ h H locs ls hP hS hl => f hl (fun ls' hl' => k a τ h H locs ls' hP hS hl')
theorem z_none : zGO p l e R s m args below meth c cells slots lw D A nL Qf none σ (pc) lv (st) := fun a τ h => by cases h
theorem z_ite {P : Prop} {dP : Decidable P} (h1 : P → zGO p l e R s m args below meth c cells slots lw D A nL Qf o1 σ (pc) lv (st)) (h2 : ¬ P → zGO p l e R s m args below meth c cells slots lw D A nL Qf o2 σ (pc) lv (st)) : zGO p l e R s m args below meth c cells slots lw D A nL Qf (@ite _ P dP o1 o2) σ (pc) lv (st) := by
  by_cases hP : P
  · rw [if_pos hP]; exact h1 hP
  · rw [if_neg hP]; exact h2 hP
theorem z_sub (ks : List Nat) (hk : lv_pick lv ks = lv') (k : zGO p l e R s m args below meth c cells slots lw D A nL Qf o σ (pc) lv' (st)) : zGO p l e R s m args below meth c cells slots lw D A nL Qf o σ (pc) lv (st) :=
  fun a τ h H locs ls hP hS hl => k a τ h H locs ls hP hS (lv_sub hl ks hk)
theorem z_nm {x : Int32} {k : Int32 → Option (α × S)} (h : ∀ y : Int32, zGO p l e R s m args below meth c cells slots lw D A nL Qf (k y) σ (pc) lv (.int y :: st)) : zGO p l e R s m args below meth c cells slots lw D A nL Qf (znm x k) σ (pc) lv (.int x :: st) := h x
theorem z_nmL {x : Int64} {k : Int64 → Option (α × S)} (h : ∀ y : Int64, zGO p l e R s m args below meth c cells slots lw D A nL Qf (k y) σ (pc) lv (.long y :: st)) : zGO p l e R s m args below meth c cells slots lw D A nL Qf (znm x k) σ (pc) lv (.long x :: st) := h x

theorem z_iconst (hc : zCx p s m args meth c cc nL own D ca xa A lw) {n : Int} {v : Int32}  (d : decode cc pc = .ok (.iconst n, 1)) (hv : Int32.ofInt n = v) (k : zGO p l e R s m args below meth c cells slots lw D A nL Qf o σ (pc + 1) lv (.int v :: st)) : zGO p l e R s m args below meth c cells slots lw D A nL Qf o σ (pc) lv (st) := z_lift k (fun hl kk => lv_iconst hc.1 hc.2.1 d hv (kk _ hl))
theorem z_bipush (hc : zCx p s m args meth c cc nL own D ca xa A lw) {n : Int} {v : Int32}  (d : decode cc pc = .ok (.bipush n, 2)) (hv : (Int8.ofInt n).toInt32 = v) (k : zGO p l e R s m args below meth c cells slots lw D A nL Qf o σ (pc + 2) lv (.int v :: st)) : zGO p l e R s m args below meth c cells slots lw D A nL Qf o σ (pc) lv (st) := z_lift k (fun hl kk => lv_bipush hc.1 hc.2.1 d hv (kk _ hl))
theorem z_sipush (hc : zCx p s m args meth c cc nL own D ca xa A lw) {n : Int} {v : Int32}  (d : decode cc pc = .ok (.sipush n, 3)) (hv : (Int16.ofInt n).toInt32 = v) (k : zGO p l e R s m args below meth c cells slots lw D A nL Qf o σ (pc + 3) lv (.int v :: st)) : zGO p l e R s m args below meth c cells slots lw D A nL Qf o σ (pc) lv (st) := z_lift k (fun hl kk => lv_sipush hc.1 hc.2.1 d hv (kk _ hl))
theorem z_lconst (hc : zCx p s m args meth c cc nL own D ca xa A lw) {n : Fin 2} {v : Int64}  (d : decode cc pc = .ok (.lconst n, 1)) (hv : Int64.ofNat (n : Nat) = v) (k : zGO p l e R s m args below meth c cells slots lw D A nL Qf o σ (pc + 1) lv (.long v :: st)) : zGO p l e R s m args below meth c cells slots lw D A nL Qf o σ (pc) lv (st) := z_lift k (fun hl kk => lv_lconst hc.1 hc.2.1 d hv (kk _ hl))
theorem z_ldc (hc : zCx p s m args meth c cc nL own D ca xa A lw) {n : Nat} {v : Int32}  (d : decode cc pc = .ok (.ldc n, 2)) (hw : Cond.constant own n v ∈ zlwg) (k : zGO p l e R s m args below meth c cells slots lw D A nL Qf o σ (pc + 2) lv (.int v :: st)) : zGO p l e R s m args below meth c cells slots lw D A nL Qf o σ (pc) lv (st) := z_lift k (fun hl kk => lv_ldc hc.1 hc.2.1 hc.2.2.2.1 (hc.2.2.2.2.1 _ hw) d (kk _ hl))
theorem z_ldc2 (hc : zCx p s m args meth c cc nL own D ca xa A lw) {n : Nat} {v : Int64}  (d : decode cc pc = .ok (.ldc2_w n, 3)) (hw : Cond.constantLong own n v ∈ zlwg) (k : zGO p l e R s m args below meth c cells slots lw D A nL Qf o σ (pc + 3) lv (.long v :: st)) : zGO p l e R s m args below meth c cells slots lw D A nL Qf o σ (pc) lv (st) := z_lift k (fun hl kk => lv_ldc2 hc.1 hc.2.1 hc.2.2.2.1 (hc.2.2.2.2.1 _ hw) d (kk _ hl))
theorem z_iload_n (hc : zCx p s m args meth c cc nL own D ca xa A lw) {kk0 : Fin 4} {x : Int32}  (d : decode cc pc = .ok (.iload_n kk0, 1)) (q : Nat) (hq : lv[q]? = some ((kk0 : Nat), .int x)) (k : zGO p l e R s m args below meth c cells slots lw D A nL Qf o σ (pc + 1) lv (.int x :: st)) : zGO p l e R s m args below meth c cells slots lw D A nL Qf o σ (pc) lv (st) := z_lift k (fun hl kk => lv_iload_n hc.1 hc.2.1 d rfl (lv_at hl q hq) (kk _ hl))
theorem z_iload (hc : zCx p s m args meth c cc nL own D ca xa A lw) {i : Nat} {x : Int32}  (d : decode cc pc = .ok (.iload i, 2)) (q : Nat) (hq : lv[q]? = some (i, .int x)) (k : zGO p l e R s m args below meth c cells slots lw D A nL Qf o σ (pc + 2) lv (.int x :: st)) : zGO p l e R s m args below meth c cells slots lw D A nL Qf o σ (pc) lv (st) := z_lift k (fun hl kk => lv_iload hc.1 hc.2.1 d (lv_at hl q hq) (kk _ hl))
theorem z_lload_n (hc : zCx p s m args meth c cc nL own D ca xa A lw) {kk0 : Fin 4} {x : Int64}  (d : decode cc pc = .ok (.lload_n kk0, 1)) (q : Nat) (hq : lv[q]? = some ((kk0 : Nat), .long x)) (k : zGO p l e R s m args below meth c cells slots lw D A nL Qf o σ (pc + 1) lv (.long x :: st)) : zGO p l e R s m args below meth c cells slots lw D A nL Qf o σ (pc) lv (st) := z_lift k (fun hl kk => lv_lload_n hc.1 hc.2.1 d rfl (lv_at hl q hq) (kk _ hl))
theorem z_lload (hc : zCx p s m args meth c cc nL own D ca xa A lw) {i : Nat} {x : Int64}  (d : decode cc pc = .ok (.lload i, 2)) (q : Nat) (hq : lv[q]? = some (i, .long x)) (k : zGO p l e R s m args below meth c cells slots lw D A nL Qf o σ (pc + 2) lv (.long x :: st)) : zGO p l e R s m args below meth c cells slots lw D A nL Qf o σ (pc) lv (st) := z_lift k (fun hl kk => lv_lload hc.1 hc.2.1 d (lv_at hl q hq) (kk _ hl))
theorem z_aload_n (hc : zCx p s m args meth c cc nL own D ca xa A lw) {kk0 : Fin 4} {x : Nat}  (d : decode cc pc = .ok (.aload_n kk0, 1)) (q : Nat) (hq : lv[q]? = some ((kk0 : Nat), .ref x)) (k : zGO p l e R s m args below meth c cells slots lw D A nL Qf o σ (pc + 1) lv (.ref x :: st)) : zGO p l e R s m args below meth c cells slots lw D A nL Qf o σ (pc) lv (st) := z_lift k (fun hl kk => lv_aload_n hc.1 hc.2.1 d rfl (lv_at hl q hq) (kk _ hl))
theorem z_aload (hc : zCx p s m args meth c cc nL own D ca xa A lw) {i : Nat} {x : Nat}  (d : decode cc pc = .ok (.aload i, 2)) (q : Nat) (hq : lv[q]? = some (i, .ref x)) (k : zGO p l e R s m args below meth c cells slots lw D A nL Qf o σ (pc + 2) lv (.ref x :: st)) : zGO p l e R s m args below meth c cells slots lw D A nL Qf o σ (pc) lv (st) := z_lift k (fun hl kk => lv_aload hc.1 hc.2.1 d (lv_at hl q hq) (kk _ hl))
theorem z_istore_n (hc : zCx p s m args meth c cc nL own D ca xa A lw) {kk0 : Fin 4} {i : Nat} {x : Int32}  (d : decode cc pc = .ok (.istore_n kk0, 1)) (hi : (kk0 : Nat) = i) (hn : i < nL) (hv : (i, Value.int x) :: lv.filter (fun q => !(q.1 == i) && !(q.1 + 1 == i && q.2.category == 2)) = lv') (k : zGO p l e R s m args below meth c cells slots lw D A nL Qf o σ (pc + 1) lv' (st)) : zGO p l e R s m args below meth c cells slots lw D A nL Qf o σ (pc) lv (.int x :: st) := z_lift k (fun hl kk => lv_istore_n hc.1 hc.2.1 d hi hl hn hv kk)
theorem z_istore (hc : zCx p s m args meth c cc nL own D ca xa A lw) {i : Nat} {x : Int32}  (d : decode cc pc = .ok (.istore i, 2)) (hn : i < nL) (hv : (i, Value.int x) :: lv.filter (fun q => !(q.1 == i) && !(q.1 + 1 == i && q.2.category == 2)) = lv') (k : zGO p l e R s m args below meth c cells slots lw D A nL Qf o σ (pc + 2) lv' (st)) : zGO p l e R s m args below meth c cells slots lw D A nL Qf o σ (pc) lv (.int x :: st) := z_lift k (fun hl kk => lv_istore hc.1 hc.2.1 d hl hn hv kk)
theorem z_lstore_n (hc : zCx p s m args meth c cc nL own D ca xa A lw) {kk0 : Fin 4} {i : Nat} {x : Int64}  (d : decode cc pc = .ok (.lstore_n kk0, 1)) (hi : (kk0 : Nat) = i) (hn : i + 1 < nL) (hv : (i, Value.long x) :: lv.filter (fun q => !(q.1 == i) && (!(q.1 == i + 1) && !(q.1 + 1 == i && q.2.category == 2))) = lv') (k : zGO p l e R s m args below meth c cells slots lw D A nL Qf o σ (pc + 1) lv' (st)) : zGO p l e R s m args below meth c cells slots lw D A nL Qf o σ (pc) lv (.long x :: st) := z_lift k (fun hl kk => lv_lstore_n hc.1 hc.2.1 d hi hl hn hv kk)
theorem z_lstore (hc : zCx p s m args meth c cc nL own D ca xa A lw) {i : Nat} {x : Int64}  (d : decode cc pc = .ok (.lstore i, 2)) (hn : i + 1 < nL) (hv : (i, Value.long x) :: lv.filter (fun q => !(q.1 == i) && (!(q.1 == i + 1) && !(q.1 + 1 == i && q.2.category == 2))) = lv') (k : zGO p l e R s m args below meth c cells slots lw D A nL Qf o σ (pc + 2) lv' (st)) : zGO p l e R s m args below meth c cells slots lw D A nL Qf o σ (pc) lv (.long x :: st) := z_lift k (fun hl kk => lv_lstore hc.1 hc.2.1 d hl hn hv kk)
theorem z_astore_n (hc : zCx p s m args meth c cc nL own D ca xa A lw) {kk0 : Fin 4} {i : Nat} {x : Nat}  (d : decode cc pc = .ok (.astore_n kk0, 1)) (hi : (kk0 : Nat) = i) (hn : i < nL) (hv : (i, Value.ref x) :: lv.filter (fun q => !(q.1 == i) && !(q.1 + 1 == i && q.2.category == 2)) = lv') (k : zGO p l e R s m args below meth c cells slots lw D A nL Qf o σ (pc + 1) lv' (st)) : zGO p l e R s m args below meth c cells slots lw D A nL Qf o σ (pc) lv (.ref x :: st) := z_lift k (fun hl kk => lv_astore_n hc.1 hc.2.1 d hi hl hn hv kk)
theorem z_astore (hc : zCx p s m args meth c cc nL own D ca xa A lw) {i : Nat} {x : Nat}  (d : decode cc pc = .ok (.astore i, 2)) (hn : i < nL) (hv : (i, Value.ref x) :: lv.filter (fun q => !(q.1 == i) && !(q.1 + 1 == i && q.2.category == 2)) = lv') (k : zGO p l e R s m args below meth c cells slots lw D A nL Qf o σ (pc + 2) lv' (st)) : zGO p l e R s m args below meth c cells slots lw D A nL Qf o σ (pc) lv (.ref x :: st) := z_lift k (fun hl kk => lv_astore hc.1 hc.2.1 d hl hn hv kk)
theorem z_iinc (hc : zCx p s m args meth c cc nL own D ca xa A lw) {i : Nat} {n : Int} {x v : Int32} (d : decode cc pc = .ok (.iinc i n, 3)) (q : Nat) (hq : lv[q]? = some (i, .int x)) (hx : x + Int32.ofInt n = v) (hn : i < nL) (hv : (i, Value.int v) :: lv.filter (fun q => !(q.1 == i) && !(q.1 + 1 == i && q.2.category == 2)) = lv') (k : zGO p l e R s m args below meth c cells slots lw D A nL Qf o σ (pc + 3) lv' (st)) : zGO p l e R s m args below meth c cells slots lw D A nL Qf o σ (pc) lv (st) := z_lift k (fun hl kk => lv_iinc hc.1 hc.2.1 d hl hq hx hn hv kk)
theorem z_iadd (hc : zCx p s m args meth c cc nL own D ca xa A lw) {x y : Int32} (d : decode cc pc = .ok (.iadd, 1))  (k : zGO p l e R s m args below meth c cells slots lw D A nL Qf o σ (pc + 1) lv (.int (x + y) :: st)) : zGO p l e R s m args below meth c cells slots lw D A nL Qf o σ (pc) lv (.int y :: .int x :: st) := z_lift k (fun hl kk => lv_iadd hc.1 hc.2.1 d (kk _ hl))
theorem z_isub (hc : zCx p s m args meth c cc nL own D ca xa A lw) {x y : Int32} (d : decode cc pc = .ok (.isub, 1))  (k : zGO p l e R s m args below meth c cells slots lw D A nL Qf o σ (pc + 1) lv (.int (x - y) :: st)) : zGO p l e R s m args below meth c cells slots lw D A nL Qf o σ (pc) lv (.int y :: .int x :: st) := z_lift k (fun hl kk => lv_isub hc.1 hc.2.1 d (kk _ hl))
theorem z_imul (hc : zCx p s m args meth c cc nL own D ca xa A lw) {x y : Int32} (d : decode cc pc = .ok (.imul, 1))  (k : zGO p l e R s m args below meth c cells slots lw D A nL Qf o σ (pc + 1) lv (.int (x * y) :: st)) : zGO p l e R s m args below meth c cells slots lw D A nL Qf o σ (pc) lv (.int y :: .int x :: st) := z_lift k (fun hl kk => lv_imul hc.1 hc.2.1 d (kk _ hl))
theorem z_iand (hc : zCx p s m args meth c cc nL own D ca xa A lw) {x y : Int32} (d : decode cc pc = .ok (.iand, 1))  (k : zGO p l e R s m args below meth c cells slots lw D A nL Qf o σ (pc + 1) lv (.int (x &&& y) :: st)) : zGO p l e R s m args below meth c cells slots lw D A nL Qf o σ (pc) lv (.int y :: .int x :: st) := z_lift k (fun hl kk => lv_iand hc.1 hc.2.1 d (kk _ hl))
theorem z_ior (hc : zCx p s m args meth c cc nL own D ca xa A lw) {x y : Int32} (d : decode cc pc = .ok (.ior, 1))  (k : zGO p l e R s m args below meth c cells slots lw D A nL Qf o σ (pc + 1) lv (.int (x ||| y) :: st)) : zGO p l e R s m args below meth c cells slots lw D A nL Qf o σ (pc) lv (.int y :: .int x :: st) := z_lift k (fun hl kk => lv_ior hc.1 hc.2.1 d (kk _ hl))
theorem z_ixor (hc : zCx p s m args meth c cc nL own D ca xa A lw) {x y : Int32} (d : decode cc pc = .ok (.ixor, 1))  (k : zGO p l e R s m args below meth c cells slots lw D A nL Qf o σ (pc + 1) lv (.int (x ^^^ y) :: st)) : zGO p l e R s m args below meth c cells slots lw D A nL Qf o σ (pc) lv (.int y :: .int x :: st) := z_lift k (fun hl kk => lv_ixor hc.1 hc.2.1 d (kk _ hl))
theorem z_ishl (hc : zCx p s m args meth c cc nL own D ca xa A lw) {x y : Int32} (d : decode cc pc = .ok (.ishl, 1))  (k : zGO p l e R s m args below meth c cells slots lw D A nL Qf o σ (pc + 1) lv (.int (x <<< (y &&& 31)) :: st)) : zGO p l e R s m args below meth c cells slots lw D A nL Qf o σ (pc) lv (.int y :: .int x :: st) := z_lift k (fun hl kk => lv_ishl hc.1 hc.2.1 d (kk _ hl))
theorem z_ishr (hc : zCx p s m args meth c cc nL own D ca xa A lw) {x y : Int32} (d : decode cc pc = .ok (.ishr, 1))  (k : zGO p l e R s m args below meth c cells slots lw D A nL Qf o σ (pc + 1) lv (.int (x >>> (y &&& 31)) :: st)) : zGO p l e R s m args below meth c cells slots lw D A nL Qf o σ (pc) lv (.int y :: .int x :: st) := z_lift k (fun hl kk => lv_ishr hc.1 hc.2.1 d (kk _ hl))
theorem z_ladd (hc : zCx p s m args meth c cc nL own D ca xa A lw) {x y : Int64} (d : decode cc pc = .ok (.ladd, 1))  (k : zGO p l e R s m args below meth c cells slots lw D A nL Qf o σ (pc + 1) lv (.long (x + y) :: st)) : zGO p l e R s m args below meth c cells slots lw D A nL Qf o σ (pc) lv (.long y :: .long x :: st) := z_lift k (fun hl kk => lv_ladd hc.1 hc.2.1 d (kk _ hl))
theorem z_lsub (hc : zCx p s m args meth c cc nL own D ca xa A lw) {x y : Int64} (d : decode cc pc = .ok (.lsub, 1))  (k : zGO p l e R s m args below meth c cells slots lw D A nL Qf o σ (pc + 1) lv (.long (x - y) :: st)) : zGO p l e R s m args below meth c cells slots lw D A nL Qf o σ (pc) lv (.long y :: .long x :: st) := z_lift k (fun hl kk => lv_lsub hc.1 hc.2.1 d (kk _ hl))
theorem z_lmul (hc : zCx p s m args meth c cc nL own D ca xa A lw) {x y : Int64} (d : decode cc pc = .ok (.lmul, 1))  (k : zGO p l e R s m args below meth c cells slots lw D A nL Qf o σ (pc + 1) lv (.long (x * y) :: st)) : zGO p l e R s m args below meth c cells slots lw D A nL Qf o σ (pc) lv (.long y :: .long x :: st) := z_lift k (fun hl kk => lv_lmul hc.1 hc.2.1 d (kk _ hl))
theorem z_land (hc : zCx p s m args meth c cc nL own D ca xa A lw) {x y : Int64} (d : decode cc pc = .ok (.land, 1))  (k : zGO p l e R s m args below meth c cells slots lw D A nL Qf o σ (pc + 1) lv (.long (x &&& y) :: st)) : zGO p l e R s m args below meth c cells slots lw D A nL Qf o σ (pc) lv (.long y :: .long x :: st) := z_lift k (fun hl kk => lv_land hc.1 hc.2.1 d (kk _ hl))
theorem z_lor (hc : zCx p s m args meth c cc nL own D ca xa A lw) {x y : Int64} (d : decode cc pc = .ok (.lor, 1))  (k : zGO p l e R s m args below meth c cells slots lw D A nL Qf o σ (pc + 1) lv (.long (x ||| y) :: st)) : zGO p l e R s m args below meth c cells slots lw D A nL Qf o σ (pc) lv (.long y :: .long x :: st) := z_lift k (fun hl kk => lv_lor hc.1 hc.2.1 d (kk _ hl))
theorem z_iushr (hc : zCx p s m args meth c cc nL own D ca xa A lw) {x y : Int32} (d : decode cc pc = .ok (.iushr, 1))  (k : zGO p l e R s m args below meth c cells slots lw D A nL Qf o σ (pc + 1) lv (.int (x.toUInt32 >>> (y.toUInt32 &&& Int32.toUInt32 31)).toInt32 :: st)) : zGO p l e R s m args below meth c cells slots lw D A nL Qf o σ (pc) lv (.int y :: .int x :: st) := z_lift k (fun hl kk => lv_iushr hc.1 hc.2.1 d rfl (kk _ hl))
theorem z_ineg (hc : zCx p s m args meth c cc nL own D ca xa A lw) {x : Int32} (d : decode cc pc = .ok (.ineg, 1))  (k : zGO p l e R s m args below meth c cells slots lw D A nL Qf o σ (pc + 1) lv (.int (-x) :: st)) : zGO p l e R s m args below meth c cells slots lw D A nL Qf o σ (pc) lv (.int x :: st) := z_lift k (fun hl kk => lv_ineg hc.1 hc.2.1 d (kk _ hl))
theorem z_lneg (hc : zCx p s m args meth c cc nL own D ca xa A lw) {x : Int64} (d : decode cc pc = .ok (.lneg, 1))  (k : zGO p l e R s m args below meth c cells slots lw D A nL Qf o σ (pc + 1) lv (.long (-x) :: st)) : zGO p l e R s m args below meth c cells slots lw D A nL Qf o σ (pc) lv (.long x :: st) := z_lift k (fun hl kk => lv_lneg hc.1 hc.2.1 d (kk _ hl))
theorem z_i2l (hc : zCx p s m args meth c cc nL own D ca xa A lw) {x : Int32} (d : decode cc pc = .ok (.i2l, 1))  (k : zGO p l e R s m args below meth c cells slots lw D A nL Qf o σ (pc + 1) lv (.long x.toInt64 :: st)) : zGO p l e R s m args below meth c cells slots lw D A nL Qf o σ (pc) lv (.int x :: st) := z_lift k (fun hl kk => lv_i2l hc.1 hc.2.1 d rfl (kk _ hl))
theorem z_l2i (hc : zCx p s m args meth c cc nL own D ca xa A lw) {x : Int64} (d : decode cc pc = .ok (.l2i, 1))  (k : zGO p l e R s m args below meth c cells slots lw D A nL Qf o σ (pc + 1) lv (.int x.toInt32 :: st)) : zGO p l e R s m args below meth c cells slots lw D A nL Qf o σ (pc) lv (.long x :: st) := z_lift k (fun hl kk => lv_l2i hc.1 hc.2.1 d rfl (kk _ hl))
theorem z_i2b (hc : zCx p s m args meth c cc nL own D ca xa A lw) {x : Int32} (d : decode cc pc = .ok (.i2b, 1))  (k : zGO p l e R s m args below meth c cells slots lw D A nL Qf o σ (pc + 1) lv (.int x.toInt8.toInt32 :: st)) : zGO p l e R s m args below meth c cells slots lw D A nL Qf o σ (pc) lv (.int x :: st) := z_lift k (fun hl kk => lv_i2b hc.1 hc.2.1 d rfl (kk _ hl))
theorem z_i2s (hc : zCx p s m args meth c cc nL own D ca xa A lw) {x : Int32} (d : decode cc pc = .ok (.i2s, 1))  (k : zGO p l e R s m args below meth c cells slots lw D A nL Qf o σ (pc + 1) lv (.int x.toInt16.toInt32 :: st)) : zGO p l e R s m args below meth c cells slots lw D A nL Qf o σ (pc) lv (.int x :: st) := z_lift k (fun hl kk => lv_i2s hc.1 hc.2.1 d rfl (kk _ hl))
theorem z_i2c (hc : zCx p s m args meth c cc nL own D ca xa A lw) {x : Int32} (d : decode cc pc = .ok (.i2c, 1))  (k : zGO p l e R s m args below meth c cells slots lw D A nL Qf o σ (pc + 1) lv (.int (x.toUInt32 % 65536).toInt32 :: st)) : zGO p l e R s m args below meth c cells slots lw D A nL Qf o σ (pc) lv (.int x :: st) := z_lift k (fun hl kk => lv_i2c hc.1 hc.2.1 d rfl (kk _ hl))
theorem z_lshl (hc : zCx p s m args meth c cc nL own D ca xa A lw) {x : Int64} {y : Int32} (d : decode cc pc = .ok (.lshl, 1))  (k : zGO p l e R s m args below meth c cells slots lw D A nL Qf o σ (pc + 1) lv (.long (x <<< (y.toInt64 &&& 63)) :: st)) : zGO p l e R s m args below meth c cells slots lw D A nL Qf o σ (pc) lv (.int y :: .long x :: st) := z_lift k (fun hl kk => lv_lshl hc.1 hc.2.1 d rfl (kk _ hl))
theorem z_lshr (hc : zCx p s m args meth c cc nL own D ca xa A lw) {x : Int64} {y : Int32} (d : decode cc pc = .ok (.lshr, 1))  (k : zGO p l e R s m args below meth c cells slots lw D A nL Qf o σ (pc + 1) lv (.long (x >>> (y.toInt64 &&& 63)) :: st)) : zGO p l e R s m args below meth c cells slots lw D A nL Qf o σ (pc) lv (.int y :: .long x :: st) := z_lift k (fun hl kk => lv_lshr hc.1 hc.2.1 d rfl (kk _ hl))
theorem z_dup (hc : zCx p s m args meth c cc nL own D ca xa A lw) {va : Value}  (d : decode cc pc = .ok (.dup, 1)) (h1 : va.category = 1) (k : zGO p l e R s m args below meth c cells slots lw D A nL Qf o σ (pc + 1) lv (va :: va :: st)) : zGO p l e R s m args below meth c cells slots lw D A nL Qf o σ (pc) lv (va :: st) := z_lift k (fun hl kk => lv_dup hc.1 hc.2.1 d h1 (kk _ hl))
theorem z_pop (hc : zCx p s m args meth c cc nL own D ca xa A lw) {va : Value}  (d : decode cc pc = .ok (.pop, 1)) (h1 : va.category = 1) (k : zGO p l e R s m args below meth c cells slots lw D A nL Qf o σ (pc + 1) lv (st)) : zGO p l e R s m args below meth c cells slots lw D A nL Qf o σ (pc) lv (va :: st) := z_lift k (fun hl kk => lv_pop hc.1 hc.2.1 d h1 (kk _ hl))
theorem z_dup_x1 (hc : zCx p s m args meth c cc nL own D ca xa A lw) {va vb : Value}  (d : decode cc pc = .ok (.dup_x1, 1)) (h1 : va.category = 1) (h2 : vb.category = 1) (k : zGO p l e R s m args below meth c cells slots lw D A nL Qf o σ (pc + 1) lv (va :: vb :: va :: st)) : zGO p l e R s m args below meth c cells slots lw D A nL Qf o σ (pc) lv (va :: vb :: st) := z_lift k (fun hl kk => lv_dup_x1 hc.1 hc.2.1 d h1 h2 (kk _ hl))
theorem z_dup_x2 (hc : zCx p s m args meth c cc nL own D ca xa A lw) {va vb vd : Value}  (d : decode cc pc = .ok (.dup_x2, 1)) (h1 : va.category = 1) (h2 : vb.category = 1) (h3 : vd.category = 1) (k : zGO p l e R s m args below meth c cells slots lw D A nL Qf o σ (pc + 1) lv (va :: vb :: vd :: va :: st)) : zGO p l e R s m args below meth c cells slots lw D A nL Qf o σ (pc) lv (va :: vb :: vd :: st) := z_lift k (fun hl kk => lv_dup_x2 hc.1 hc.2.1 d h1 h2 h3 (kk _ hl))
theorem z_dup2_11 (hc : zCx p s m args meth c cc nL own D ca xa A lw) {va vb : Value}  (d : decode cc pc = .ok (.dup2, 1)) (h1 : va.category = 1) (h2 : vb.category = 1) (k : zGO p l e R s m args below meth c cells slots lw D A nL Qf o σ (pc + 1) lv (va :: vb :: va :: vb :: st)) : zGO p l e R s m args below meth c cells slots lw D A nL Qf o σ (pc) lv (va :: vb :: st) := z_lift k (fun hl kk => lv_dup2_11 hc.1 hc.2.1 d h1 h2 (kk _ hl))
theorem z_dup2_2 (hc : zCx p s m args meth c cc nL own D ca xa A lw) {va : Value}  (d : decode cc pc = .ok (.dup2, 1)) (h1 : va.category = 2) (k : zGO p l e R s m args below meth c cells slots lw D A nL Qf o σ (pc + 1) lv (va :: va :: st)) : zGO p l e R s m args below meth c cells slots lw D A nL Qf o σ (pc) lv (va :: st) := z_lift k (fun hl kk => lv_dup2_2 hc.1 hc.2.1 d h1 (kk _ hl))
theorem z_goto (hc : zCx p s m args meth c cc nL own D ca xa A lw) {off : Int}  (d : decode cc pc = .ok (.goto off, 3)) (ht : (pc : Int) + off = (tgt : Int)) (k : zGO p l e R s m args below meth c cells slots lw D A nL Qf o σ (tgt) lv (st)) : zGO p l e R s m args below meth c cells slots lw D A nL Qf o σ (pc) lv (st) := z_lift k (fun hl kk => lv_goto hc.1 hc.2.1 d ht (kk _ hl))
theorem z_if_ne (hc : zCx p s m args meth c cc nL own D ca xa A lw) {x : Int32} {off : Int} {dP : Decidable (x = 0)} (d : decode cc pc = .ok (.ifCond .ne off, 3)) (ht : (pc : Int) + off = (tgt : Int)) (k1 : zGO p l e R s m args below meth c cells slots lw D A nL Qf o1 σ (pc + 3) lv (st)) (k2 : zGO p l e R s m args below meth c cells slots lw D A nL Qf o2 σ (tgt) lv (st)) : zGO p l e R s m args below meth c cells slots lw D A nL Qf (@ite _ (x = 0) dP o1 o2) σ (pc) lv (.int x :: st) := by
  intro a τ h H locs ls hP hS hl
  refine lv_if_ne hc.1 hc.2.1 d ht (fun q => ?_) (fun q => ?_)
  · rw [if_neg q] at h
    exact k2 a τ h H locs ls hP hS hl
  · rw [if_pos q] at h
    exact k1 a τ h H locs ls hP hS hl
theorem z_icmp_ne (hc : zCx p s m args meth c cc nL own D ca xa A lw) {x y : Int32} {off : Int} {dP : Decidable (x = y)} (d : decode cc pc = .ok (.if_icmp .ne off, 3)) (ht : (pc : Int) + off = (tgt : Int)) (k1 : zGO p l e R s m args below meth c cells slots lw D A nL Qf o1 σ (pc + 3) lv (st)) (k2 : zGO p l e R s m args below meth c cells slots lw D A nL Qf o2 σ (tgt) lv (st)) : zGO p l e R s m args below meth c cells slots lw D A nL Qf (@ite _ (x = y) dP o1 o2) σ (pc) lv (.int y :: .int x :: st) := by
  intro a τ h H locs ls hP hS hl
  refine lv_icmp_ne hc.1 hc.2.1 d ht (fun q => ?_) (fun q => ?_)
  · rw [if_neg q] at h
    exact k2 a τ h H locs ls hP hS hl
  · rw [if_pos q] at h
    exact k1 a τ h H locs ls hP hS hl
theorem z_if_eq (hc : zCx p s m args meth c cc nL own D ca xa A lw) {x : Int32} {off : Int} {dP : Decidable (x = 0)} (d : decode cc pc = .ok (.ifCond .eq off, 3)) (ht : (pc : Int) + off = (tgt : Int)) (k1 : zGO p l e R s m args below meth c cells slots lw D A nL Qf o1 σ (tgt) lv (st)) (k2 : zGO p l e R s m args below meth c cells slots lw D A nL Qf o2 σ (pc + 3) lv (st)) : zGO p l e R s m args below meth c cells slots lw D A nL Qf (@ite _ (x = 0) dP o1 o2) σ (pc) lv (.int x :: st) := by
  intro a τ h H locs ls hP hS hl
  refine lv_if_eq hc.1 hc.2.1 d ht (fun q => ?_) (fun q => ?_)
  · first | rw [if_pos q] at h | rw [if_neg q] at h
    first | exact k1 a τ h H locs ls hP hS hl | exact k2 a τ h H locs ls hP hS hl
  · first | rw [if_neg q] at h | rw [if_pos q] at h
    first | exact k2 a τ h H locs ls hP hS hl | exact k1 a τ h H locs ls hP hS hl
theorem z_icmp_eq (hc : zCx p s m args meth c cc nL own D ca xa A lw) {x y : Int32} {off : Int} {dP : Decidable (x = y)} (d : decode cc pc = .ok (.if_icmp .eq off, 3)) (ht : (pc : Int) + off = (tgt : Int)) (k1 : zGO p l e R s m args below meth c cells slots lw D A nL Qf o1 σ (tgt) lv (st)) (k2 : zGO p l e R s m args below meth c cells slots lw D A nL Qf o2 σ (pc + 3) lv (st)) : zGO p l e R s m args below meth c cells slots lw D A nL Qf (@ite _ (x = y) dP o1 o2) σ (pc) lv (.int y :: .int x :: st) := by
  intro a τ h H locs ls hP hS hl
  refine lv_icmp_eq hc.1 hc.2.1 d ht (fun q => ?_) (fun q => ?_)
  · first | rw [if_pos q] at h | rw [if_neg q] at h
    first | exact k1 a τ h H locs ls hP hS hl | exact k2 a τ h H locs ls hP hS hl
  · first | rw [if_neg q] at h | rw [if_pos q] at h
    first | exact k2 a τ h H locs ls hP hS hl | exact k1 a τ h H locs ls hP hS hl
theorem z_if_lt (hc : zCx p s m args meth c cc nL own D ca xa A lw) {x : Int32} {off : Int} {dP : Decidable (x < 0)} (d : decode cc pc = .ok (.ifCond .lt off, 3)) (ht : (pc : Int) + off = (tgt : Int)) (k1 : zGO p l e R s m args below meth c cells slots lw D A nL Qf o1 σ (tgt) lv (st)) (k2 : zGO p l e R s m args below meth c cells slots lw D A nL Qf o2 σ (pc + 3) lv (st)) : zGO p l e R s m args below meth c cells slots lw D A nL Qf (@ite _ (x < 0) dP o1 o2) σ (pc) lv (.int x :: st) := by
  intro a τ h H locs ls hP hS hl
  refine lv_if_lt hc.1 hc.2.1 d ht (fun q => ?_) (fun q => ?_)
  · first | rw [if_pos q] at h | rw [if_neg q] at h
    first | exact k1 a τ h H locs ls hP hS hl | exact k2 a τ h H locs ls hP hS hl
  · first | rw [if_neg q] at h | rw [if_pos q] at h
    first | exact k2 a τ h H locs ls hP hS hl | exact k1 a τ h H locs ls hP hS hl
theorem z_icmp_lt (hc : zCx p s m args meth c cc nL own D ca xa A lw) {x y : Int32} {off : Int} {dP : Decidable (x < y)} (d : decode cc pc = .ok (.if_icmp .lt off, 3)) (ht : (pc : Int) + off = (tgt : Int)) (k1 : zGO p l e R s m args below meth c cells slots lw D A nL Qf o1 σ (tgt) lv (st)) (k2 : zGO p l e R s m args below meth c cells slots lw D A nL Qf o2 σ (pc + 3) lv (st)) : zGO p l e R s m args below meth c cells slots lw D A nL Qf (@ite _ (x < y) dP o1 o2) σ (pc) lv (.int y :: .int x :: st) := by
  intro a τ h H locs ls hP hS hl
  refine lv_icmp_lt hc.1 hc.2.1 d ht (fun q => ?_) (fun q => ?_)
  · first | rw [if_pos q] at h | rw [if_neg q] at h
    first | exact k1 a τ h H locs ls hP hS hl | exact k2 a τ h H locs ls hP hS hl
  · first | rw [if_neg q] at h | rw [if_pos q] at h
    first | exact k2 a τ h H locs ls hP hS hl | exact k1 a τ h H locs ls hP hS hl
theorem z_if_ge (hc : zCx p s m args meth c cc nL own D ca xa A lw) {x : Int32} {off : Int} {dP : Decidable (0 ≤ x)} (d : decode cc pc = .ok (.ifCond .ge off, 3)) (ht : (pc : Int) + off = (tgt : Int)) (k1 : zGO p l e R s m args below meth c cells slots lw D A nL Qf o1 σ (tgt) lv (st)) (k2 : zGO p l e R s m args below meth c cells slots lw D A nL Qf o2 σ (pc + 3) lv (st)) : zGO p l e R s m args below meth c cells slots lw D A nL Qf (@ite _ (0 ≤ x) dP o1 o2) σ (pc) lv (.int x :: st) := by
  intro a τ h H locs ls hP hS hl
  refine lv_if_ge hc.1 hc.2.1 d ht (fun q => ?_) (fun q => ?_)
  · first | rw [if_pos q] at h | rw [if_neg q] at h
    first | exact k1 a τ h H locs ls hP hS hl | exact k2 a τ h H locs ls hP hS hl
  · first | rw [if_neg q] at h | rw [if_pos q] at h
    first | exact k2 a τ h H locs ls hP hS hl | exact k1 a τ h H locs ls hP hS hl
theorem z_icmp_ge (hc : zCx p s m args meth c cc nL own D ca xa A lw) {x y : Int32} {off : Int} {dP : Decidable (y ≤ x)} (d : decode cc pc = .ok (.if_icmp .ge off, 3)) (ht : (pc : Int) + off = (tgt : Int)) (k1 : zGO p l e R s m args below meth c cells slots lw D A nL Qf o1 σ (tgt) lv (st)) (k2 : zGO p l e R s m args below meth c cells slots lw D A nL Qf o2 σ (pc + 3) lv (st)) : zGO p l e R s m args below meth c cells slots lw D A nL Qf (@ite _ (y ≤ x) dP o1 o2) σ (pc) lv (.int y :: .int x :: st) := by
  intro a τ h H locs ls hP hS hl
  refine lv_icmp_ge hc.1 hc.2.1 d ht (fun q => ?_) (fun q => ?_)
  · first | rw [if_pos q] at h | rw [if_neg q] at h
    first | exact k1 a τ h H locs ls hP hS hl | exact k2 a τ h H locs ls hP hS hl
  · first | rw [if_neg q] at h | rw [if_pos q] at h
    first | exact k2 a τ h H locs ls hP hS hl | exact k1 a τ h H locs ls hP hS hl
theorem z_if_gt (hc : zCx p s m args meth c cc nL own D ca xa A lw) {x : Int32} {off : Int} {dP : Decidable (0 < x)} (d : decode cc pc = .ok (.ifCond .gt off, 3)) (ht : (pc : Int) + off = (tgt : Int)) (k1 : zGO p l e R s m args below meth c cells slots lw D A nL Qf o1 σ (tgt) lv (st)) (k2 : zGO p l e R s m args below meth c cells slots lw D A nL Qf o2 σ (pc + 3) lv (st)) : zGO p l e R s m args below meth c cells slots lw D A nL Qf (@ite _ (0 < x) dP o1 o2) σ (pc) lv (.int x :: st) := by
  intro a τ h H locs ls hP hS hl
  refine lv_if_gt hc.1 hc.2.1 d ht (fun q => ?_) (fun q => ?_)
  · first | rw [if_pos q] at h | rw [if_neg q] at h
    first | exact k1 a τ h H locs ls hP hS hl | exact k2 a τ h H locs ls hP hS hl
  · first | rw [if_neg q] at h | rw [if_pos q] at h
    first | exact k2 a τ h H locs ls hP hS hl | exact k1 a τ h H locs ls hP hS hl
theorem z_icmp_gt (hc : zCx p s m args meth c cc nL own D ca xa A lw) {x y : Int32} {off : Int} {dP : Decidable (y < x)} (d : decode cc pc = .ok (.if_icmp .gt off, 3)) (ht : (pc : Int) + off = (tgt : Int)) (k1 : zGO p l e R s m args below meth c cells slots lw D A nL Qf o1 σ (tgt) lv (st)) (k2 : zGO p l e R s m args below meth c cells slots lw D A nL Qf o2 σ (pc + 3) lv (st)) : zGO p l e R s m args below meth c cells slots lw D A nL Qf (@ite _ (y < x) dP o1 o2) σ (pc) lv (.int y :: .int x :: st) := by
  intro a τ h H locs ls hP hS hl
  refine lv_icmp_gt hc.1 hc.2.1 d ht (fun q => ?_) (fun q => ?_)
  · first | rw [if_pos q] at h | rw [if_neg q] at h
    first | exact k1 a τ h H locs ls hP hS hl | exact k2 a τ h H locs ls hP hS hl
  · first | rw [if_neg q] at h | rw [if_pos q] at h
    first | exact k2 a τ h H locs ls hP hS hl | exact k1 a τ h H locs ls hP hS hl
theorem z_if_le (hc : zCx p s m args meth c cc nL own D ca xa A lw) {x : Int32} {off : Int} {dP : Decidable (x ≤ 0)} (d : decode cc pc = .ok (.ifCond .le off, 3)) (ht : (pc : Int) + off = (tgt : Int)) (k1 : zGO p l e R s m args below meth c cells slots lw D A nL Qf o1 σ (tgt) lv (st)) (k2 : zGO p l e R s m args below meth c cells slots lw D A nL Qf o2 σ (pc + 3) lv (st)) : zGO p l e R s m args below meth c cells slots lw D A nL Qf (@ite _ (x ≤ 0) dP o1 o2) σ (pc) lv (.int x :: st) := by
  intro a τ h H locs ls hP hS hl
  refine lv_if_le hc.1 hc.2.1 d ht (fun q => ?_) (fun q => ?_)
  · first | rw [if_pos q] at h | rw [if_neg q] at h
    first | exact k1 a τ h H locs ls hP hS hl | exact k2 a τ h H locs ls hP hS hl
  · first | rw [if_neg q] at h | rw [if_pos q] at h
    first | exact k2 a τ h H locs ls hP hS hl | exact k1 a τ h H locs ls hP hS hl
theorem z_icmp_le (hc : zCx p s m args meth c cc nL own D ca xa A lw) {x y : Int32} {off : Int} {dP : Decidable (x ≤ y)} (d : decode cc pc = .ok (.if_icmp .le off, 3)) (ht : (pc : Int) + off = (tgt : Int)) (k1 : zGO p l e R s m args below meth c cells slots lw D A nL Qf o1 σ (tgt) lv (st)) (k2 : zGO p l e R s m args below meth c cells slots lw D A nL Qf o2 σ (pc + 3) lv (st)) : zGO p l e R s m args below meth c cells slots lw D A nL Qf (@ite _ (x ≤ y) dP o1 o2) σ (pc) lv (.int y :: .int x :: st) := by
  intro a τ h H locs ls hP hS hl
  refine lv_icmp_le hc.1 hc.2.1 d ht (fun q => ?_) (fun q => ?_)
  · first | rw [if_pos q] at h | rw [if_neg q] at h
    first | exact k1 a τ h H locs ls hP hS hl | exact k2 a τ h H locs ls hP hS hl
  · first | rw [if_neg q] at h | rw [if_pos q] at h
    first | exact k2 a τ h H locs ls hP hS hl | exact k1 a τ h H locs ls hP hS hl
theorem zcm_lt (x y : Int64) : lg_cmp x y < 0 ↔ x < y := by
  unfold lg_cmp
  by_cases h : x > y
  · rw [if_pos h]; exact ⟨fun q => absurd q (by decide), fun q => absurd (Int64.lt_trans q h) (Int64.lt_irrefl)⟩
  · rw [if_neg h]
    by_cases e : x = y
    · rw [if_pos e]; exact ⟨fun q => absurd q (by decide), fun q => absurd q (by rw [e]; exact Int64.lt_irrefl)⟩
    · rw [if_neg e]; exact ⟨fun _ => Int64.lt_of_le_of_ne (Int64.not_lt.mp h) e, fun _ => by decide⟩
theorem zcm_gt (x y : Int64) : 0 < lg_cmp x y ↔ y < x := by
  unfold lg_cmp
  by_cases h : x > y
  · rw [if_pos h]; exact ⟨fun _ => h, fun _ => by decide⟩
  · rw [if_neg h]
    refine ⟨fun q => ?_, fun q => absurd q h⟩
    by_cases e : x = y
    · rw [if_pos e] at q; exact absurd q (by decide)
    · rw [if_neg e] at q; exact absurd q (by decide)
theorem zcm_eq (x y : Int64) : lg_cmp x y = 0 ↔ x = y := by
  unfold lg_cmp
  by_cases h : x > y
  · rw [if_pos h]; exact ⟨fun q => absurd q (by decide), fun q => absurd h (by rw [q]; exact Int64.lt_irrefl)⟩
  · rw [if_neg h]
    by_cases e : x = y
    · rw [if_pos e]; exact ⟨fun _ => e, fun _ => rfl⟩
    · rw [if_neg e]; exact ⟨fun q => absurd q (by decide), fun q => absurd q e⟩
theorem zcm_le (x y : Int64) : lg_cmp x y ≤ 0 ↔ x ≤ y := by
  rw [← Int32.not_lt, zcm_gt, Int64.not_lt]
theorem zcm_ge (x y : Int64) : 0 ≤ lg_cmp x y ↔ y ≤ x := by
  rw [← Int32.not_lt, zcm_lt, Int64.not_lt]

theorem z_lcmp_eq (hc : zCx p s m args meth c cc nL own D ca xa A lw) {x y : Int64} {off : Int} {dP : Decidable (x = y)} (d1 : decode cc pc = .ok (.lcmp, 1)) (d2 : decode cc (pc + 1) = .ok (.ifCond .eq off, 3)) (ht : ((pc + 1 : Nat) : Int) + off = (tgt : Int)) (k1 : zGO p l e R s m args below meth c cells slots lw D A nL Qf o1 σ (tgt) lv (st)) (k2 : zGO p l e R s m args below meth c cells slots lw D A nL Qf o2 σ (pc + 4) lv (st)) : zGO p l e R s m args below meth c cells slots lw D A nL Qf (@ite _ (x = y) dP o1 o2) σ (pc) lv (.long y :: .long x :: st) := by
  intro a τ h H locs ls hP hS hl
  refine W.lcmp hc.1 hc.2.1 d1 (lv_if_eq hc.1 hc.2.1 d2 ht (fun q => ?_) (fun q => ?_))
  · have q' : x = y := (zcm_eq x y).mp q
    rw [if_pos q'] at h
    exact k1 a τ h H locs ls hP hS hl
  · have q' : ¬ (x = y) := fun z => q ((zcm_eq x y).mpr z)
    rw [if_neg q'] at h
    exact k2 a τ h H locs ls hP hS hl
theorem z_lcmp_lt (hc : zCx p s m args meth c cc nL own D ca xa A lw) {x y : Int64} {off : Int} {dP : Decidable (x < y)} (d1 : decode cc pc = .ok (.lcmp, 1)) (d2 : decode cc (pc + 1) = .ok (.ifCond .lt off, 3)) (ht : ((pc + 1 : Nat) : Int) + off = (tgt : Int)) (k1 : zGO p l e R s m args below meth c cells slots lw D A nL Qf o1 σ (tgt) lv (st)) (k2 : zGO p l e R s m args below meth c cells slots lw D A nL Qf o2 σ (pc + 4) lv (st)) : zGO p l e R s m args below meth c cells slots lw D A nL Qf (@ite _ (x < y) dP o1 o2) σ (pc) lv (.long y :: .long x :: st) := by
  intro a τ h H locs ls hP hS hl
  refine W.lcmp hc.1 hc.2.1 d1 (lv_if_lt hc.1 hc.2.1 d2 ht (fun q => ?_) (fun q => ?_))
  · have q' : x < y := (zcm_lt x y).mp q
    rw [if_pos q'] at h
    exact k1 a τ h H locs ls hP hS hl
  · have q' : ¬ (x < y) := fun z => q ((zcm_lt x y).mpr z)
    rw [if_neg q'] at h
    exact k2 a τ h H locs ls hP hS hl
theorem z_lcmp_ge (hc : zCx p s m args meth c cc nL own D ca xa A lw) {x y : Int64} {off : Int} {dP : Decidable (y ≤ x)} (d1 : decode cc pc = .ok (.lcmp, 1)) (d2 : decode cc (pc + 1) = .ok (.ifCond .ge off, 3)) (ht : ((pc + 1 : Nat) : Int) + off = (tgt : Int)) (k1 : zGO p l e R s m args below meth c cells slots lw D A nL Qf o1 σ (tgt) lv (st)) (k2 : zGO p l e R s m args below meth c cells slots lw D A nL Qf o2 σ (pc + 4) lv (st)) : zGO p l e R s m args below meth c cells slots lw D A nL Qf (@ite _ (y ≤ x) dP o1 o2) σ (pc) lv (.long y :: .long x :: st) := by
  intro a τ h H locs ls hP hS hl
  refine W.lcmp hc.1 hc.2.1 d1 (lv_if_ge hc.1 hc.2.1 d2 ht (fun q => ?_) (fun q => ?_))
  · have q' : y ≤ x := (zcm_ge x y).mp q
    rw [if_pos q'] at h
    exact k1 a τ h H locs ls hP hS hl
  · have q' : ¬ (y ≤ x) := fun z => q ((zcm_ge x y).mpr z)
    rw [if_neg q'] at h
    exact k2 a τ h H locs ls hP hS hl
theorem z_lcmp_gt (hc : zCx p s m args meth c cc nL own D ca xa A lw) {x y : Int64} {off : Int} {dP : Decidable (y < x)} (d1 : decode cc pc = .ok (.lcmp, 1)) (d2 : decode cc (pc + 1) = .ok (.ifCond .gt off, 3)) (ht : ((pc + 1 : Nat) : Int) + off = (tgt : Int)) (k1 : zGO p l e R s m args below meth c cells slots lw D A nL Qf o1 σ (tgt) lv (st)) (k2 : zGO p l e R s m args below meth c cells slots lw D A nL Qf o2 σ (pc + 4) lv (st)) : zGO p l e R s m args below meth c cells slots lw D A nL Qf (@ite _ (y < x) dP o1 o2) σ (pc) lv (.long y :: .long x :: st) := by
  intro a τ h H locs ls hP hS hl
  refine W.lcmp hc.1 hc.2.1 d1 (lv_if_gt hc.1 hc.2.1 d2 ht (fun q => ?_) (fun q => ?_))
  · have q' : y < x := (zcm_gt x y).mp q
    rw [if_pos q'] at h
    exact k1 a τ h H locs ls hP hS hl
  · have q' : ¬ (y < x) := fun z => q ((zcm_gt x y).mpr z)
    rw [if_neg q'] at h
    exact k2 a τ h H locs ls hP hS hl
theorem z_lcmp_le (hc : zCx p s m args meth c cc nL own D ca xa A lw) {x y : Int64} {off : Int} {dP : Decidable (x ≤ y)} (d1 : decode cc pc = .ok (.lcmp, 1)) (d2 : decode cc (pc + 1) = .ok (.ifCond .le off, 3)) (ht : ((pc + 1 : Nat) : Int) + off = (tgt : Int)) (k1 : zGO p l e R s m args below meth c cells slots lw D A nL Qf o1 σ (tgt) lv (st)) (k2 : zGO p l e R s m args below meth c cells slots lw D A nL Qf o2 σ (pc + 4) lv (st)) : zGO p l e R s m args below meth c cells slots lw D A nL Qf (@ite _ (x ≤ y) dP o1 o2) σ (pc) lv (.long y :: .long x :: st) := by
  intro a τ h H locs ls hP hS hl
  refine W.lcmp hc.1 hc.2.1 d1 (lv_if_le hc.1 hc.2.1 d2 ht (fun q => ?_) (fun q => ?_))
  · have q' : x ≤ y := (zcm_le x y).mp q
    rw [if_pos q'] at h
    exact k1 a τ h H locs ls hP hS hl
  · have q' : ¬ (x ≤ y) := fun z => q ((zcm_le x y).mpr z)
    rw [if_neg q'] at h
    exact k2 a τ h H locs ls hP hS hl
theorem z_lcmp_ne (hc : zCx p s m args meth c cc nL own D ca xa A lw) {x y : Int64} {off : Int} {dP : Decidable (x = y)} (d1 : decode cc pc = .ok (.lcmp, 1)) (d2 : decode cc (pc + 1) = .ok (.ifCond .ne off, 3)) (ht : ((pc + 1 : Nat) : Int) + off = (tgt : Int)) (k1 : zGO p l e R s m args below meth c cells slots lw D A nL Qf o1 σ (pc + 4) lv (st)) (k2 : zGO p l e R s m args below meth c cells slots lw D A nL Qf o2 σ (tgt) lv (st)) : zGO p l e R s m args below meth c cells slots lw D A nL Qf (@ite _ (x = y) dP o1 o2) σ (pc) lv (.long y :: .long x :: st) := by
  intro a τ h H locs ls hP hS hl
  refine W.lcmp hc.1 hc.2.1 d1 (lv_if_ne hc.1 hc.2.1 d2 ht (fun q => ?_) (fun q => ?_))
  · rw [if_neg (fun z => q ((zcm_eq x y).mpr z))] at h
    exact k2 a τ h H locs ls hP hS hl
  · rw [if_pos ((zcm_eq x y).mp q)] at h
    exact k1 a τ h H locs ls hP hS hl
theorem z_ldiv (hc : zCx p s m args meth c cc nL own D ca xa A lw) {x y : Int64} {k : Int64 → Option (α × S)} (d : decode cc pc = .ok (.ldiv, 1)) (h : ∀ z : Int64, zGO p l e R s m args below meth c cells slots lw D A nL Qf (k z) σ (pc + 1) lv (.long z :: st)) : zGO p l e R s m args below meth c cells slots lw D A nL Qf (zdvL x y k) σ (pc) lv (.long y :: .long x :: st) := by
  unfold zdvL
  refine z_ite (fun _ => z_none) (fun q => ?_)
  intro a τ h' H locs ls hP hS hl
  exact lv_ldiv hc.1 hc.2.1 d q (h _ a τ h' H locs ls hP hS hl)
theorem z_lrem (hc : zCx p s m args meth c cc nL own D ca xa A lw) {x y : Int64} {k : Int64 → Option (α × S)} (d : decode cc pc = .ok (.lrem, 1)) (h : ∀ z : Int64, zGO p l e R s m args below meth c cells slots lw D A nL Qf (k z) σ (pc + 1) lv (.long z :: st)) : zGO p l e R s m args below meth c cells slots lw D A nL Qf (zrmL x y k) σ (pc) lv (.long y :: .long x :: st) := by
  unfold zrmL
  refine z_ite (fun _ => z_none) (fun q => ?_)
  intro a τ h' H locs ls hP hS hl
  exact lv_lrem hc.1 hc.2.1 d q (h _ a τ h' H locs ls hP hS hl)
theorem z_irem (hc : zCx p s m args meth c cc nL own D ca xa A lw) {x y : Int32} {k : Int32 → Option (α × S)} (d : decode cc pc = .ok (.irem, 1)) (h : ∀ z : Int32, zGO p l e R s m args below meth c cells slots lw D A nL Qf (k z) σ (pc + 1) lv (.int z :: st)) : zGO p l e R s m args below meth c cells slots lw D A nL Qf (zrm x y k) σ (pc) lv (.int y :: .int x :: st) := by
  unfold zrm
  refine z_ite (fun _ => z_none) (fun q => ?_)
  intro a τ h' H locs ls hP hS hl
  exact lv_irem hc.1 hc.2.1 d q (h _ a τ h' H locs ls hP hS hl)
theorem z_swIn (hc : zCx p s m args meth c cc nL own D ca xa A lw) {dflt lo hi : Int} {offs : Array Int} {len : Nat} {x : Int32} {off : Int} (d : decode cc pc = .ok (.tableswitch dflt lo hi offs, len)) (h1 : ¬ x.toInt < lo) (h2 : ¬ hi < x.toInt) (ho : offs[(x.toInt - lo).toNat]? = some off) (ht : (pc : Int) + off = (tgt : Int)) (k : zGO p l e R s m args below meth c cells slots lw D A nL Qf o σ (tgt) lv (st)) : zGO p l e R s m args below meth c cells slots lw D A nL Qf o σ (pc) lv (.int x :: st) := z_lift k (fun hl kk => lv_tableIn hc.1 hc.2.1 d h1 h2 ho ht (kk _ hl))
theorem z_swOut (hc : zCx p s m args meth c cc nL own D ca xa A lw) {dflt lo hi : Int} {offs : Array Int} {len : Nat} {x : Int32} (d : decode cc pc = .ok (.tableswitch dflt lo hi offs, len)) (h : x.toInt < lo ∨ hi < x.toInt) (ht : (pc : Int) + dflt = (tgt : Int)) (k : zGO p l e R s m args below meth c cells slots lw D A nL Qf o σ (tgt) lv (st)) : zGO p l e R s m args below meth c cells slots lw D A nL Qf o σ (pc) lv (.int x :: st) := z_lift k (fun hl kk => lv_tableOut hc.1 hc.2.1 d h ht (kk _ hl))

theorem z_ldcw (hc : zCx p s m args meth c cc nL own D ca xa A lw) {n : Nat} {v : Int32} (hw : Cond.constant own n v ∈ zlwg) (d : decode cc pc = .ok (.ldc_w n, 3)) (k : zGO p l e R s m args below meth c cells slots lw D A nL Qf o σ (pc + 3) lv (.int v :: st)) : zGO p l e R s m args below meth c cells slots lw D A nL Qf o σ (pc) lv (st) := z_lift k (fun hl kk => lv_ldcw hc.1 hc.2.1 hc.2.2.2.1 (hc.2.2.2.2.1 _ hw) d (kk _ hl))
theorem z_mmin (hc : zCx p s m args meth c cc nL own D ca xa A lw) {n : Nat} {x y : Int32} (hw : Cond.methodLink own n Lib.Math.min.name ∈ zlwg ∧ Cond.static Lib.Math.min.name ∈ zlwg ∧ Cond.initialized "java/lang/Math" ∈ zlwg ∧ Cond.code Lib.Math.min.name Lib.Math.min.code 2 (some .int) ∈ zlwg) (hR : 1 ≤ R.frames ∧ (st.map fun v => v.category).sum + 13 ≤ R.locals ∧ cells ≤ R.cells ∧ slots ≤ R.slots) (d : decode cc pc = .ok (.invokestatic n, 3)) (k : zGO p l e R s m args below meth c cells slots lw D A nL Qf o σ (pc + 3) lv (.int (if y < x then y else x) :: st)) : zGO p l e R s m args below meth c cells slots lw D A nL Qf o σ (pc) lv (.int y :: .int x :: st) := z_lift k (fun hl kk => va_mmin hc.1 hc.2.1 (hc.2.2.1.trans hl.1.symm) hc.2.2.2.1 (hc.2.2.2.2.1 _ hw.1) (hc.2.2.2.2.1 _ hw.2.1) (hc.2.2.2.2.1 _ hw.2.2.1) (hc.2.2.2.2.1 _ hw.2.2.2) hR.1 hR.2.1 hR.2.2.1 hR.2.2.2 d (kk _ hl))
end zG
/-! ===== rows of the heap, over a world zlay cl n ===== -/
section zH
variable {p : Program} {l : Launch} {e : Env} {R : Room} {s : State} {m : MethodId} {args : Array Value} {below : List Frame} {meth : Method} {c : Code} {cells slots : Nat}
variable {α : Type} {cl : zSh} {nW : Nat} {D : va_G} {ca : Nat → ClassId} {xa : Nat → Nat} {A : Nat → Prop} {nL : Nat} {Qf : α → zSt → State → Prop} {cc : ByteArray} {own : String}
variable {o o1 o2 : Option (α × zSt)} {σ : zSt} {pc tgt : Nat} {lv lv' : List (Nat × Value)} {st : List Value}
theorem z_get (hc : zCx p s m args meth c cc nL own D ca xa A (zlay cl nW)) {ref C : String} {T : u_T} {N ci idx : Nat} (hin : ∀ w ∈ u_ws C T N, w ∈ zlwg) (k0 : Nat) (hk0 : k0 < nW) {a : Nat} {fs : List Value} (he : cl k0 (σ.1 k0) (σ.2 k0) = (a, .inr (ci, fs))) (hcl : vwCl[ci]? = some (C, T, N)) (j : Nat) (hj : j < N) (href : ref = (T j).1) (hlink : Cond.fieldLink own idx ref (T j).2.1 (T j).2.2.1 ∈ zlwg) {v : Value} (hv : fs[j]? = some v) (d : decode cc pc = .ok (.getfield idx, 3)) (k : zGO p l e R s m args below meth c cells slots (zlay cl nW) D A nL Qf o σ (pc + 3) lv (v :: st)) : zGO p l e R s m args below meth c cells slots (zlay cl nW) D A nL Qf o σ (pc) lv (.ref a :: st) :=
  fun a0 τ h H locs ls hP hS hl => va_get hc.1 hc.2.1 hc.2.2.2.2.1 hin hc.2.2.2.1 hc.2.2.2.2.2.2.2.1 hP k0 ((zlay_get hk0).trans (congrArg some he)) hcl j hj (hc.2.2.2.2.1 _ hlink) (fun _ h9 => by rw [href]; exact h9) hv d (k a0 τ h H locs ls hP hS hl)
theorem z_puti (hc : zCx p s m args meth c cc nL own D ca xa A (zlay cl nW)) {ref C : String} {T : u_T} {N ci idx : Nat} (hin : ∀ w ∈ u_ws C T N, w ∈ zlwg) (k0 : Nat) (hk0 : k0 < nW) {a : Nat} {fs : List Value} (he : cl k0 (σ.1 k0) (σ.2 k0) = (a, .inr (ci, fs))) (hcl : vwCl[ci]? = some (C, T, N)) (j : Nat) (hj : j < N) (href : ref = (T j).1) (hlink : Cond.fieldLink own idx ref (T j).2.1 (T j).2.2.1 ∈ zlwg) (ty0 : Nat → FieldType) (hty : ∀ k, k < N → parseFieldDescriptor (T k).2.2.1 = some (ty0 k)) (hnm : ∀ a, a < N → ∀ b, b < N → a ≠ b → (T a).2.1 ≠ (T b).2.1) (hfin : (T j).2.2.2 = false) (hd : parseFieldDescriptor (T j).2.2.1 = some .int) (hl' : j < fs.length) {v : Int32} (hup : cl k0 (upd (σ.1 k0) j v) (σ.2 k0) = (a, .inr (ci, fs.set j (.int v)))) {kf : zSt → Option (α × zSt)} (d : decode cc pc = .ok (.putfield idx, 3)) (k : ∀ τ : zSt, zGO p l e R s m args below meth c cells slots (zlay cl nW) D A nL Qf (kf τ) τ (pc + 3) lv (st)) : zGO p l e R s m args below meth c cells slots (zlay cl nW) D A nL Qf (zpf σ k0 j v kf) σ (pc) lv (.int v :: .ref a :: st) :=
  fun a0 τ h H locs ls hP hS hl => va_put hc.1 hc.2.1 hc.2.2.2.2.1 hin ty0 hty hnm hc.2.2.2.1 hc.2.2.2.2.2.2.2.1 hP (hc.2.2.2.2.2.2.2.2.1 σ) hS k0 ((zlay_get hk0).trans (congrArg some he)) hcl j hj (hc.2.2.2.2.1 _ hlink) (fun _ h9 => by rw [href]; exact h9) hfin hd rfl rfl hl' d (fun H1 locs1 hP1 hD1 hS1 => k (zsi σ k0 j v) a0 τ h H1 locs1 ls (by rw [zlay_si hup] at hP1; exact hP1) hS1 hl)
theorem z_putl (hc : zCx p s m args meth c cc nL own D ca xa A (zlay cl nW)) {ref C : String} {T : u_T} {N ci idx : Nat} (hin : ∀ w ∈ u_ws C T N, w ∈ zlwg) (k0 : Nat) (hk0 : k0 < nW) {a : Nat} {fs : List Value} (he : cl k0 (σ.1 k0) (σ.2 k0) = (a, .inr (ci, fs))) (hcl : vwCl[ci]? = some (C, T, N)) (j : Nat) (hj : j < N) (href : ref = (T j).1) (hlink : Cond.fieldLink own idx ref (T j).2.1 (T j).2.2.1 ∈ zlwg) (ty0 : Nat → FieldType) (hty : ∀ k, k < N → parseFieldDescriptor (T k).2.2.1 = some (ty0 k)) (hnm : ∀ a, a < N → ∀ b, b < N → a ≠ b → (T a).2.1 ≠ (T b).2.1) (hfin : (T j).2.2.2 = false) (hd : parseFieldDescriptor (T j).2.2.1 = some .long) (hl' : j < fs.length) {v : Int64} (hup : cl k0 (σ.1 k0) (vp_updL (σ.2 k0) j v) = (a, .inr (ci, fs.set j (.long v)))) {kf : zSt → Option (α × zSt)} (d : decode cc pc = .ok (.putfield idx, 3)) (k : ∀ τ : zSt, zGO p l e R s m args below meth c cells slots (zlay cl nW) D A nL Qf (kf τ) τ (pc + 3) lv (st)) : zGO p l e R s m args below meth c cells slots (zlay cl nW) D A nL Qf (zpfL σ k0 j v kf) σ (pc) lv (.long v :: .ref a :: st) :=
  fun a0 τ h H locs ls hP hS hl => va_put hc.1 hc.2.1 hc.2.2.2.2.1 hin ty0 hty hnm hc.2.2.2.1 hc.2.2.2.2.2.2.2.1 hP (hc.2.2.2.2.2.2.2.2.1 σ) hS k0 ((zlay_get hk0).trans (congrArg some he)) hcl j hj (hc.2.2.2.2.1 _ hlink) (fun _ h9 => by rw [href]; exact h9) hfin hd rfl rfl hl' d (fun H1 locs1 hP1 hD1 hS1 => k (zsl σ k0 j v) a0 τ h H1 locs1 ls (by rw [zlay_sl hup] at hP1; exact hP1) hS1 hl)
theorem z_getN (hc : zCx p s m args meth c cc nL own D ca xa A (zlay cl nW)) {ref C host : String} {T : u_T} {N ci idx : Nat} (hin : ∀ w ∈ u_ws C T N, w ∈ zlwg) (k0 : Nat) (hk0 : k0 < nW) {a : Nat} {fs : List Value} (he : cl k0 (σ.1 k0) (σ.2 k0) = (a, .inr (ci, fs))) (hcl : vwCl[ci]? = some (C, T, N)) (j : Nat) (hj : j < N) (href : ref = (T j).1) (hlink : Cond.fieldLinkNest own idx ref (T j).2.1 (T j).2.2.1 host ∈ znest) {v : Value} (hv : fs[j]? = some v) (d : decode cc pc = .ok (.getfield idx, 3)) (k : zGO p l e R s m args below meth c cells slots (zlay cl nW) D A nL Qf o σ (pc + 3) lv (v :: st)) : zGO p l e R s m args below meth c cells slots (zlay cl nW) D A nL Qf o σ (pc) lv (.ref a :: st) :=
  fun a0 τ h H locs ls hP hS hl => va_getN hc.1 hc.2.1 hc.2.2.2.2.1 hin hc.2.2.2.1 hc.2.2.2.2.2.2.2.1 hP k0 ((zlay_get hk0).trans (congrArg some he)) hcl j hj ((hc.2.2.2.2.2.2.2.2.2.1 _ hlink).use rfl) (fun _ h9 => by rw [href]; exact h9) hv d (k a0 τ h H locs ls hP hS hl)
theorem z_putNi (hc : zCx p s m args meth c cc nL own D ca xa A (zlay cl nW)) {ref C host : String} {T : u_T} {N ci idx : Nat} (hin : ∀ w ∈ u_ws C T N, w ∈ zlwg) (k0 : Nat) (hk0 : k0 < nW) {a : Nat} {fs : List Value} (he : cl k0 (σ.1 k0) (σ.2 k0) = (a, .inr (ci, fs))) (hcl : vwCl[ci]? = some (C, T, N)) (j : Nat) (hj : j < N) (href : ref = (T j).1) (hlink : Cond.fieldLinkNest own idx ref (T j).2.1 (T j).2.2.1 host ∈ znest) (ty0 : Nat → FieldType) (hty : ∀ k, k < N → parseFieldDescriptor (T k).2.2.1 = some (ty0 k)) (hnm : ∀ a, a < N → ∀ b, b < N → a ≠ b → (T a).2.1 ≠ (T b).2.1) (hfin : (T j).2.2.2 = false) (hd : parseFieldDescriptor (T j).2.2.1 = some .int) (hl' : j < fs.length) {v : Int32} (hup : cl k0 (upd (σ.1 k0) j v) (σ.2 k0) = (a, .inr (ci, fs.set j (.int v)))) {kf : zSt → Option (α × zSt)} (d : decode cc pc = .ok (.putfield idx, 3)) (k : ∀ τ : zSt, zGO p l e R s m args below meth c cells slots (zlay cl nW) D A nL Qf (kf τ) τ (pc + 3) lv (st)) : zGO p l e R s m args below meth c cells slots (zlay cl nW) D A nL Qf (zpf σ k0 j v kf) σ (pc) lv (.int v :: .ref a :: st) :=
  fun a0 τ h H locs ls hP hS hl => va_putN hc.1 hc.2.1 hc.2.2.2.2.1 hin ty0 hty hnm hc.2.2.2.1 hc.2.2.2.2.2.2.2.1 hP (hc.2.2.2.2.2.2.2.2.1 σ) hS k0 ((zlay_get hk0).trans (congrArg some he)) hcl j hj ((hc.2.2.2.2.2.2.2.2.2.1 _ hlink).use rfl) (fun _ h9 => by rw [href]; exact h9) hfin hd rfl rfl hl' d (fun H1 locs1 hP1 hD1 hS1 => k (zsi σ k0 j v) a0 τ h H1 locs1 ls (by rw [zlay_si hup] at hP1; exact hP1) hS1 hl)
theorem z_putNl (hc : zCx p s m args meth c cc nL own D ca xa A (zlay cl nW)) {ref C host : String} {T : u_T} {N ci idx : Nat} (hin : ∀ w ∈ u_ws C T N, w ∈ zlwg) (k0 : Nat) (hk0 : k0 < nW) {a : Nat} {fs : List Value} (he : cl k0 (σ.1 k0) (σ.2 k0) = (a, .inr (ci, fs))) (hcl : vwCl[ci]? = some (C, T, N)) (j : Nat) (hj : j < N) (href : ref = (T j).1) (hlink : Cond.fieldLinkNest own idx ref (T j).2.1 (T j).2.2.1 host ∈ znest) (ty0 : Nat → FieldType) (hty : ∀ k, k < N → parseFieldDescriptor (T k).2.2.1 = some (ty0 k)) (hnm : ∀ a, a < N → ∀ b, b < N → a ≠ b → (T a).2.1 ≠ (T b).2.1) (hfin : (T j).2.2.2 = false) (hd : parseFieldDescriptor (T j).2.2.1 = some .long) (hl' : j < fs.length) {v : Int64} (hup : cl k0 (σ.1 k0) (vp_updL (σ.2 k0) j v) = (a, .inr (ci, fs.set j (.long v)))) {kf : zSt → Option (α × zSt)} (d : decode cc pc = .ok (.putfield idx, 3)) (k : ∀ τ : zSt, zGO p l e R s m args below meth c cells slots (zlay cl nW) D A nL Qf (kf τ) τ (pc + 3) lv (st)) : zGO p l e R s m args below meth c cells slots (zlay cl nW) D A nL Qf (zpfL σ k0 j v kf) σ (pc) lv (.long v :: .ref a :: st) :=
  fun a0 τ h H locs ls hP hS hl => va_putN hc.1 hc.2.1 hc.2.2.2.2.1 hin ty0 hty hnm hc.2.2.2.1 hc.2.2.2.2.2.2.2.1 hP (hc.2.2.2.2.2.2.2.2.1 σ) hS k0 ((zlay_get hk0).trans (congrArg some he)) hcl j hj ((hc.2.2.2.2.2.2.2.2.2.1 _ hlink).use rfl) (fun _ h9 => by rw [href]; exact h9) hfin hd rfl rfl hl' d (fun H1 locs1 hP1 hD1 hS1 => k (zsl σ k0 j v) a0 τ h H1 locs1 ls (by rw [zlay_sl hup] at hP1; exact hP1) hS1 hl)
theorem z_iaload (hc : zCx p s m args meth c cc nL own D ca xa A (zlay cl nW)) (k0 : Nat) (hk0 : k0 < nW) {a n0 : Nat} (he : cl k0 (σ.1 k0) (σ.2 k0) = (a, .inl (ca 0, n0, .inl (σ.1 k0)))) {i : Int32} {kf : Int32 → Option (α × zSt)} (d : decode cc pc = .ok (.iaload, 1)) (k : ∀ x : Int32, zGO p l e R s m args below meth c cells slots (zlay cl nW) D A nL Qf (kf x) σ (pc + 1) lv (.int x :: st)) : zGO p l e R s m args below meth c cells slots (zlay cl nW) D A nL Qf (zag σ k0 n0 i kf) σ (pc) lv (.int i :: .ref a :: st) := by
  unfold zag
  refine z_ite (fun q => ?_) (fun _ => z_none)
  intro a0 τ h H locs ls hP hS hl
  exact va_iald hc.1 hc.2.1 hc.2.2.2.2.2.2.2.1 hP k0 0 ((zlay_get hk0).trans (congrArg some he)) rfl (zin_vp q) d (k _ a0 τ h H locs ls hP hS hl)
theorem z_baload (hc : zCx p s m args meth c cc nL own D ca xa A (zlay cl nW)) (k0 : Nat) (hk0 : k0 < nW) {a n0 : Nat} (he : cl k0 (σ.1 k0) (σ.2 k0) = (a, .inl (ca 1, n0, .inl (σ.1 k0)))) {i : Int32} {kf : Int32 → Option (α × zSt)} (d : decode cc pc = .ok (.baload, 1)) (k : ∀ x : Int32, zGO p l e R s m args below meth c cells slots (zlay cl nW) D A nL Qf (kf x) σ (pc + 1) lv (.int x :: st)) : zGO p l e R s m args below meth c cells slots (zlay cl nW) D A nL Qf (zag σ k0 n0 i kf) σ (pc) lv (.int i :: .ref a :: st) := by
  unfold zag
  refine z_ite (fun q => ?_) (fun _ => z_none)
  intro a0 τ h H locs ls hP hS hl
  exact va_bald hc.1 hc.2.1 hc.2.2.2.2.2.2.2.1 hP k0 1 ((zlay_get hk0).trans (congrArg some he)) rfl (zin_vp q) d (k _ a0 τ h H locs ls hP hS hl)
theorem z_zaload (hc : zCx p s m args meth c cc nL own D ca xa A (zlay cl nW)) (k0 : Nat) (hk0 : k0 < nW) {a n0 : Nat} (he : cl k0 (σ.1 k0) (σ.2 k0) = (a, .inl (ca 3, n0, .inl (σ.1 k0)))) {i : Int32} {kf : Int32 → Option (α × zSt)} (d : decode cc pc = .ok (.baload, 1)) (k : ∀ x : Int32, zGO p l e R s m args below meth c cells slots (zlay cl nW) D A nL Qf (kf x) σ (pc + 1) lv (.int x :: st)) : zGO p l e R s m args below meth c cells slots (zlay cl nW) D A nL Qf (zag σ k0 n0 i kf) σ (pc) lv (.int i :: .ref a :: st) := by
  unfold zag
  refine z_ite (fun q => ?_) (fun _ => z_none)
  intro a0 τ h H locs ls hP hS hl
  exact va_zald hc.1 hc.2.1 hc.2.2.2.2.2.2.2.1 hP k0 3 ((zlay_get hk0).trans (congrArg some he)) rfl (zin_vp q) d (k _ a0 τ h H locs ls hP hS hl)
theorem z_laload (hc : zCx p s m args meth c cc nL own D ca xa A (zlay cl nW)) (k0 : Nat) (hk0 : k0 < nW) {a n0 : Nat} (he : cl k0 (σ.1 k0) (σ.2 k0) = (a, .inl (ca 2, n0, .inr (.inl (σ.2 k0))))) {i : Int32} {kf : Int64 → Option (α × zSt)} (d : decode cc pc = .ok (.laload, 1)) (k : ∀ x : Int64, zGO p l e R s m args below meth c cells slots (zlay cl nW) D A nL Qf (kf x) σ (pc + 1) lv (.long x :: st)) : zGO p l e R s m args below meth c cells slots (zlay cl nW) D A nL Qf (zagL σ k0 n0 i kf) σ (pc) lv (.int i :: .ref a :: st) := by
  unfold zagL
  refine z_ite (fun q => ?_) (fun _ => z_none)
  intro a0 τ h H locs ls hP hS hl
  exact va_lald hc.1 hc.2.1 hc.2.2.2.2.2.2.2.1 hP k0 2 ((zlay_get hk0).trans (congrArg some he)) rfl (zin_vp q) d (k _ a0 τ h H locs ls hP hS hl)
theorem z_iastore (hc : zCx p s m args meth c cc nL own D ca xa A (zlay cl nW)) (k0 : Nat) (hk0 : k0 < nW) {a n0 : Nat} (he : ∀ f g, cl k0 f g = (a, .inl (ca 0, n0, .inl f))) {i : Int32} {x : Int32} {kf : zSt → Option (α × zSt)} (d : decode cc pc = .ok (.iastore, 1)) (k : ∀ τ : zSt, zGO p l e R s m args below meth c cells slots (zlay cl nW) D A nL Qf (kf τ) τ (pc + 1) lv (st)) : zGO p l e R s m args below meth c cells slots (zlay cl nW) D A nL Qf (zas σ k0 n0 i x kf) σ (pc) lv (.int x :: .int i :: .ref a :: st) := by
  unfold zas
  refine z_ite (fun q => ?_) (fun _ => z_none)
  intro a0 τ h H locs ls hP hS hl
  exact va_iast hc.1 hc.2.1 hc.2.2.2.2.2.2.2.1 hP (hc.2.2.2.2.2.2.2.2.1 σ) hS k0 0 ((zlay_get hk0).trans (congrArg some (he _ _))) rfl (zin_vp q) d (fun H1 locs1 hP1 hD1 hS1 => k _ a0 τ h H1 locs1 ls (by rw [zlay_si (he _ _)] at hP1; exact hP1) hS1 hl)
theorem z_bastore (hc : zCx p s m args meth c cc nL own D ca xa A (zlay cl nW)) (k0 : Nat) (hk0 : k0 < nW) {a n0 : Nat} (he : ∀ f g, cl k0 f g = (a, .inl (ca 1, n0, .inl f))) {i : Int32} {x : Int32} {kf : zSt → Option (α × zSt)} (d : decode cc pc = .ok (.bastore, 1)) (k : ∀ τ : zSt, zGO p l e R s m args below meth c cells slots (zlay cl nW) D A nL Qf (kf τ) τ (pc + 1) lv (st)) : zGO p l e R s m args below meth c cells slots (zlay cl nW) D A nL Qf (zas σ k0 n0 i (vp_nar .byte x) kf) σ (pc) lv (.int x :: .int i :: .ref a :: st) := by
  unfold zas
  refine z_ite (fun q => ?_) (fun _ => z_none)
  intro a0 τ h H locs ls hP hS hl
  exact va_bast hc.1 hc.2.1 hc.2.2.2.2.2.2.2.1 hP (hc.2.2.2.2.2.2.2.2.1 σ) hS k0 1 ((zlay_get hk0).trans (congrArg some (he _ _))) rfl (zin_vp q) d (fun H1 locs1 hP1 hD1 hS1 => k _ a0 τ h H1 locs1 ls (by rw [zlay_si (he _ _)] at hP1; exact hP1) hS1 hl)
theorem z_zastore (hc : zCx p s m args meth c cc nL own D ca xa A (zlay cl nW)) (k0 : Nat) (hk0 : k0 < nW) {a n0 : Nat} (he : ∀ f g, cl k0 f g = (a, .inl (ca 3, n0, .inl f))) {i : Int32} {x : Int32} {kf : zSt → Option (α × zSt)} (d : decode cc pc = .ok (.bastore, 1)) (k : ∀ τ : zSt, zGO p l e R s m args below meth c cells slots (zlay cl nW) D A nL Qf (kf τ) τ (pc + 1) lv (st)) : zGO p l e R s m args below meth c cells slots (zlay cl nW) D A nL Qf (zas σ k0 n0 i (vp_nar .boolean x) kf) σ (pc) lv (.int x :: .int i :: .ref a :: st) := by
  unfold zas
  refine z_ite (fun q => ?_) (fun _ => z_none)
  intro a0 τ h H locs ls hP hS hl
  exact va_zast hc.1 hc.2.1 hc.2.2.2.2.2.2.2.1 hP (hc.2.2.2.2.2.2.2.2.1 σ) hS k0 3 ((zlay_get hk0).trans (congrArg some (he _ _))) rfl (zin_vp q) d (fun H1 locs1 hP1 hD1 hS1 => k _ a0 τ h H1 locs1 ls (by rw [zlay_si (he _ _)] at hP1; exact hP1) hS1 hl)
theorem z_lastore (hc : zCx p s m args meth c cc nL own D ca xa A (zlay cl nW)) (k0 : Nat) (hk0 : k0 < nW) {a n0 : Nat} (he : ∀ f g, cl k0 f g = (a, .inl (ca 2, n0, .inr (.inl g)))) {i : Int32} {x : Int64} {kf : zSt → Option (α × zSt)} (d : decode cc pc = .ok (.lastore, 1)) (k : ∀ τ : zSt, zGO p l e R s m args below meth c cells slots (zlay cl nW) D A nL Qf (kf τ) τ (pc + 1) lv (st)) : zGO p l e R s m args below meth c cells slots (zlay cl nW) D A nL Qf (zasL σ k0 n0 i x kf) σ (pc) lv (.long x :: .int i :: .ref a :: st) := by
  unfold zasL
  refine z_ite (fun q => ?_) (fun _ => z_none)
  intro a0 τ h H locs ls hP hS hl
  exact va_last hc.1 hc.2.1 hc.2.2.2.2.2.2.2.1 hP (hc.2.2.2.2.2.2.2.2.1 σ) hS k0 2 ((zlay_get hk0).trans (congrArg some (he _ _))) rfl (zin_vp q) d (fun H1 locs1 hP1 hD1 hS1 => k _ a0 τ h H1 locs1 ls (by rw [zlay_sl (he _ _)] at hP1; exact hP1) hS1 hl)
theorem z_aaload (hc : zCx p s m args meth c cc nL own D ca xa A (zlay cl nW)) (k0 : Nat) (hk0 : k0 < nW) {a n0 : Nat} {r : Nat → Nat} (he : cl k0 (σ.1 k0) (σ.2 k0) = (a, .inl (ca 4, n0, .inr (.inr (.inr (.inr (fun j => some (r j)))))))) {i : Int32} {kf : Nat → Option (α × zSt)} (d : decode cc pc = .ok (.aaload, 1)) (k : ∀ j : Nat, j < n0 → zGO p l e R s m args below meth c cells slots (zlay cl nW) D A nL Qf (kf j) σ (pc + 1) lv (.ref (r j) :: st)) : zGO p l e R s m args below meth c cells slots (zlay cl nW) D A nL Qf (zrow n0 i kf) σ (pc) lv (.int i :: .ref a :: st) := by
  unfold zrow
  refine z_ite (fun q => ?_) (fun _ => z_none)
  intro a0 τ h H locs ls hP hS hl
  have hlt : i.toNatClampNeg < n0 := q.2
  have hin := zin_vp q
  exact W.aald (v := .ref (r i.toNatClampNeg)) (ty := .array .long) hc.1 hc.2.1 (hP k0 _ ((zlay_get hk0).trans (congrArg some he))) ((hc.2.2.2.2.2.2.2.1.2 4 _ rfl).1 n0 (fun j => va_rf (some (r j)))) rfl (fun q => by cases q) (by show ¬ (i < 0 ∨ (arrV _ _ _).slots.size ≤ _); rw [arrV_size]; exact hin) (by show (arrV _ _ _).slots[_]? = _; rw [arrV_read _ _ hlt]; rfl) rfl rfl d (k _ hlt a0 τ h H locs ls hP hS hl)
theorem z_tab (hc : zCx p s m args meth c cc nL own D ca xa A (zlay cl nW)) {C n dsc ref : String} {idx ti N : Nat} {f : Nat → Int32} (hZ : va_Z C n dsc (.ref ti) A s s.heap) (hlink : Cond.fieldLink own idx C n dsc ∈ zlwg) (d : decode cc pc = .ok (.getstatic idx, 3)) (k : zGO p l e R s m args below meth c cells slots (zlay cl nW) D A nL Qf o σ (pc + 3) lv (.ref ti :: st)) : zGO p l e R s m args below meth c cells slots (zlay cl nW) D A nL Qf o σ (pc) lv (st) :=
  fun a0 τ h H locs ls hP hS hl => va_gets hc.1 hc.2.1 hZ hS hc.2.2.2.1 (hc.2.2.2.2.1 _ hlink) (fun _ h9 => h9) d (k a0 τ h H locs ls hP hS hl)
theorem z_tabld (hc : zCx p s m args meth c cc nL own D ca xa A (zlay cl nW)) {ti N : Nat} {f : Nat → Int32} (hT : va_T .int ti N (fun j => .int (f j)) A s s.heap) {i : Int32} {kf : Int32 → Option (α × zSt)} (d : decode cc pc = .ok (.iaload, 1)) (k : ∀ x : Int32, zGO p l e R s m args below meth c cells slots (zlay cl nW) D A nL Qf (kf x) σ (pc + 1) lv (.int x :: st)) : zGO p l e R s m args below meth c cells slots (zlay cl nW) D A nL Qf (ztab f N i kf) σ (pc) lv (.int i :: .ref ti :: st) := by
  unfold ztab
  refine z_ite (fun q => ?_) (fun _ => z_none)
  intro a0 τ h H locs ls hP hS hl
  obtain ⟨cell, h1, h2, h3, h4, h5, h6, h7⟩ := hT.kept hS.2.1
  exact W.iald hc.1 hc.2.1 h1 h2 h3 (fun z => (zin_vp q) (z.elim Or.inl (fun y => Or.inr (Nat.le_trans h4 y)))) (h6 _ q.2) rfl rfl d (k _ a0 τ h H locs ls hP hS hl)
theorem z_copy (hc : zCx p s m args meth c cc nL own D ca xa A (zlay cl nW)) (k0 : Nat) (hk0 : k0 < nW) {a n0 idx : Nat} (he : ∀ f g, cl k0 f g = (a, .inl (ca 0, n0, .inl f))) {sp dp len : Int32} {kf : zSt → Option (α × zSt)} (hw : Cond.methodLink own idx arraycopyName ∈ zlwg ∧ Cond.native arraycopyName ∈ zlwg ∧ Cond.static arraycopyName ∈ zlwg ∧ Cond.initialized "java/lang/System" ∈ zlwg) (hR : 1 ≤ R.frames ∧ (st.map fun v => v.category).sum + (nativeFrameWords "java/lang/System" "arraycopy" 5 + 11) ≤ R.locals) (d : decode cc pc = .ok (.invokestatic idx, 3)) (k : ∀ τ : zSt, zGO p l e R s m args below meth c cells slots (zlay cl nW) D A nL Qf (kf τ) τ (pc + 3) lv (st)) : zGO p l e R s m args below meth c cells slots (zlay cl nW) D A nL Qf (zcp σ k0 n0 sp dp len kf) σ (pc) lv (.int len :: .int dp :: .ref a :: .int sp :: .ref a :: st) := by
  unfold zcp
  refine z_ite (fun q => ?_) (fun _ => z_none)
  obtain ⟨q1, q2, q3, q4, q5⟩ := q
  intro a0 τ h H locs ls hP hS hl
  have hg := (zlay_get (cl := cl) (σ := σ) hk0).trans (congrArg some (he (σ.1 k0) (σ.2 k0)))
  exact va_copyi hc.1 hc.2.1 (hc.2.2.1.trans hl.1.symm) hc.2.2.2.1 (hc.2.2.2.2.1 _ hw.1) (hc.2.2.2.2.1 _ hw.2.1) (hc.2.2.2.2.1 _ hw.2.2.1) (hc.2.2.2.2.1 _ hw.2.2.2) hc.2.2.2.2.2.2.2.1 hP (hc.2.2.2.2.2.2.2.2.1 σ) hS k0 k0 0 0 hg hg rfl rfl rfl (Int32.not_lt.mpr q1) (Int32.not_lt.mpr q2) (Int32.not_lt.mpr q3) q4 q5 (fun _ _ => rfl) hR.1 hR.2 d (fun H1 locs1 hP1 hD1 hS1 => k _ a0 τ h H1 locs1 ls (by rw [zlay_sc (he _ _)] at hP1; exact hP1) hS1 hl)
end zH
/-! ===== answers, calls, contracts ===== -/
section zC
variable {p : Program} {l : Launch} {e : Env} {R : Room} {s : State} {m : MethodId} {args : Array Value} {below : List Frame} {meth : Method} {c : Code} {cells slots : Nat}
variable {S α : Type} {lw : S → va_W} {D : va_G} {ca : Nat → ClassId} {xa : Nat → Nat} {A : Nat → Prop} {nL : Nat} {Qf : α → S → State → Prop} {cc : ByteArray} {own : String}
variable {o o1 o2 : Option (α × S)} {σ : S} {pc tgt : Nat} {lv lv' : List (Nat × Value)} {st : List Value}
abbrev zI (a : Int32) : Option Value := some (.int a)
abbrev zL (a : Int64) : Option Value := some (.long a)
abbrev zV (_ : Unit) : Option Value := none
/-- where a method's walk ends -/
abbrev zQ (below : List Frame) (D : va_G) (A : Nat → Prop) (lw : S → va_W) (args : Array Value) (s : State) (inj : α → Option Value) : α → S → State → Prop := fun a τ => MQ below (zPost D A lw (inj a) τ) args s 0 0 A
theorem z_iret (hc : zCx p s m args meth c cc nL own D ca xa A lw) (hr : meth.sig.returnType = some .int) {v : Int32} (d : decode cc pc = .ok (.ireturn, 1)) : zGO p l e R s m args below meth c 0 0 lw D A nL (zQ below D A lw args s zI) (some (v, σ)) σ pc lv [.int v] := by
  intro a τ h H locs ls hP hS hl
  cases h
  have hlocks : meth.locks = false := hc.2.2.2.2.2.1
  exact W.iret hc.1 hc.2.1 hr (fun t ht hW => ⟨⟨rfl, by rw [ht]; exact hP⟩, hS.F ht⟩) hS.2.2 d
theorem z_zret (hc : zCx p s m args meth c cc nL own D ca xa A lw) (hr : meth.sig.returnType = some .boolean) {v : Int32} (d : decode cc pc = .ok (.ireturn, 1)) : zGO p l e R s m args below meth c 0 0 lw D A nL (zQ below D A lw args s zI) (zrz v σ) σ pc lv [.int v] := by
  unfold zrz
  refine z_ite (fun q => ?_) (fun _ => z_none)
  intro a τ h H locs ls hP hS hl
  cases h
  have hlocks : meth.locks = false := hc.2.2.2.2.2.1
  have hn : narrow .boolean (.int v) = .int v := by rcases q with q | q <;> subst q <;> rfl
  exact W.zret hc.1 hc.2.1 hr hn (fun t ht hW => ⟨⟨rfl, by rw [ht]; exact hP⟩, hS.F ht⟩) hS.2.2 d
theorem z_lret (hc : zCx p s m args meth c cc nL own D ca xa A lw) (hr : meth.sig.returnType = some .long) {v : Int64} (d : decode cc pc = .ok (.lreturn, 1)) : zGO p l e R s m args below meth c 0 0 lw D A nL (zQ below D A lw args s zL) (some (v, σ)) σ pc lv [.long v] := by
  intro a τ h H locs ls hP hS hl
  cases h
  have hlocks : meth.locks = false := hc.2.2.2.2.2.1
  exact W.lret hc.1 hc.2.1 hr (fun t ht hW => ⟨⟨rfl, by rw [ht]; exact hP⟩, hS.F ht⟩) hS.2.2 d
theorem z_vret (hc : zCx p s m args meth c cc nL own D ca xa A lw) (hr : meth.sig.returnType = none) (d : decode cc pc = .ok (.return_, 1)) : zGO p l e R s m args below meth c 0 0 lw D A nL (zQ below D A lw args s zV) (some ((), σ)) σ pc lv [] := by
  intro a τ h H locs ls hP hS hl
  cases h
  have hlocks : meth.locks = false := hc.2.2.2.2.2.1
  exact W.vret hc.1 hc.2.1 hr (fun t ht hW => ⟨⟨rfl, by rw [ht]; exact hP⟩, hS.F ht⟩) hS.2.2 d
/-- a contract out of a walk -/
theorem z_met {y : MethodName} {ret : Option FieldType} {rm : Room} {inj : α → Option Value} {al : List Value} (hy : plainName y.cls = true) (hlen : (lg_sl al).length ≤ nL) (hlv : lv_args 0 al = lv)
    (body : ∀ (p : Program) (e : Env) (s : State) (m : MethodId) (args : Array Value) (below : List Frame) (meth : Method) (c : Code), zCx p s m args meth c cc nL y.cls D ca xa A lw → meth.sig.returnType = ret → zGO p l e rm s m args below meth c 0 0 lw D A nL (zQ below D A lw args s inj) o σ 0 lv []) {a : α} {τ : S} (h : o = some (a, τ)) : zCt l y cc nL ret rm D ca xa A lw al σ (inj a) τ := by
  refine Met.ofW (cc := cc) (maxL := nL) (ret := ret) hy rfl ?_
  intro p e s m args below meth c s₁ B hml hv
  obtain ⟨rfl, hA, hP, hKx⟩ := hv
  have hts := atoms_spec (ws := Cond.code y cc nL ret :: zlwg) B.pre
  have hown : s.vm.findClass y.cls = some m.cls := findClass_of_methodNamed B.named
  have hl := lv_entry al (n := nL) hlen
  rw [lg_entry_eq]
  rw [hlv] at hl
  exact body p e s m al.toArray below meth c ⟨B.exec, B.bytes, hml, hown, fun w hw => hts w (List.mem_cons_of_mem _ hw), B.notSynchronized, hA, hKx⟩ B.returns a τ h s.heap [] _ hP va_S.rf hl
theorem zPre.blind {al : List Value} : FrameBlind (va_Pc al (zPre D ca xa A lw σ)) := fun a U g mk q => ⟨q.1, q.2.1, q.2.2.1, q.2.2.2.blind rfl rfl⟩
theorem zPre.at (hc : zCx p s m args meth c cc nL own D ca xa A lw) {H : Heap} {locs : List Loc} (hP : va_P D vwCl (lw σ) H) (hS : va_S A s.heap H locs) (U : State) (hU : U.heap = H) (hW : s.WarmedH U.vm) : zPre D ca xa A lw σ U :=
  ⟨fun q hq => hc.2.2.2.2.2.2.1 q (Nat.le_trans hS.1 (by rw [← hU]; exact hq)), by rw [hU]; exact hP, hc.2.2.2.2.2.2.2.at hW (fun a h1 h2 => by rw [hU]; exact hS.2.1 a h1 h2)⟩
/-- a call, whatever its kind -/
theorem z_run {β : Type} {inj : β → Option Value} {o' : Option (β × S)} {k : β → S → Option (α × S)} {rest : List Value} {av : Array Value}
    (hM : ∀ (b : β) (τ : S), o' = some (b, τ) → ∀ (H : Heap) (locs : List Loc) (ls : Array Slot), va_P D vwCl (lw σ) H → va_S A s.heap H locs → lv_has ls nL lv → va_Run p l e R s m args below meth c H locs cells slots 0 0 (F0 m pc ls st) rest (zPost D A lw (inj b) τ av) A)
    (kk : ∀ (b : β) (τ : S), zGO p l e R s m args below meth c cells slots lw D A nL Qf (k b τ) τ (pc + 3) lv ((inj b).toList ++ rest)) : zGO p l e R s m args below meth c cells slots lw D A nL Qf (zbnd o' k) σ (pc) lv (st) := by
  intro a τ h H locs ls hP hS hl
  cases ho : o' with
  | none => rw [ho] at h; cases h
  | some bt =>
    obtain ⟨b, τ1⟩ := bt
    rw [ho] at h
    have h' : k b τ1 = some (a, τ) := h
    intro T hT X
    obtain ⟨v, st₀, t, T', L, h0, X', hL, e1, e2, ⟨⟨hv, hp⟩, hz, hk⟩, stp⟩ := hM b τ1 ho H locs ls hP hS hl T hT X
    cases hv
    rw [h0] at hz hk
    obtain ⟨t2, a1, b1⟩ := kk b τ1 a τ h' T'.heap (locs ++ L) ls (by rw [e1]; exact hp)
      ⟨Nat.le_trans hS.1 (by rw [e1]; exact hz), fun q h1 h2 => by rw [e1, hk q (Nat.lt_of_lt_of_le h1 hS.1) h2]; exact hS.2.1 q h1 h2, fun q hq => by
        rcases List.mem_append.mp hq with h | h
        · exact hS.2.2 q h
        · exact hL q h⟩ hl T' rfl X'
    exact ⟨t2, stp t2 a1, b1⟩
/-- what the tables say of a method that is called -/
def zMp (y : MethodName) (cc : ByteArray) (nL : Nat) (ret : Option FieldType) (n : Nat) : Prop :=
  Cond.code y cc nL ret ∈ zlwg ∧ Cond.initialized y.cls ∈ zlwg ∧ y.cls ≠ "java/lang/invoke/MethodHandle" ∧ y.cls ≠ "java/lang/invoke/VarHandle" ∧ (parseMethodDescriptor y.desc).map (fun d => d.parameters.length) = some n
theorem zG2 {y : MethodName} {cc2 : ByteArray} {nL2 n : Nat} {ret : Option FieldType} (hp : zMp y cc2 nL2 ret n) : GoodIn zlwg (Cond.code y cc2 nL2 ret :: zlwg) := fun w hw => by
  rcases List.mem_cons.mp hw with rfl | h
  · exact ⟨hp.1, zlwg_good hp.1⟩
  · exact ⟨h, zlwg_good h⟩
theorem zG3 {y : MethodName} {cc2 : ByteArray} {nL2 n : Nat} {ret : Option FieldType} (hp : zMp y cc2 nL2 ret n) {ws : List Cond} (h : ∀ w ∈ ws, w ∈ zlwg) : GoodIn zlwg (ws ++ (Cond.code y cc2 nL2 ret :: zlwg)) := fun w hw => by
  rcases List.mem_append.mp hw with h1 | h1
  · exact ⟨h w h1, zlwg_good (h w h1)⟩
  · exact zG2 hp w h1
section zCalls
variable {β : Type} {inj : β → Option Value} {o' : Option (β × S)} {k : β → S → Option (α × S)} {rest : List Value} {y : MethodName} {cc2 : ByteArray} {nL2 idx b0 : Nat} {ret2 : Option FieldType} {rm2 : Room} {As : List Value} {host : String}
theorem z_runV (hc : zCx p s m args meth c cc nL own D ca xa A lw) (hct : ∀ (b : β) (τ : S), o' = some (b, τ) → zCt l y cc2 nL2 ret2 rm2 D ca xa A lw (.ref b0 :: As) σ (inj b) τ) (hp : zMp y cc2 nL2 ret2 As.length) (hi : Cond.instanceMethod y ∈ zlwg ∧ Cond.selects y.cls y y ∈ zlwg) (hlk : Cond.methodLink own idx y ∈ zlwg) (hrm : rm2.cells = 0 ∧ rm2.slots = 0 ∧ rm2.frames + 1 ≤ R.frames ∧ 8 + (nL2 + 11) + rm2.locals ≤ R.locals) (hcs : cells ≤ R.cells ∧ slots ≤ R.slots)
    (hrc : ∃ (q0 ci : Nat) (fs : List Value) (T : u_T) (N : Nat), (lw σ)[q0]? = some (b0, .inr (ci, fs)) ∧ vwCl[ci]? = some (y.cls, T, N)) (hst : st = As.reverse ++ .ref b0 :: rest) (hcat : (rest.map fun v => v.category).sum ≤ 8) (d : decode cc pc = .ok (.invokevirtual idx, 3))
    (kk : ∀ (b : β) (τ : S), zGO p l e R s m args below meth c cells slots lw D A nL Qf (k b τ) τ (pc + 3) lv ((inj b).toList ++ rest)) : zGO p l e R s m args below meth c cells slots lw D A nL Qf (zbnd o' k) σ (pc) lv (st) := by
  refine z_run (inj := inj) (rest := rest) (av := (Value.ref b0 :: As).toArray) (fun b τ ho H locs ls hP hS hl => ?_) kk
  obtain ⟨q0, ci, fs, T, N, hq, hcl⟩ := hrc
  subst hst
  exact va_runV (As := As) (rest := rest) ⟨hc.1, hc.2.1, hc.2.2.1, hc.2.2.2.1, hc.2.2.2.2.1⟩ (hct b τ ho) (cwV As.length hc.2.2.2.2.1 (zG3 hp (fun w hw => by
      simp only [List.mem_cons, List.not_mem_nil, or_false] at hw
      rcases hw with rfl | rfl | rfl | rfl
      · exact hlk
      · exact hi.1
      · exact hi.2
      · exact hp.2.1)) rfl hrm.1 hrm.2.1 ⟨rfl, hp.2.2⟩ hrm.2.2) ⟨zPre.blind, va_recv hc.2.2.2.2.2.2.2.1 hP hcl hq, fun U hU hW => ⟨rfl, zPre.at hc hP hS U hU hW⟩⟩ rfl rfl hl.1 rfl (lv_room hcat) d hcs
theorem z_runVN (hc : zCx p s m args meth c cc nL own D ca xa A lw) (hct : ∀ (b : β) (τ : S), o' = some (b, τ) → zCt l y cc2 nL2 ret2 rm2 D ca xa A lw (.ref b0 :: As) σ (inj b) τ) (hp : zMp y cc2 nL2 ret2 As.length) (hi : Cond.instanceMethod y ∈ zlwg ∧ Cond.selects y.cls y y ∈ zlwg) (hlk : Cond.methodLinkNest own idx y host ∈ znest) (hrm : rm2.cells = 0 ∧ rm2.slots = 0 ∧ rm2.frames + 1 ≤ R.frames ∧ 8 + (nL2 + 11) + rm2.locals ≤ R.locals) (hcs : cells ≤ R.cells ∧ slots ≤ R.slots)
    (hrc : ∃ (q0 ci : Nat) (fs : List Value) (T : u_T) (N : Nat), (lw σ)[q0]? = some (b0, .inr (ci, fs)) ∧ vwCl[ci]? = some (y.cls, T, N)) (hst : st = As.reverse ++ .ref b0 :: rest) (hcat : (rest.map fun v => v.category).sum ≤ 8) (d : decode cc pc = .ok (.invokevirtual idx, 3))
    (kk : ∀ (b : β) (τ : S), zGO p l e R s m args below meth c cells slots lw D A nL Qf (k b τ) τ (pc + 3) lv ((inj b).toList ++ rest)) : zGO p l e R s m args below meth c cells slots lw D A nL Qf (zbnd o' k) σ (pc) lv (st) := by
  refine z_run (inj := inj) (rest := rest) (av := (Value.ref b0 :: As).toArray) (fun b τ ho H locs ls hP hS hl => ?_) kk
  obtain ⟨q0, ci, fs, T, N, hq, hcl⟩ := hrc
  subst hst
  exact va_runVN (As := As) (rest := rest) (C := y.cls) ⟨hc.1, hc.2.1, hc.2.2.1, hc.2.2.2.1, hc.2.2.2.2.1⟩ (hct b τ ho) ⟨va_cnB As.length hc.2.2.2.2.1 (zG2 hp) rfl hrm.1 hrm.2.1 (hc.2.2.2.2.2.2.2.2.2.1 _ hlk) (hc.2.2.2.2.1 _ hp.2.1) hp.2.2 hrm.2.2, hc.2.2.2.2.1 _ hi.1, hc.2.2.2.2.1 _ hi.2⟩ ⟨zPre.blind, va_recv hc.2.2.2.2.2.2.2.1 hP hcl hq, fun U hU hW => ⟨rfl, zPre.at hc hP hS U hU hW⟩⟩ rfl rfl hl.1 rfl (lv_room hcat) d hcs
theorem z_runS (hc : zCx p s m args meth c cc nL own D ca xa A lw) (hct : ∀ (b : β) (τ : S), o' = some (b, τ) → zCt l y cc2 nL2 ret2 rm2 D ca xa A lw As σ (inj b) τ) (hp : zMp y cc2 nL2 ret2 As.length) (hi : Cond.static y ∈ zlwg) (hlk : Cond.methodLink own idx y ∈ zlwg) (hrm : rm2.cells = 0 ∧ rm2.slots = 0 ∧ rm2.frames + 1 ≤ R.frames ∧ 8 + (nL2 + 11) + rm2.locals ≤ R.locals) (hcs : cells ≤ R.cells ∧ slots ≤ R.slots)
    (hst : st = As.reverse ++ rest) (hcat : (rest.map fun v => v.category).sum ≤ 8) (d : decode cc pc = .ok (.invokestatic idx, 3))
    (kk : ∀ (b : β) (τ : S), zGO p l e R s m args below meth c cells slots lw D A nL Qf (k b τ) τ (pc + 3) lv ((inj b).toList ++ rest)) : zGO p l e R s m args below meth c cells slots lw D A nL Qf (zbnd o' k) σ (pc) lv (st) := by
  refine z_run (inj := inj) (rest := rest) (av := As.toArray) (fun b τ ho H locs ls hP hS hl => ?_) kk
  subst hst
  exact va_runS (As := As) (rest := rest) ⟨hc.1, hc.2.1, hc.2.2.1, hc.2.2.2.1, hc.2.2.2.2.1⟩ (hct b τ ho) ⟨callB_of As.length hc.2.2.2.2.1 (zG2 hp) rfl hrm.1 hrm.2.1 (hc.2.2.2.2.1 _ hp.2.1) (hc.2.2.2.2.1 _ hlk) hp.2.2 hrm.2.2, hc.2.2.2.2.1 _ hi⟩ ⟨zPre.blind, fun U hU hW => ⟨rfl, zPre.at hc hP hS U hU hW⟩⟩ rfl rfl hl.1 rfl (lv_room hcat) d hcs
theorem z_runSN (hc : zCx p s m args meth c cc nL own D ca xa A lw) (hct : ∀ (b : β) (τ : S), o' = some (b, τ) → zCt l y cc2 nL2 ret2 rm2 D ca xa A lw As σ (inj b) τ) (hp : zMp y cc2 nL2 ret2 As.length) (hi : Cond.static y ∈ zlwg) (hlk : Cond.methodLinkNest own idx y host ∈ znest) (hrm : rm2.cells = 0 ∧ rm2.slots = 0 ∧ rm2.frames + 1 ≤ R.frames ∧ 8 + (nL2 + 11) + rm2.locals ≤ R.locals) (hcs : cells ≤ R.cells ∧ slots ≤ R.slots)
    (hst : st = As.reverse ++ rest) (hcat : (rest.map fun v => v.category).sum ≤ 8) (d : decode cc pc = .ok (.invokestatic idx, 3))
    (kk : ∀ (b : β) (τ : S), zGO p l e R s m args below meth c cells slots lw D A nL Qf (k b τ) τ (pc + 3) lv ((inj b).toList ++ rest)) : zGO p l e R s m args below meth c cells slots lw D A nL Qf (zbnd o' k) σ (pc) lv (st) := by
  refine z_run (inj := inj) (rest := rest) (av := As.toArray) (fun b τ ho H locs ls hP hS hl => ?_) kk
  subst hst
  exact va_runSN (As := As) (rest := rest) ⟨hc.1, hc.2.1, hc.2.2.1, hc.2.2.2.1, hc.2.2.2.2.1⟩ (hct b τ ho) ⟨va_cnB As.length hc.2.2.2.2.1 (zG2 hp) rfl hrm.1 hrm.2.1 (hc.2.2.2.2.2.2.2.2.2.1 _ hlk) (hc.2.2.2.2.1 _ hp.2.1) hp.2.2 hrm.2.2, hc.2.2.2.2.1 _ hi, trivial⟩ ⟨zPre.blind, fun U hU hW => ⟨rfl, zPre.at hc hP hS U hU hW⟩⟩ rfl rfl hl.1 rfl (lv_room hcat) d hcs

theorem z_runVi (hc : zCx p s m args meth c cc nL own D ca xa A lw) {o' : Option (Int32 × S)} {k : Int32 → S → Option (α × S)} (d : decode cc pc = .ok (.invokevirtual idx, 3)) (hct : ∀ (b : Int32) (τ : S), o' = some (b, τ) → zCt l y cc2 nL2 ret2 rm2 D ca xa A lw (.ref b0 :: As) σ (zI b) τ) (hp : zMp y cc2 nL2 ret2 As.length) (hi : Cond.instanceMethod y ∈ zlwg ∧ Cond.selects y.cls y y ∈ zlwg) (hlk : Cond.methodLink own idx y ∈ zlwg) (hrm : rm2.cells = 0 ∧ rm2.slots = 0 ∧ rm2.frames + 1 ≤ R.frames ∧ 8 + (nL2 + 11) + rm2.locals ≤ R.locals) (hcs : cells ≤ R.cells ∧ slots ≤ R.slots) (hrc : ∃ (q0 ci : Nat) (fs : List Value) (T : u_T) (N : Nat), (lw σ)[q0]? = some (b0, .inr (ci, fs)) ∧ vwCl[ci]? = some (y.cls, T, N)) (hst : st = As.reverse ++ .ref b0 :: rest) (hcat : (rest.map fun v => v.category).sum ≤ 8) (kk : ∀ (b : Int32) (τ : S), zGO p l e R s m args below meth c cells slots lw D A nL Qf (k b τ) τ (pc + 3) lv (.int b :: rest)) : zGO p l e R s m args below meth c cells slots lw D A nL Qf (zbnd o' k) σ (pc) lv (st) := z_runV (inj := zI) hc hct hp hi hlk hrm hcs hrc hst hcat d kk
theorem z_runVl (hc : zCx p s m args meth c cc nL own D ca xa A lw) {o' : Option (Int64 × S)} {k : Int64 → S → Option (α × S)} (d : decode cc pc = .ok (.invokevirtual idx, 3)) (hct : ∀ (b : Int64) (τ : S), o' = some (b, τ) → zCt l y cc2 nL2 ret2 rm2 D ca xa A lw (.ref b0 :: As) σ (zL b) τ) (hp : zMp y cc2 nL2 ret2 As.length) (hi : Cond.instanceMethod y ∈ zlwg ∧ Cond.selects y.cls y y ∈ zlwg) (hlk : Cond.methodLink own idx y ∈ zlwg) (hrm : rm2.cells = 0 ∧ rm2.slots = 0 ∧ rm2.frames + 1 ≤ R.frames ∧ 8 + (nL2 + 11) + rm2.locals ≤ R.locals) (hcs : cells ≤ R.cells ∧ slots ≤ R.slots) (hrc : ∃ (q0 ci : Nat) (fs : List Value) (T : u_T) (N : Nat), (lw σ)[q0]? = some (b0, .inr (ci, fs)) ∧ vwCl[ci]? = some (y.cls, T, N)) (hst : st = As.reverse ++ .ref b0 :: rest) (hcat : (rest.map fun v => v.category).sum ≤ 8) (kk : ∀ (b : Int64) (τ : S), zGO p l e R s m args below meth c cells slots lw D A nL Qf (k b τ) τ (pc + 3) lv (.long b :: rest)) : zGO p l e R s m args below meth c cells slots lw D A nL Qf (zbnd o' k) σ (pc) lv (st) := z_runV (inj := zL) hc hct hp hi hlk hrm hcs hrc hst hcat d kk
theorem z_runVv (hc : zCx p s m args meth c cc nL own D ca xa A lw) {o' : Option (Unit × S)} {k : Unit → S → Option (α × S)} (d : decode cc pc = .ok (.invokevirtual idx, 3)) (hct : ∀ (b : Unit) (τ : S), o' = some (b, τ) → zCt l y cc2 nL2 ret2 rm2 D ca xa A lw (.ref b0 :: As) σ (zV b) τ) (hp : zMp y cc2 nL2 ret2 As.length) (hi : Cond.instanceMethod y ∈ zlwg ∧ Cond.selects y.cls y y ∈ zlwg) (hlk : Cond.methodLink own idx y ∈ zlwg) (hrm : rm2.cells = 0 ∧ rm2.slots = 0 ∧ rm2.frames + 1 ≤ R.frames ∧ 8 + (nL2 + 11) + rm2.locals ≤ R.locals) (hcs : cells ≤ R.cells ∧ slots ≤ R.slots) (hrc : ∃ (q0 ci : Nat) (fs : List Value) (T : u_T) (N : Nat), (lw σ)[q0]? = some (b0, .inr (ci, fs)) ∧ vwCl[ci]? = some (y.cls, T, N)) (hst : st = As.reverse ++ .ref b0 :: rest) (hcat : (rest.map fun v => v.category).sum ≤ 8) (kk : ∀ (b : Unit) (τ : S), zGO p l e R s m args below meth c cells slots lw D A nL Qf (k b τ) τ (pc + 3) lv (rest)) : zGO p l e R s m args below meth c cells slots lw D A nL Qf (zbnd o' k) σ (pc) lv (st) := z_runV (inj := zV) hc hct hp hi hlk hrm hcs hrc hst hcat d kk
theorem z_runVNi (hc : zCx p s m args meth c cc nL own D ca xa A lw) {o' : Option (Int32 × S)} {k : Int32 → S → Option (α × S)} (d : decode cc pc = .ok (.invokevirtual idx, 3)) (hct : ∀ (b : Int32) (τ : S), o' = some (b, τ) → zCt l y cc2 nL2 ret2 rm2 D ca xa A lw (.ref b0 :: As) σ (zI b) τ) (hp : zMp y cc2 nL2 ret2 As.length) (hi : Cond.instanceMethod y ∈ zlwg ∧ Cond.selects y.cls y y ∈ zlwg) (hlk : Cond.methodLinkNest own idx y host ∈ znest) (hrm : rm2.cells = 0 ∧ rm2.slots = 0 ∧ rm2.frames + 1 ≤ R.frames ∧ 8 + (nL2 + 11) + rm2.locals ≤ R.locals) (hcs : cells ≤ R.cells ∧ slots ≤ R.slots) (hrc : ∃ (q0 ci : Nat) (fs : List Value) (T : u_T) (N : Nat), (lw σ)[q0]? = some (b0, .inr (ci, fs)) ∧ vwCl[ci]? = some (y.cls, T, N)) (hst : st = As.reverse ++ .ref b0 :: rest) (hcat : (rest.map fun v => v.category).sum ≤ 8) (kk : ∀ (b : Int32) (τ : S), zGO p l e R s m args below meth c cells slots lw D A nL Qf (k b τ) τ (pc + 3) lv (.int b :: rest)) : zGO p l e R s m args below meth c cells slots lw D A nL Qf (zbnd o' k) σ (pc) lv (st) := z_runVN (inj := zI) hc hct hp hi hlk hrm hcs hrc hst hcat d kk
theorem z_runVNl (hc : zCx p s m args meth c cc nL own D ca xa A lw) {o' : Option (Int64 × S)} {k : Int64 → S → Option (α × S)} (d : decode cc pc = .ok (.invokevirtual idx, 3)) (hct : ∀ (b : Int64) (τ : S), o' = some (b, τ) → zCt l y cc2 nL2 ret2 rm2 D ca xa A lw (.ref b0 :: As) σ (zL b) τ) (hp : zMp y cc2 nL2 ret2 As.length) (hi : Cond.instanceMethod y ∈ zlwg ∧ Cond.selects y.cls y y ∈ zlwg) (hlk : Cond.methodLinkNest own idx y host ∈ znest) (hrm : rm2.cells = 0 ∧ rm2.slots = 0 ∧ rm2.frames + 1 ≤ R.frames ∧ 8 + (nL2 + 11) + rm2.locals ≤ R.locals) (hcs : cells ≤ R.cells ∧ slots ≤ R.slots) (hrc : ∃ (q0 ci : Nat) (fs : List Value) (T : u_T) (N : Nat), (lw σ)[q0]? = some (b0, .inr (ci, fs)) ∧ vwCl[ci]? = some (y.cls, T, N)) (hst : st = As.reverse ++ .ref b0 :: rest) (hcat : (rest.map fun v => v.category).sum ≤ 8) (kk : ∀ (b : Int64) (τ : S), zGO p l e R s m args below meth c cells slots lw D A nL Qf (k b τ) τ (pc + 3) lv (.long b :: rest)) : zGO p l e R s m args below meth c cells slots lw D A nL Qf (zbnd o' k) σ (pc) lv (st) := z_runVN (inj := zL) hc hct hp hi hlk hrm hcs hrc hst hcat d kk
theorem z_runVNv (hc : zCx p s m args meth c cc nL own D ca xa A lw) {o' : Option (Unit × S)} {k : Unit → S → Option (α × S)} (d : decode cc pc = .ok (.invokevirtual idx, 3)) (hct : ∀ (b : Unit) (τ : S), o' = some (b, τ) → zCt l y cc2 nL2 ret2 rm2 D ca xa A lw (.ref b0 :: As) σ (zV b) τ) (hp : zMp y cc2 nL2 ret2 As.length) (hi : Cond.instanceMethod y ∈ zlwg ∧ Cond.selects y.cls y y ∈ zlwg) (hlk : Cond.methodLinkNest own idx y host ∈ znest) (hrm : rm2.cells = 0 ∧ rm2.slots = 0 ∧ rm2.frames + 1 ≤ R.frames ∧ 8 + (nL2 + 11) + rm2.locals ≤ R.locals) (hcs : cells ≤ R.cells ∧ slots ≤ R.slots) (hrc : ∃ (q0 ci : Nat) (fs : List Value) (T : u_T) (N : Nat), (lw σ)[q0]? = some (b0, .inr (ci, fs)) ∧ vwCl[ci]? = some (y.cls, T, N)) (hst : st = As.reverse ++ .ref b0 :: rest) (hcat : (rest.map fun v => v.category).sum ≤ 8) (kk : ∀ (b : Unit) (τ : S), zGO p l e R s m args below meth c cells slots lw D A nL Qf (k b τ) τ (pc + 3) lv (rest)) : zGO p l e R s m args below meth c cells slots lw D A nL Qf (zbnd o' k) σ (pc) lv (st) := z_runVN (inj := zV) hc hct hp hi hlk hrm hcs hrc hst hcat d kk
theorem z_runSi (hc : zCx p s m args meth c cc nL own D ca xa A lw) {o' : Option (Int32 × S)} {k : Int32 → S → Option (α × S)} (d : decode cc pc = .ok (.invokestatic idx, 3)) (hct : ∀ (b : Int32) (τ : S), o' = some (b, τ) → zCt l y cc2 nL2 ret2 rm2 D ca xa A lw As σ (zI b) τ) (hp : zMp y cc2 nL2 ret2 As.length) (hi : Cond.static y ∈ zlwg) (hlk : Cond.methodLink own idx y ∈ zlwg) (hrm : rm2.cells = 0 ∧ rm2.slots = 0 ∧ rm2.frames + 1 ≤ R.frames ∧ 8 + (nL2 + 11) + rm2.locals ≤ R.locals) (hcs : cells ≤ R.cells ∧ slots ≤ R.slots) (hst : st = As.reverse ++ rest) (hcat : (rest.map fun v => v.category).sum ≤ 8) (kk : ∀ (b : Int32) (τ : S), zGO p l e R s m args below meth c cells slots lw D A nL Qf (k b τ) τ (pc + 3) lv (.int b :: rest)) : zGO p l e R s m args below meth c cells slots lw D A nL Qf (zbnd o' k) σ (pc) lv (st) := z_runS (inj := zI) hc hct hp hi hlk hrm hcs hst hcat d kk
theorem z_runSl (hc : zCx p s m args meth c cc nL own D ca xa A lw) {o' : Option (Int64 × S)} {k : Int64 → S → Option (α × S)} (d : decode cc pc = .ok (.invokestatic idx, 3)) (hct : ∀ (b : Int64) (τ : S), o' = some (b, τ) → zCt l y cc2 nL2 ret2 rm2 D ca xa A lw As σ (zL b) τ) (hp : zMp y cc2 nL2 ret2 As.length) (hi : Cond.static y ∈ zlwg) (hlk : Cond.methodLink own idx y ∈ zlwg) (hrm : rm2.cells = 0 ∧ rm2.slots = 0 ∧ rm2.frames + 1 ≤ R.frames ∧ 8 + (nL2 + 11) + rm2.locals ≤ R.locals) (hcs : cells ≤ R.cells ∧ slots ≤ R.slots) (hst : st = As.reverse ++ rest) (hcat : (rest.map fun v => v.category).sum ≤ 8) (kk : ∀ (b : Int64) (τ : S), zGO p l e R s m args below meth c cells slots lw D A nL Qf (k b τ) τ (pc + 3) lv (.long b :: rest)) : zGO p l e R s m args below meth c cells slots lw D A nL Qf (zbnd o' k) σ (pc) lv (st) := z_runS (inj := zL) hc hct hp hi hlk hrm hcs hst hcat d kk
theorem z_runSv (hc : zCx p s m args meth c cc nL own D ca xa A lw) {o' : Option (Unit × S)} {k : Unit → S → Option (α × S)} (d : decode cc pc = .ok (.invokestatic idx, 3)) (hct : ∀ (b : Unit) (τ : S), o' = some (b, τ) → zCt l y cc2 nL2 ret2 rm2 D ca xa A lw As σ (zV b) τ) (hp : zMp y cc2 nL2 ret2 As.length) (hi : Cond.static y ∈ zlwg) (hlk : Cond.methodLink own idx y ∈ zlwg) (hrm : rm2.cells = 0 ∧ rm2.slots = 0 ∧ rm2.frames + 1 ≤ R.frames ∧ 8 + (nL2 + 11) + rm2.locals ≤ R.locals) (hcs : cells ≤ R.cells ∧ slots ≤ R.slots) (hst : st = As.reverse ++ rest) (hcat : (rest.map fun v => v.category).sum ≤ 8) (kk : ∀ (b : Unit) (τ : S), zGO p l e R s m args below meth c cells slots lw D A nL Qf (k b τ) τ (pc + 3) lv (rest)) : zGO p l e R s m args below meth c cells slots lw D A nL Qf (zbnd o' k) σ (pc) lv (st) := z_runS (inj := zV) hc hct hp hi hlk hrm hcs hst hcat d kk
theorem z_runSNi (hc : zCx p s m args meth c cc nL own D ca xa A lw) {o' : Option (Int32 × S)} {k : Int32 → S → Option (α × S)} (d : decode cc pc = .ok (.invokestatic idx, 3)) (hct : ∀ (b : Int32) (τ : S), o' = some (b, τ) → zCt l y cc2 nL2 ret2 rm2 D ca xa A lw As σ (zI b) τ) (hp : zMp y cc2 nL2 ret2 As.length) (hi : Cond.static y ∈ zlwg) (hlk : Cond.methodLinkNest own idx y host ∈ znest) (hrm : rm2.cells = 0 ∧ rm2.slots = 0 ∧ rm2.frames + 1 ≤ R.frames ∧ 8 + (nL2 + 11) + rm2.locals ≤ R.locals) (hcs : cells ≤ R.cells ∧ slots ≤ R.slots) (hst : st = As.reverse ++ rest) (hcat : (rest.map fun v => v.category).sum ≤ 8) (kk : ∀ (b : Int32) (τ : S), zGO p l e R s m args below meth c cells slots lw D A nL Qf (k b τ) τ (pc + 3) lv (.int b :: rest)) : zGO p l e R s m args below meth c cells slots lw D A nL Qf (zbnd o' k) σ (pc) lv (st) := z_runSN (inj := zI) hc hct hp hi hlk hrm hcs hst hcat d kk
theorem z_runSNl (hc : zCx p s m args meth c cc nL own D ca xa A lw) {o' : Option (Int64 × S)} {k : Int64 → S → Option (α × S)} (d : decode cc pc = .ok (.invokestatic idx, 3)) (hct : ∀ (b : Int64) (τ : S), o' = some (b, τ) → zCt l y cc2 nL2 ret2 rm2 D ca xa A lw As σ (zL b) τ) (hp : zMp y cc2 nL2 ret2 As.length) (hi : Cond.static y ∈ zlwg) (hlk : Cond.methodLinkNest own idx y host ∈ znest) (hrm : rm2.cells = 0 ∧ rm2.slots = 0 ∧ rm2.frames + 1 ≤ R.frames ∧ 8 + (nL2 + 11) + rm2.locals ≤ R.locals) (hcs : cells ≤ R.cells ∧ slots ≤ R.slots) (hst : st = As.reverse ++ rest) (hcat : (rest.map fun v => v.category).sum ≤ 8) (kk : ∀ (b : Int64) (τ : S), zGO p l e R s m args below meth c cells slots lw D A nL Qf (k b τ) τ (pc + 3) lv (.long b :: rest)) : zGO p l e R s m args below meth c cells slots lw D A nL Qf (zbnd o' k) σ (pc) lv (st) := z_runSN (inj := zL) hc hct hp hi hlk hrm hcs hst hcat d kk
theorem z_runSNv (hc : zCx p s m args meth c cc nL own D ca xa A lw) {o' : Option (Unit × S)} {k : Unit → S → Option (α × S)} (d : decode cc pc = .ok (.invokestatic idx, 3)) (hct : ∀ (b : Unit) (τ : S), o' = some (b, τ) → zCt l y cc2 nL2 ret2 rm2 D ca xa A lw As σ (zV b) τ) (hp : zMp y cc2 nL2 ret2 As.length) (hi : Cond.static y ∈ zlwg) (hlk : Cond.methodLinkNest own idx y host ∈ znest) (hrm : rm2.cells = 0 ∧ rm2.slots = 0 ∧ rm2.frames + 1 ≤ R.frames ∧ 8 + (nL2 + 11) + rm2.locals ≤ R.locals) (hcs : cells ≤ R.cells ∧ slots ≤ R.slots) (hst : st = As.reverse ++ rest) (hcat : (rest.map fun v => v.category).sum ≤ 8) (kk : ∀ (b : Unit) (τ : S), zGO p l e R s m args below meth c cells slots lw D A nL Qf (k b τ) τ (pc + 3) lv (rest)) : zGO p l e R s m args below meth c cells slots lw D A nL Qf (zbnd o' k) σ (pc) lv (st) := z_runSN (inj := zV) hc hct hp hi hlk hrm hcs hst hcat d kk
end zCalls
/-- String constant w -/
def zstr {β : Type} (w : Nat) (o : Option β) : Option β := if w < 8 then o else none
def zstrAt {β : Type} (w : Nat) (i : Int32) (k : Int32 → Option β) : Option β := @ite _ (w < 8 ∧ zin i (zSlen.getD w 0)) (@instDecidableAnd _ _ _ (zinD _ _)) (k ((zSbyt.getD w []).getD i.toNatClampNeg 0)) none
section zStr
variable {wi : Nat}
theorem zexZ0 (hc : zCx p s m args meth c cc nL own D ca xa A lw) : va_Z "SafeNet$Weights" "WORLDS_WITH" "[I" (.ref (xa 0)) A s s.heap := hc.2.2.2.2.2.2.2.2.2.2.1.1
theorem zexT0 (hc : zCx p s m args meth c cc nL own D ca xa A lw) : va_T .int (xa 0) 3 (fun j => .int (zTW j)) A s s.heap := hc.2.2.2.2.2.2.2.2.2.2.1.2
theorem zexZ1 (hc : zCx p s m args meth c cc nL own D ca xa A lw) : va_Z "SafeNet$Net" "DOUBTS_BY_FORM" "[I" (.ref (xa 1)) A s s.heap := hc.2.2.2.2.2.2.2.2.2.2.2.1.1
theorem zexT1 (hc : zCx p s m args meth c cc nL own D ca xa A lw) : va_T .int (xa 1) 4 (fun j => .int (zTD j)) A s s.heap := hc.2.2.2.2.2.2.2.2.2.2.2.1.2
theorem zexZ2 (hc : zCx p s m args meth c cc nL own D ca xa A lw) : va_Z "SafeNet$Net" "KINDS_ABOVE" "[I" (.ref (xa 2)) A s s.heap := hc.2.2.2.2.2.2.2.2.2.2.2.2.1.1
theorem zexT2 (hc : zCx p s m args meth c cc nL own D ca xa A lw) : va_T .int (xa 2) 6 (fun j => .int (zTK j)) A s s.heap := hc.2.2.2.2.2.2.2.2.2.2.2.2.1.2
theorem zexS (hc : zCx p s m args meth c cc nL own D ca xa A lw) : vk_S 8 zSlen zSbyt (fun i => xa (10 + i)) (fun i => xa (20 + i)) A s s.heap := hc.2.2.2.2.2.2.2.2.2.2.2.2.2.2.1
theorem z_ldcS (hc : zCx p s m args meth c cc nL "SafeNet$Text" D ca xa A lw) {n i : Nat} (d : decode cc pc = .ok (.ldc n, 2)) (hi : i < 8) (hn : zSpool i = n) (k : zGO p l e R s m args below meth c cells slots lw D A nL Qf o σ (pc + 2) lv (.ref (xa (10 + i)) :: st)) : zGO p l e R s m args below meth c cells slots lw D A nL Qf o σ (pc) lv (st) := z_lift k (fun hl kk => va_ldcS hc.1 hc.2.1 hc.2.2.2.1 (hc.2.2.2.2.2.2.2.2.2.2.2.2.2.2.2 i hi) (by rw [hn]; exact d) (kk _ hl))
theorem z_strV (hc : zCx p s m args meth c cc nL own D ca xa A lw) {n : Nat} (hlk : Cond.fieldLink own n "java/lang/String" "value" "[B" ∈ zlwg) (d : decode cc pc = .ok (.getfield n, 3)) (k : zGO p l e R s m args below meth c cells slots lw D A nL Qf o σ (pc + 3) lv (.ref (xa (20 + wi)) :: st)) : zGO p l e R s m args below meth c cells slots lw D A nL Qf (zstr wi o) σ (pc) lv (.ref (xa (10 + wi)) :: st) := by
  unfold zstr
  refine z_ite (fun q => ?_) (fun _ => z_none)
  intro a τ h H locs ls hP hS hl
  exact vk_getf hc.1 hc.2.1 ((zexS hc).1 wi q).2.2.1 hS hc.2.2.2.1 (hc.2.2.2.2.1 _ hlk) (fun _ h9 => h9) d (k a τ h H locs ls hP hS hl)
theorem z_strC (hc : zCx p s m args meth c cc nL own D ca xa A lw) {n : Nat} (hlk : Cond.fieldLink own n "java/lang/String" "coder" "B" ∈ zlwg) (d : decode cc pc = .ok (.getfield n, 3)) (k : zGO p l e R s m args below meth c cells slots lw D A nL Qf o σ (pc + 3) lv (.int 0 :: st)) : zGO p l e R s m args below meth c cells slots lw D A nL Qf (zstr wi o) σ (pc) lv (.ref (xa (10 + wi)) :: st) := by
  unfold zstr
  refine z_ite (fun q => ?_) (fun _ => z_none)
  intro a τ h H locs ls hP hS hl
  exact vk_getf hc.1 hc.2.1 ((zexS hc).1 wi q).2.1 hS hc.2.2.2.1 (hc.2.2.2.2.1 _ hlk) (fun _ h9 => h9) d (k a τ h H locs ls hP hS hl)
theorem z_strLen (hc : zCx p s m args meth c cc nL own D ca xa A lw) (d : decode cc pc = .ok (.arraylength, 1)) (k : zGO p l e R s m args below meth c cells slots lw D A nL Qf o σ (pc + 1) lv (.int (Int32.ofNat (zSlen.getD wi 0)) :: st)) : zGO p l e R s m args below meth c cells slots lw D A nL Qf (zstr wi o) σ (pc) lv (.ref (xa (20 + wi)) :: st) := by
  unfold zstr
  refine z_ite (fun q => ?_) (fun _ => z_none)
  intro a τ h H locs ls hP hS hl
  obtain ⟨cell, h1, h2, h3, h4, h5, h6, h7⟩ := (((zexS hc).1 wi q).2.2.2).kept hS.2.1
  exact W.alen hc.1 hc.2.1 h1 h2 h5 rfl rfl d (k a τ h H locs ls hP hS hl)
theorem z_strAt (hc : zCx p s m args meth c cc nL own D ca xa A lw) {i : Int32} {kf : Int32 → Option (α × S)} (d : decode cc pc = .ok (.baload, 1)) (k : ∀ x : Int32, zGO p l e R s m args below meth c cells slots lw D A nL Qf (kf x) σ (pc + 1) lv (.int x :: st)) : zGO p l e R s m args below meth c cells slots lw D A nL Qf (zstrAt wi i kf) σ (pc) lv (.int i :: .ref (xa (20 + wi)) :: st) := by
  unfold zstrAt
  refine z_ite (fun q => ?_) (fun _ => z_none)
  intro a τ h H locs ls hP hS hl
  obtain ⟨cell, h1, h2, h3, h4, h5, h6, h7⟩ := (((zexS hc).1 wi q.1).2.2.2).kept hS.2.1
  exact W.bald hc.1 hc.2.1 h1 h2 h3 (fun z => (zin_vp q.2) (z.elim Or.inl (fun y => Or.inr (Nat.le_trans h4 y)))) (h6 _ q.2.2) rfl rfl d (k _ a τ h H locs ls hP hS hl)
theorem z_compact (hc : zCx p s m args meth c cc nL own D ca xa A lw) {n : Nat} (hlk : Cond.fieldLink own n "java/lang/String" "COMPACT_STRINGS" "Z" ∈ zlwg) (d : decode cc pc = .ok (.getstatic n, 3)) (k : zGO p l e R s m args below meth c cells slots lw D A nL Qf o σ (pc + 3) lv (.int 1 :: st)) : zGO p l e R s m args below meth c cells slots lw D A nL Qf o σ (pc) lv (st) :=
  fun a τ h H locs ls hP hS hl => va_gets hc.1 hc.2.1 hc.2.2.2.2.2.2.2.2.2.2.2.2.2.1.1 hS hc.2.2.2.1 (hc.2.2.2.2.1 _ hlk) (fun _ h9 => h9) d (k a τ h H locs ls hP hS hl)
theorem z_fmt (hc : zCx p s m args meth c cc nL own D ca xa A lw) {n : Nat} (hlk : Cond.fieldLink own n "jdk/internal/util/Preconditions" "SIOOBE_FORMATTER" "Ljava/util/function/BiFunction;" ∈ zlwg) (d : decode cc pc = .ok (.getstatic n, 3)) (k : ∀ u : Option Nat, zGO p l e R s m args below meth c cells slots lw D A nL Qf o σ (pc + 3) lv (va_rf u :: st)) : zGO p l e R s m args below meth c cells slots lw D A nL Qf o σ (pc) lv (st) := by
  intro a τ h H locs ls hP hS hl
  rcases hc.2.2.2.2.2.2.2.2.2.2.2.2.2.1.2 with hz | ⟨t, hz⟩
  · exact va_gets hc.1 hc.2.1 hz hS hc.2.2.2.1 (hc.2.2.2.2.1 _ hlk) (fun _ h9 => h9) d (k none a τ h H locs ls hP hS hl)
  · exact va_gets hc.1 hc.2.1 hz hS hc.2.2.2.1 (hc.2.2.2.2.1 _ hlk) (fun _ h9 => h9) d (k (some t) a τ h H locs ls hP hS hl)
/-- a call on String constant w -/
theorem z_runStr (hc : zCx p s m args meth c cc nL own D ca xa A lw) {β : Type} {inj : β → Option Value} {o' : Option (β × S)} {k : β → S → Option (α × S)} {rest : List Value} {y : MethodName} {cc2 : ByteArray} {nL2 idx : Nat} {ret2 : Option FieldType} {rm2 : Room} {As : List Value} (d : decode cc pc = .ok (.invokevirtual idx, 3)) (hw : o' ≠ none → wi < 8) (hct : ∀ (b : β) (τ : S), o' = some (b, τ) → zCt l y cc2 nL2 ret2 rm2 D ca xa A lw (.ref (xa (10 + wi)) :: As) σ (inj b) τ) (hy : y.cls = "java/lang/String") (hp : zMp y cc2 nL2 ret2 As.length) (hi : Cond.instanceMethod y ∈ zlwg ∧ Cond.selects y.cls y y ∈ zlwg) (hlk : Cond.methodLink own idx y ∈ zlwg) (hrm : rm2.cells = 0 ∧ rm2.slots = 0 ∧ rm2.frames + 1 ≤ R.frames ∧ 8 + (nL2 + 11) + rm2.locals ≤ R.locals) (hcs : cells ≤ R.cells ∧ slots ≤ R.slots)
    (hst : st = As.reverse ++ .ref (xa (10 + wi)) :: rest) (hcat : (rest.map fun v => v.category).sum ≤ 8)
    (kk : ∀ (b : β) (τ : S), zGO p l e R s m args below meth c cells slots lw D A nL Qf (k b τ) τ (pc + 3) lv ((inj b).toList ++ rest)) : zGO p l e R s m args below meth c cells slots lw D A nL Qf (zbnd o' k) σ (pc) lv (st) := by
  refine z_run (inj := inj) (rest := rest) (av := (Value.ref (xa (10 + wi)) :: As).toArray) (fun b τ ho H locs ls hP hS hl => ?_) kk
  subst hst
  have hr := vk_recv (zexS hc) (hw (by rw [ho]; exact fun q => by cases q)) hS
  rw [← hy] at hr
  exact va_runV (As := As) (rest := rest) ⟨hc.1, hc.2.1, hc.2.2.1, hc.2.2.2.1, hc.2.2.2.2.1⟩ (hct b τ ho) (cwV As.length hc.2.2.2.2.1 (zG3 hp (fun w hw => by
      simp only [List.mem_cons, List.not_mem_nil, or_false] at hw
      rcases hw with rfl | rfl | rfl | rfl
      · exact hlk
      · exact hi.1
      · exact hi.2
      · exact hp.2.1)) rfl hrm.1 hrm.2.1 ⟨rfl, hp.2.2⟩ hrm.2.2) ⟨zPre.blind, hr, fun U hU hW => ⟨rfl, zPre.at hc hP hS U hU hW⟩⟩ rfl rfl hl.1 rfl (lv_room hcat) d hcs
theorem z_runStri (hc : zCx p s m args meth c cc nL own D ca xa A lw) {o' : Option (Int32 × S)} {k : Int32 → S → Option (α × S)} {rest : List Value} {y : MethodName} {cc2 : ByteArray} {nL2 idx : Nat} {ret2 : Option FieldType} {rm2 : Room} {As : List Value} (d : decode cc pc = .ok (.invokevirtual idx, 3)) (hw : o' ≠ none → wi < 8) (hct : ∀ (b : Int32) (τ : S), o' = some (b, τ) → zCt l y cc2 nL2 ret2 rm2 D ca xa A lw (.ref (xa (10 + wi)) :: As) σ (zI b) τ) (hy : y.cls = "java/lang/String") (hp : zMp y cc2 nL2 ret2 As.length) (hi : Cond.instanceMethod y ∈ zlwg ∧ Cond.selects y.cls y y ∈ zlwg) (hlk : Cond.methodLink own idx y ∈ zlwg) (hrm : rm2.cells = 0 ∧ rm2.slots = 0 ∧ rm2.frames + 1 ≤ R.frames ∧ 8 + (nL2 + 11) + rm2.locals ≤ R.locals) (hcs : cells ≤ R.cells ∧ slots ≤ R.slots)
    (hst : st = As.reverse ++ .ref (xa (10 + wi)) :: rest) (hcat : (rest.map fun v => v.category).sum ≤ 8)
    (kk : ∀ (b : Int32) (τ : S), zGO p l e R s m args below meth c cells slots lw D A nL Qf (k b τ) τ (pc + 3) lv (.int b :: rest)) : zGO p l e R s m args below meth c cells slots lw D A nL Qf (zbnd o' k) σ (pc) lv (st) := z_runStr (inj := zI) hc d hw hct hy hp hi hlk hrm hcs hst hcat kk
theorem z_guard (k : zGO p l e R s m args below meth c cells slots lw D A nL Qf o σ (pc) lv (st)) : zGO p l e R s m args below meth c cells slots lw D A nL Qf (zstr wi o) σ (pc) lv (st) := by
  unfold zstr
  exact z_ite (fun _ => k) (fun _ => z_none)
end zStr
/-- an answer of a small kind -/
def zrn {S : Type} (ty : FieldType) (v : Int32) (σ : S) : Option (Int32 × S) := if narrow ty (.int v) = .int v then some (v, σ) else none
theorem z_nret {ty : FieldType} (hc : zCx p s m args meth c cc nL own D ca xa A lw) (hr : meth.sig.returnType = some ty) {v : Int32} (d : decode cc pc = .ok (.ireturn, 1)) : zGO p l e R s m args below meth c 0 0 lw D A nL (zQ below D A lw args s zI) (zrn ty v σ) σ pc lv [.int v] := by
  unfold zrn
  refine z_ite (fun q => ?_) (fun _ => z_none)
  intro a τ h H locs ls hP hS hl
  cases h
  have hlocks : meth.locks = false := hc.2.2.2.2.2.1
  exact W.zret hc.1 hc.2.1 hr q (fun t ht hW => ⟨⟨rfl, by rw [ht]; exact hP⟩, hS.F ht⟩) hS.2.2 d
end zC
