/-! ===== the pieces of the functions, at numbers that are known ===== -/
theorem zin_nI {k n : Nat} (hk : k < n) (hn : n < 2 ^ 31) : zin (nI k) n := ⟨nI_pos' (by omega), by rw [nI_clamp (by omega)]; exact hk⟩
theorem zag_nI {β : Type} {σ : zSt} {c n k : Nat} {f : Int32 → Option β} (hk : k < n) (hn : n < 2 ^ 31) : zag σ c n (nI k) f = f (σ.1 c k) := by
  unfold zag
  rw [if_pos (zin_nI hk hn), nI_clamp (by omega)]
theorem zas_nI {β : Type} {σ : zSt} {c n k : Nat} {v : Int32} {f : zSt → Option β} (hk : k < n) (hn : n < 2 ^ 31) : zas σ c n (nI k) v f = f (zsi σ c k v) := by
  unfold zas
  rw [if_pos (zin_nI hk hn), nI_clamp (by omega)]
theorem zagL_nI {β : Type} {σ : zSt} {c n k : Nat} {f : Int64 → Option β} (hk : k < n) (hn : n < 2 ^ 31) : zagL σ c n (nI k) f = f (σ.2 c k) := by
  unfold zagL
  rw [if_pos (zin_nI hk hn), nI_clamp (by omega)]
theorem zasL_nI {β : Type} {σ : zSt} {c n k : Nat} {v : Int64} {f : zSt → Option β} (hk : k < n) (hn : n < 2 ^ 31) : zasL σ c n (nI k) v f = f (zsl σ c k v) := by
  unfold zasL
  rw [if_pos (zin_nI hk hn), nI_clamp (by omega)]
theorem zrow_nI {β : Type} {n k : Nat} {f : Nat → Option β} (hk : k < n) (hn : n < 2 ^ 31) : zrow n (nI k) f = f k := by
  unfold zrow
  rw [if_pos (zin_nI hk hn), nI_clamp (by omega)]
theorem ztab_nI {β : Type} {g : Nat → Int32} {n k : Nat} {f : Int32 → Option β} (hk : k < n) (hn : n < 2 ^ 31) : ztab g n (nI k) f = f (g k) := by
  unfold ztab
  rw [if_pos (zin_nI hk hn), nI_clamp (by omega)]
theorem zbnd_some {α β S : Type} {a : α} {τ : S} {k : α → S → Option β} : zbnd (some (a, τ)) k = k a τ := rfl
theorem znm_eq {α β : Type} {x : α} {k : α → β} : znm x k = k x := rfl
theorem zpf_eq {β : Type} {σ : zSt} {c j : Nat} {v : Int32} {k : zSt → β} : zpf σ c j v k = k (zsi σ c j v) := rfl
theorem zpfL_eq {β : Type} {σ : zSt} {c j : Nat} {v : Int64} {k : zSt → β} : zpfL σ c j v k = k (zsl σ c j v) := rfl
theorem zrz_0 {S : Type} {σ : S} : zrz 0 σ = some (0, σ) := by unfold zrz; rw [if_pos (Or.inl rfl)]
theorem zrz_1 {S : Type} {σ : S} : zrz 1 σ = some (1, σ) := by unfold zrz; rw [if_pos (Or.inr rfl)]
/-! stores -/
theorem zsi_1 {σ : zSt} {k i a b : Nat} {v : Int32} : (zsi σ k i v).1 a b = if a = k ∧ b = i then v else σ.1 a b := by
  show (if a = k then upd (σ.1 a) i v else σ.1 a) b = _
  by_cases h : a = k
  · rw [if_pos h]
    show (if b = i then v else σ.1 a b) = _
    by_cases h2 : b = i
    · rw [if_pos h2, if_pos ⟨h, h2⟩]
    · rw [if_neg h2, if_neg (fun q => h2 q.2)]
  · rw [if_neg h, if_neg (fun q => h q.1)]
theorem zsi_2 {σ : zSt} {k i : Nat} {v : Int32} : (zsi σ k i v).2 = σ.2 := rfl
theorem zsl_1 {σ : zSt} {k i : Nat} {v : Int64} : (zsl σ k i v).1 = σ.1 := rfl
theorem zsl_2 {σ : zSt} {k i a b : Nat} {v : Int64} : (zsl σ k i v).2 a b = if a = k ∧ b = i then v else σ.2 a b := by
  show (if a = k then vp_updL (σ.2 a) i v else σ.2 a) b = _
  by_cases h : a = k
  · rw [if_pos h]
    show (if b = i then v else σ.2 a b) = _
    by_cases h2 : b = i
    · rw [if_pos h2, if_pos ⟨h, h2⟩]
    · rw [if_neg h2, if_neg (fun q => h2 q.2)]
  · rw [if_neg h, if_neg (fun q => h q.1)]
theorem zsi_c {σ : zSt} {k i a : Nat} {v : Int32} (h : a ≠ k) : (zsi σ k i v).1 a = σ.1 a := if_neg h
theorem zsl_c {σ : zSt} {k i a : Nat} {v : Int64} (h : a ≠ k) : (zsl σ k i v).2 a = σ.2 a := if_neg h
theorem zsi_s {σ : zSt} {k i : Nat} {v : Int32} : (zsi σ k i v).1 k i = v := by rw [zsi_1, if_pos ⟨rfl, rfl⟩]
theorem zsi_o {σ : zSt} {k i b : Nat} {v : Int32} (h : b ≠ i) : (zsi σ k i v).1 k b = σ.1 k b := by rw [zsi_1, if_neg (fun q => h q.2)]
theorem zsl_s {σ : zSt} {k i : Nat} {v : Int64} : (zsl σ k i v).2 k i = v := by rw [zsl_2, if_pos ⟨rfl, rfl⟩]
theorem zsl_o {σ : zSt} {k i b : Nat} {v : Int64} (h : b ≠ i) : (zsl σ k i v).2 k b = σ.2 k b := by rw [zsl_2, if_neg (fun q => h q.2)]
/-! whole numbers in longs -/
def iL (x : Int) : Int64 := Int64.ofInt x
theorem iL_add (a b : Int) : iL a + iL b = iL (a + b) := (Int64.ofInt_add a b).symm
theorem iL_sub (a b : Int) : iL a - iL b = iL (a - b) := (Int64.ofInt_sub a b).symm
theorem iL_mul (a b : Int) : iL a * iL b = iL (a * b) := (Int64.ofInt_mul a b).symm
theorem iL_neg (a : Int) : -(iL a) = iL (-a) := (Int64.ofInt_neg a).symm
def zB62 : Int := 4611686018427387904
theorem iL_toInt {a : Int} (h1 : -zB62 < a) (h2 : a < zB62) : (iL a).toInt = a := by
  unfold zB62 at h1 h2
  exact Int64.toInt_ofInt_of_le (by omega) (by omega)
theorem iL_lt {a b : Int} (ha : -zB62 < a ∧ a < zB62) (hb : -zB62 < b ∧ b < zB62) : iL a < iL b ↔ a < b := by
  rw [Int64.lt_iff_toInt_lt, iL_toInt ha.1 ha.2, iL_toInt hb.1 hb.2]
theorem iL_le {a b : Int} (ha : -zB62 < a ∧ a < zB62) (hb : -zB62 < b ∧ b < zB62) : iL a ≤ iL b ↔ a ≤ b := by
  rw [Int64.le_iff_toInt_le, iL_toInt ha.1 ha.2, iL_toInt hb.1 hb.2]
theorem iL_eq {a b : Int} (ha : -zB62 < a ∧ a < zB62) (hb : -zB62 < b ∧ b < zB62) : iL a = iL b ↔ a = b := by
  rw [← Int64.toInt_inj, iL_toInt ha.1 ha.2, iL_toInt hb.1 hb.2]
theorem iL_div {a b : Int} (ha : -zB62 < a ∧ a < zB62) (hb : -zB62 < b ∧ b < zB62) : iL a / iL b = iL (a.tdiv b) := by
  have hm : iL a ≠ Int64.minValue := fun q => by
    have h1 := iL_toInt ha.1 ha.2
    rw [q] at h1
    have h2 : Int64.minValue.toInt = -9223372036854775808 := by decide
    unfold zB62 at ha
    omega
  rw [← Int64.toInt_inj, Int64.toInt_div_of_ne_left _ _ hm, iL_toInt ha.1 ha.2, iL_toInt hb.1 hb.2]
  have h1 : (a.tdiv b).natAbs ≤ a.natAbs := by rw [Int.natAbs_tdiv]; exact Nat.div_le_self _ _
  rw [iL_toInt] <;> unfold zB62 at * <;> omega
theorem iL_0 : iL 0 = 0 := rfl
theorem iL_1 : iL 1 = 1 := rfl
theorem iL_nat (n : Nat) : iL (n : Int) = lN n := rfl
/-! whole numbers in ints -/
def iI (x : Int) : Int32 := Int32.ofInt x
theorem iI_nat (n : Nat) : iI (n : Int) = nI n := rfl
theorem iI_toInt {a : Int} (h1 : -2147483648 ≤ a) (h2 : a < 2147483648) : (iI a).toInt = a := Int32.toInt_ofInt_of_le (by omega) (by omega)
theorem iI_add (a b : Int) : iI a + iI b = iI (a + b) := (Int32.ofInt_add a b).symm
theorem iI_mul (a b : Int) : iI a * iI b = iI (a * b) := (Int32.ofInt_mul a b).symm
theorem iI_neg (a : Int) : -(iI a) = iI (-a) := (Int32.ofInt_neg a).symm
theorem iI_sub (a b : Int) : iI a - iI b = iI (a - b) := (Int32.ofInt_sub a b).symm
theorem iI_lt {a b : Int} (ha : -2147483648 ≤ a ∧ a < 2147483648) (hb : -2147483648 ≤ b ∧ b < 2147483648) : iI a < iI b ↔ a < b := by
  rw [Int32.lt_iff_toInt_lt, iI_toInt ha.1 ha.2, iI_toInt hb.1 hb.2]
theorem iI_le {a b : Int} (ha : -2147483648 ≤ a ∧ a < 2147483648) (hb : -2147483648 ≤ b ∧ b < 2147483648) : iI a ≤ iI b ↔ a ≤ b := by
  rw [Int32.le_iff_toInt_le, iI_toInt ha.1 ha.2, iI_toInt hb.1 hb.2]
theorem iI_eq {a b : Int} (ha : -2147483648 ≤ a ∧ a < 2147483648) (hb : -2147483648 ≤ b ∧ b < 2147483648) : iI a = iI b ↔ a = b := by
  rw [← Int32.toInt_inj, iI_toInt ha.1 ha.2, iI_toInt hb.1 hb.2]
theorem iI_L {a : Int} (h1 : -2147483648 ≤ a) (h2 : a < 2147483648) : (iI a).toInt64 = iL a := by
  rw [← Int64.toInt_inj, Int32.toInt_toInt64, iI_toInt h1 h2, iL_toInt] <;> unfold zB62 <;> omega
/-- a literal is its number -/
theorem nI_lit (n : Nat) : (OfNat.ofNat n : Int32) = nI n := rfl
/-! bits -/
theorem zbit {x k : Nat} (hx : x < 2 ^ 31) (hk : k < 31) : (nI x >>> (nI k &&& 31)) &&& 1 = nI (if x.testBit k then 1 else 0) := by
  have h31 : (nI k &&& (31 : Int32)) = nI k := by
    rw [show (31 : Int32) = nI (2 ^ 5 - 1) from rfl, fa_mask]
    rw [Nat.mod_eq_of_lt (by omega)]
  have h32 : ((nI k).toBitVec.smod 32).toNat = k := by
    have : ∀ k, k < 31 → ((nI k).toBitVec.smod 32).toNat = k := by decide +kernel
    exact this k hk
  rw [h31, pk_shrN hx _ k h32, show (1 : Int32) = nI (2 ^ 1 - 1) from rfl, fa_mask]
  congr 1
  rw [Nat.testBit_eq_decide_div_mod_eq]
  by_cases h : x / 2 ^ k % 2 = 1
  · rw [decide_eq_true h, if_pos rfl]; omega
  · rw [decide_eq_false h, if_neg (by decide)]; omega
theorem zshl1 {k : Nat} (hk : k < 31) : (1 : Int32) <<< (nI k &&& 31) = nI (2 ^ k) := by
  have : ∀ k, k < 31 → (1 : Int32) <<< (nI k &&& 31) = nI (2 ^ k) := by decide +kernel
  exact this k hk
theorem fX7_bitAt_eq {N x k : Nat} {σ : zSt} (hx : x < 2 ^ 31) (hk : k < 31) : fX7_bitAt N (nI x) (nI k) σ = some (nI (if x.testBit k then 1 else 0), σ) := by
  unfold fX7_bitAt
  rw [zbit hx hk]
theorem Bool_le_of_lt {a b : Int32} : ¬ a ≤ b ↔ b < a := Int32.not_le
