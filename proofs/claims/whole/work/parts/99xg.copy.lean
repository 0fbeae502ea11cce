/-! ===== copy ===== -/
theorem zplaces2 {N s n : Nat} {x y : Int32} (hs : s < 8) (hn : n ≤ 40) : (∃ k m, k + m ≤ n ∧ x = nI k ∧ y = nI m ∧ ∀ σ : zSt, σ.1 4 s = nI n → fX3_hasPlaces N (nI s) x y σ = some (1, σ)) ∨ ((x < 0 ∨ y < 0 ∨ ∃ k m, k < 2 ^ 31 ∧ m < 2 ^ 31 ∧ x = nI k ∧ y = nI m ∧ n < k + m) ∧ ∀ σ : zSt, σ.1 4 s = nI n → fX3_hasPlaces N (nI s) x y σ = some (0, σ)) := by
  unfold fX3_hasPlaces
  by_cases q : x < 0
  · exact Or.inr ⟨Or.inl q, fun σ _ => by rw [if_pos q]; exact zrz_0⟩
  · by_cases q' : y < 0
    · exact Or.inr ⟨Or.inr (Or.inl q'), fun σ _ => by rw [if_neg q, if_pos q']; exact zrz_0⟩
    · obtain ⟨k, hk, ek⟩ := nI_of q
      obtain ⟨m, hm, em⟩ := nI_of q'
      have key : ∀ σ : zSt, σ.1 4 s = nI n → (if x < 0 then zrz (0 : Int32) σ else if y < 0 then zrz (0 : Int32) σ else zag σ 4 8 (nI s) (fun (v1 : Int32) => if (v1 - x) < y then zrz (0 : Int32) σ else zrz (1 : Int32) σ)) = if n < k + m then zrz (0 : Int32) σ else zrz (1 : Int32) σ := by
        intro σ h4
        rw [if_neg q, if_neg q', zag_nI (by omega) (by omega), h4, ek, em, ← iI_nat n, ← iI_nat k, iI_sub, ← iI_nat m]
        by_cases v : n < k + m
        · rw [if_pos ((iI_lt (by omega) (by omega)).mpr (by omega)), if_pos v]
        · rw [if_neg (fun z => v (by have := (iI_lt (by omega) (by omega)).mp z; omega)), if_neg v]
      by_cases v : n < k + m
      · exact Or.inr ⟨Or.inr (Or.inr ⟨k, m, hk, hm, ek, em, v⟩), fun σ h4 => by rw [key σ h4, if_pos v]; exact zrz_0⟩
      · exact Or.inl ⟨k, m, by omega, ek, em, fun σ h4 => by rw [key σ h4, if_neg v]; exact zrz_1⟩
theorem zmcopy_up {N p i q j n : Nat} {f : Nat → Int32} (hp : 40 * p + i + n ≤ 320) (hq : 40 * q + j + n ≤ 320) (hd : 40 * q + j ≤ 40 * p + i ∨ 40 * p + i + n ≤ 40 * q + j) : ∀ (g fu k : Nat) (σ : zSt), g < fu → k + g = n → (∀ z, σ.1 3 z = if 40 * q + j ≤ z ∧ z < 40 * q + j + k then f (40 * p + i + (z - (40 * q + j))) else f z) → ∃ τ, fX8_copy_143 N fu (nI p) (nI i) (nI q) (nI j) (nI n) 1 (nI k) σ = some (nI n, τ) ∧ (∀ c, c ≠ 3 → τ.1 c = σ.1 c) ∧ ∀ z, τ.1 3 z = if 40 * q + j ≤ z ∧ z < 40 * q + j + n then f (40 * p + i + (z - (40 * q + j))) else f z
  | 0, fu + 1, k, σ, _, hk, hf => by
    rw [fX8_copy_143, if_pos (nI_le (by omega) (by omega))]
    exact ⟨σ, rfl, fun _ _ => rfl, by rw [← show k = n by omega]; exact hf⟩
  | g + 1, fu + 1, k, σ, hfu, hk, hf => by
    rw [fX8_copy_143, if_neg (nI_ge (by omega) (by omega)), if_neg (by decide), fX8_copy_167, z40, z40, nI_add, nI_add, zag_nI (by omega) (by omega), zas_nI (by omega) (by omega), nI_1]
    have hv : σ.1 3 (40 * p + i + k) = f (40 * p + i + k) := by rw [hf, if_neg (by omega)]
    obtain ⟨τ, e, e1, e2⟩ := zmcopy_up (N := N) (f := f) hp hq hd g fu (k + 1) (zsi σ 3 (40 * q + j + k) (σ.1 3 (40 * p + i + k))) (by omega) (by omega) (fun z => by
      by_cases w : z = 40 * q + j + k
      · rw [w, zsi_s, hv, if_pos (by omega)]
        congr 1
        omega
      · rw [zsi_o w, hf z]
        by_cases w2 : 40 * q + j ≤ z ∧ z < 40 * q + j + k
        · rw [if_pos w2, if_pos (by omega)]
        · rw [if_neg w2, if_neg (by omega)])
    exact ⟨τ, e, fun c hc => (e1 c hc).trans (zsi_c hc), e2⟩
theorem zmcopy_down {N p i q j n : Nat} {f : Nat → Int32} (hp : 40 * p + i + n ≤ 320) (hq : 40 * q + j + n ≤ 320) (hd : 40 * p + i ≤ 40 * q + j ∨ 40 * q + j + n ≤ 40 * p + i) : ∀ (g fu k : Nat) (σ : zSt), g < fu → k + g = n → (∀ z, σ.1 3 z = if 40 * q + j + n ≤ z + k ∧ z < 40 * q + j + n then f (40 * p + i + (z - (40 * q + j))) else f z) → ∃ τ, fX8_copy_143 N fu (nI p) (nI i) (nI q) (nI j) (nI n) 0 (nI k) σ = some (nI n, τ) ∧ (∀ c, c ≠ 3 → τ.1 c = σ.1 c) ∧ ∀ z, τ.1 3 z = if 40 * q + j ≤ z ∧ z < 40 * q + j + n then f (40 * p + i + (z - (40 * q + j))) else f z
  | 0, fu + 1, k, σ, _, hk, hf => by
    rw [fX8_copy_143, if_pos (nI_le (by omega) (by omega))]
    refine ⟨σ, rfl, fun _ _ => rfl, fun z => ?_⟩
    rw [hf z]
    by_cases w : 40 * q + j ≤ z ∧ z < 40 * q + j + n
    · rw [if_pos w, if_pos (by omega)]
    · rw [if_neg w, if_neg (by omega)]
  | g + 1, fu + 1, k, σ, hfu, hk, hf => by
    have es : nI n - 1 - nI k = nI (n - 1 - k) := by
      rw [show n = (n - 1) + 1 by omega, nI_pred, ← iI_nat, ← iI_nat, ← iI_nat, iI_sub]
      congr 1
      omega
    rw [fX8_copy_143, if_neg (nI_ge (by omega) (by omega)), if_pos rfl, es, fX8_copy_167, z40, z40, nI_add, nI_add, zag_nI (by omega) (by omega), zas_nI (by omega) (by omega), nI_1]
    have hv : σ.1 3 (40 * p + i + (n - 1 - k)) = f (40 * p + i + (n - 1 - k)) := by rw [hf, if_neg (by omega)]
    obtain ⟨τ, e, e1, e2⟩ := zmcopy_down (N := N) (f := f) hp hq hd g fu (k + 1) (zsi σ 3 (40 * q + j + (n - 1 - k)) (σ.1 3 (40 * p + i + (n - 1 - k)))) (by omega) (by omega) (fun z => by
      by_cases w : z = 40 * q + j + (n - 1 - k)
      · rw [w, zsi_s, hv, if_pos (by omega)]
        congr 1
        omega
      · rw [zsi_o w, hf z]
        by_cases w2 : 40 * q + j + n ≤ z + k ∧ z < 40 * q + j + n
        · rw [if_pos w2, if_pos (by omega)]
        · rw [if_neg w2, if_neg (by omega)])
    exact ⟨τ, e, fun c hc => (e1 c hc).trans (zsi_c hc), e2⟩
