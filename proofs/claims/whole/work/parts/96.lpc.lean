/-! ===== the class's table ===== -/
theorem iL_nn {a : Int} (h1 : -zB62 < a) (h2 : a < zB62) : (0 : Int64) ≤ iL a ↔ 0 ≤ a := by
  rw [← iL_0]
  exact iL_le (by unfold zB62; omega) ⟨h1, h2⟩
def zTC (σ : zSt) (m n : Nat) (t : Nat → Nat → Int) (d : Int) (rn cn : Nat → Nat) : Prop :=
  σ.1 29 3 = nI m ∧ σ.1 29 4 = nI n ∧ σ.2 29 5 = iL d ∧ (∀ r, r < m → ∀ c, c ≤ n → σ.2 (35 + r) c = iL (t r c)) ∧ (∀ r, r < m → σ.1 31 r = nI (rn r)) ∧ (∀ c, c < n → σ.1 32 c = nI (cn c))
def zBd (m n : Nat) (t : Nat → Nat → Int) (d : Int) (rn cn : Nat → Nat) : Prop :=
  m ≤ 15 ∧ n ≤ 8 ∧ 0 < d ∧ d ≤ 40320 ∧ (∀ r, r < m → ∀ c, c ≤ n → -36288000 ≤ t r c ∧ t r c ≤ 36288000) ∧ (∀ r, r < m → ∀ c, c < n → -40320 ≤ t r c ∧ t r c ≤ 40320) ∧ (∀ r, r < m → rn r < 2 ^ 30) ∧ (∀ c, c < n → cn c < 2 ^ 30)
def zBR (n : Nat) (t : Nat → Nat → Int) (rn : Nat → Nat) (i : Nat) (b : Int32) : Prop :=
  (b = -1 ∧ ∀ r, 1 ≤ r → r < i → 0 ≤ t r n) ∨ ∃ k, b = nI k ∧ 1 ≤ k ∧ k < i ∧ t k n < 0 ∧ ∀ r, 1 ≤ r → r < i → t r n < 0 → rn k ≤ rn r
theorem zm1_lt : (-1 : Int32) < 0 := by decide
theorem zbroken_loop {N m n : Nat} {t : Nat → Nat → Int} {d : Int} {rn cn : Nat → Nat} {σ : zSt} (h : zTC σ m n t d rn cn) (hb : zBd m n t d rn cn) : ∀ (g f i : Nat) (b : Int32), g < f → i + g = m → 1 ≤ i → zBR n t rn i b → ∃ b', fX4_brokenRow_4 N f b (nI i) σ = some (b', σ) ∧ zBR n t rn m b'
  | 0, f + 1, i, b, _, hi, _, hB => by
    rw [fX4_brokenRow_4, h.1, if_pos (nI_le (by omega) (by have := hb.1; omega))]
    exact ⟨b, rfl, by rw [← hi]; exact hB⟩
  | g + 1, f + 1, i, b, hf, hi, h1, hB => by
    have hb' := hb
    obtain ⟨hm, hn, -, -, ht, -, hr, -⟩ := hb
    have hv := ht i (by omega) n (by omega)
    rw [fX4_brokenRow_4, h.1, if_neg (nI_ge (by omega) (by omega)), zrow_nI (by omega) (by omega), h.2.1, zagL_nI (by omega) (by omega), h.2.2.2.1 i (by omega) n (by omega)]
    by_cases hneg : 0 ≤ t i n
    · rw [if_pos ((iL_nn (by unfold zB62; omega) (by unfold zB62; omega)).mpr hneg), nI_1]
      refine zbroken_loop h hb' g f (i + 1) b (by omega) (by omega) (by omega) ?_
      rcases hB with ⟨e, ha⟩ | ⟨k, e, k1, k2, k3, ha⟩
      · exact Or.inl ⟨e, fun r r1 r2 => if q : r = i then by rw [q]; exact hneg else ha r r1 (by omega)⟩
      · exact Or.inr ⟨k, e, k1, by omega, k3, fun r r1 r2 r3 => if q : r = i then by rw [q] at r3; omega else ha r r1 (by omega) r3⟩
    · rw [if_neg (fun q => hneg ((iL_nn (by unfold zB62; omega) (by unfold zB62; omega)).mp q))]
      rcases hB with ⟨e, ha⟩ | ⟨k, e, k1, k2, k3, ha⟩
      · rw [e, if_pos zm1_lt, fX4_brokenRow_47, nI_1]
        exact zbroken_loop h hb' g f (i + 1) (nI i) (by omega) (by omega) (by omega) (Or.inr ⟨i, rfl, by omega, by omega, by omega, fun r r1 r2 r3 => if q : r = i then by rw [q]; exact Nat.le_refl _ else by have := ha r r1 (by omega); omega⟩)
      · have hk := hr k (by omega)
        have hi2 := hr i (by omega)
        rw [e, if_neg (nI_pos (by omega)), zag_nI (by omega) (by omega), zag_nI (by omega) (by omega), h.2.2.2.2.1 i (by omega), h.2.2.2.2.1 k (by omega)]
        by_cases hle : rn k ≤ rn i
        · rw [if_pos (nI_le hle (by omega)), nI_1]
          exact zbroken_loop h hb' g f (i + 1) (nI k) (by omega) (by omega) (by omega) (Or.inr ⟨k, rfl, k1, by omega, k3, fun r r1 r2 r3 => if q : r = i then by rw [q]; exact hle else ha r r1 (by omega) r3⟩)
        · rw [if_neg (nI_ge (by omega) (by omega)), fX4_brokenRow_47, nI_1]
          exact zbroken_loop h hb' g f (i + 1) (nI i) (by omega) (by omega) (by omega) (Or.inr ⟨i, rfl, by omega, by omega, by omega, fun r r1 r2 r3 => if q : r = i then by rw [q]; exact Nat.le_refl _ else by have := ha r r1 (by omega) r3; omega⟩)
theorem zbroken {N m n : Nat} {t : Nat → Nat → Int} {d : Int} {rn cn : Nat → Nat} {σ : zSt} (h : zTC σ m n t d rn cn) (hb : zBd m n t d rn cn) (hm : 1 ≤ m) (hN : 100 ≤ N) : ∃ b', fX4_brokenRow N σ = some (b', σ) ∧ zBR n t rn m b' :=
  zbroken_loop h hb (m - 1) N 1 (-1) (by have := hb.1; omega) (by omega) (by omega) (Or.inl ⟨rfl, fun r r1 r2 => by omega⟩)
/-! the column -/
def zMC (t : Nat → Nat → Int) (cn : Nat → Nat) (r i : Nat) (b : Int32) : Prop :=
  (b = -1 ∧ ∀ c, c < i → 0 ≤ t r c) ∨ ∃ k, b = nI k ∧ k < i ∧ t r k < 0 ∧ ∀ c, c < i → t r c < 0 → t 0 k * -(t r c) ≤ t 0 c * -(t r k) ∧ (t 0 k * -(t r c) = t 0 c * -(t r k) → cn k ≤ cn c)
theorem zsmul {a b : Int} (ha : -40320 ≤ a ∧ a ≤ 40320) (hb : -40320 ≤ b ∧ b ≤ 40320) : -zB62 < a * b ∧ a * b < zB62 := by
  have h1 : (a * b).natAbs ≤ 40320 * 40320 := by
    rw [Int.natAbs_mul]
    exact Nat.mul_le_mul (by omega) (by omega)
  unfold zB62
  omega
theorem zcheaper {N m n : Nat} {t : Nat → Nat → Int} {d : Int} {rn cn : Nat → Nat} {σ : zSt} (h : zTC σ m n t d rn cn) (hb : zBd m n t d rn cn) {r c k : Nat} (hr : r < m) (hc : c < n) (hk : k < n) :
    fX4_isCheaper N (nI r) (nI c) (nI k) σ = some (if t 0 c * -(t r k) < t 0 k * -(t r c) ∨ (t 0 c * -(t r k) = t 0 k * -(t r c) ∧ cn c < cn k) then 1 else 0, σ) := by
  obtain ⟨hm, hn, -, -, -, ht, -, hcn⟩ := hb
  have b1 := ht 0 (by omega) c hc
  have b2 := ht r hr k hk
  have b3 := ht 0 (by omega) k hk
  have b4 := ht r hr c hc
  have z0 : (0 : Int32) = nI 0 := rfl
  unfold fX4_isCheaper
  rw [z0, zrow_nI (by omega) (by omega), zagL_nI (by omega) (by omega), zrow_nI (by omega) (by omega), zagL_nI (by omega) (by omega), znm_eq, zrow_nI (by omega) (by omega), zagL_nI (by omega) (by omega), zrow_nI (by omega) (by omega), zagL_nI (by omega) (by omega), znm_eq]
  rw [h.2.2.2.1 0 (by omega) c (by omega), h.2.2.2.1 r hr k (by omega), h.2.2.2.1 0 (by omega) k (by omega), h.2.2.2.1 r hr c (by omega), iL_neg, iL_neg, iL_mul, iL_mul]
  have hx := zsmul (a := t 0 c) (b := -(t r k)) b1 (by omega)
  have hy := zsmul (a := t 0 k) (b := -(t r c)) b3 (by omega)
  by_cases q1 : t 0 c * -(t r k) < t 0 k * -(t r c)
  · rw [if_pos ((iL_lt hx hy).mpr q1), if_pos (Or.inl q1)]
    exact zrz_1
  · rw [if_neg (fun q => q1 ((iL_lt hx hy).mp q))]
    by_cases q2 : t 0 c * -(t r k) = t 0 k * -(t r c)
    · have c1 := hcn c hc
      have c2 := hcn k hk
      rw [if_pos ((iL_eq hx hy).mpr q2), zag_nI (by omega) (by omega), zag_nI (by omega) (by omega), h.2.2.2.2.2 c hc, h.2.2.2.2.2 k hk]
      by_cases q3 : cn c < cn k
      · rw [if_neg (nI_ge q3 (by omega)), if_pos (Or.inr ⟨q2, q3⟩)]
        exact zrz_1
      · rw [if_pos (nI_le (by omega) (by omega)), if_neg (by omega)]
        exact zrz_0
    · rw [if_neg (fun q => q2 ((iL_eq hx hy).mp q)), if_neg (by omega)]
      exact zrz_0
theorem zmending_loop {N m n r : Nat} {t : Nat → Nat → Int} {d : Int} {rn cn : Nat → Nat} {σ : zSt} (h : zTC σ m n t d rn cn) (hb : zBd m n t d rn cn) (hr : r < m) : ∀ (g f i : Nat) (b : Int32), g < f → i + g = n → zMC t cn r i b → ∃ b', fX4_mendingColumn_4 N f (nI r) b (nI i) σ = some (b', σ) ∧ zMC t cn r n b'
  | 0, f + 1, i, b, _, hi, hB => by
    rw [fX4_mendingColumn_4, h.2.1, if_pos (nI_le (by omega) (by have := hb.2.1; omega))]
    exact ⟨b, rfl, by rw [← hi]; exact hB⟩
  | g + 1, f + 1, i, b, hf, hi, hB => by
    have hb' := hb
    obtain ⟨hm, hn, -, -, ht, hts, -, -⟩ := hb
    have hv := ht r hr i (by omega)
    have hpos : ∀ {u v : Int}, u < 0 → v < 0 → 0 < -u ∧ 0 < -v := fun a b => ⟨by omega, by omega⟩
    rw [fX4_mendingColumn_4, h.2.1, if_neg (nI_ge (by omega) (by omega)), zrow_nI (by omega) (by omega), zagL_nI (by omega) (by omega), h.2.2.2.1 r hr i (by omega)]
    by_cases hneg : 0 ≤ t r i
    · rw [if_pos ((iL_nn (by unfold zB62; omega) (by unfold zB62; omega)).mpr hneg), nI_1]
      refine zmending_loop h hb' hr g f (i + 1) b (by omega) (by omega) ?_
      rcases hB with ⟨e, ha⟩ | ⟨k, e, k2, k3, ha⟩
      · exact Or.inl ⟨e, fun c c2 => if q : c = i then by rw [q]; exact hneg else ha c (by omega)⟩
      · exact Or.inr ⟨k, e, by omega, k3, fun c c2 c3 => if q : c = i then by rw [q] at c3; omega else ha c (by omega) c3⟩
    · rw [if_neg (fun q => hneg ((iL_nn (by unfold zB62; omega) (by unfold zB62; omega)).mp q))]
      rcases hB with ⟨e, ha⟩ | ⟨k, e, k2, k3, ha⟩
      · rw [e, if_pos zm1_lt, fX4_mendingColumn_39, nI_1]
        exact zmending_loop h hb' hr g f (i + 1) (nI i) (by omega) (by omega) (Or.inr ⟨i, rfl, by omega, by omega, fun c c2 c3 => if q : c = i then by rw [q]; exact ⟨Int.le_refl _, fun _ => Nat.le_refl _⟩ else by have := ha c (by omega); omega⟩)
      · rw [e, if_neg (nI_pos (by omega)), zcheaper h hb' hr (by omega) (by omega), zbnd_some]
        by_cases hch : t 0 i * -(t r k) < t 0 k * -(t r i) ∨ (t 0 i * -(t r k) = t 0 k * -(t r i) ∧ cn i < cn k)
        · rw [if_pos hch, if_neg (by decide), fX4_mendingColumn_39, nI_1]
          refine zmending_loop h hb' hr g f (i + 1) (nI i) (by omega) (by omega) (Or.inr ⟨i, rfl, by omega, by omega, fun c c2 c3 => ?_⟩)
          by_cases q : c = i
          · rw [q]; exact ⟨Int.le_refl _, fun _ => Nat.le_refl _⟩
          · obtain ⟨a1, a2⟩ := ha c (by omega) c3
            have p1 : 0 < -(t r i) := by omega
            have p2 : 0 < -(t r k) := by omega
            have p3 : 0 < -(t r c) := by omega
            have u1 : t 0 i * -(t r k) ≤ t 0 k * -(t r i) := by omega
            have u2 := zcr_trans p3 p2 p1 a1 u1
            refine ⟨u2, fun q4 => ?_⟩
            -- equal: all equal
            have e1 : t 0 i * -(t r c) * -(t r k) = t 0 c * -(t r i) * -(t r k) := by rw [q4]
            have l1 : t 0 i * -(t r k) * -(t r c) ≤ t 0 k * -(t r i) * -(t r c) := Int.mul_le_mul_of_nonneg_right u1 (by omega)
            have l2 : t 0 k * -(t r c) * -(t r i) ≤ t 0 c * -(t r k) * -(t r i) := Int.mul_le_mul_of_nonneg_right a1 (by omega)
            have s1 : t 0 i * -(t r c) * -(t r k) = t 0 i * -(t r k) * -(t r c) := by grind
            have s2 : t 0 c * -(t r i) * -(t r k) = t 0 c * -(t r k) * -(t r i) := by grind
            have s3 : t 0 k * -(t r i) * -(t r c) = t 0 k * -(t r c) * -(t r i) := by grind
            have f1 : t 0 k * -(t r c) * -(t r i) = t 0 c * -(t r k) * -(t r i) := by omega
            have f2 : t 0 i * -(t r k) * -(t r c) = t 0 k * -(t r i) * -(t r c) := by omega
            have g1 := a2 (Int.eq_of_mul_eq_mul_right (by omega) f1)
            have g2 := Int.eq_of_mul_eq_mul_right (by omega) f2
            have : cn i < cn k := by omega
            omega
        · rw [if_neg hch, if_pos rfl, nI_1]
          refine zmending_loop h hb' hr g f (i + 1) (nI k) (by omega) (by omega) (Or.inr ⟨k, rfl, by omega, k3, fun c c2 c3 => ?_⟩)
          by_cases q : c = i
          · rw [q]; exact ⟨by omega, fun _ => by omega⟩
          · exact ha c (by omega) c3
theorem zmending {N m n r : Nat} {t : Nat → Nat → Int} {d : Int} {rn cn : Nat → Nat} {σ : zSt} (h : zTC σ m n t d rn cn) (hb : zBd m n t d rn cn) (hr : r < m) (hN : 100 ≤ N) : ∃ b', fX4_mendingColumn N (nI r) σ = some (b', σ) ∧ zMC t cn r n b' :=
  zmending_loop h hb hr n N 0 (-1) (by have := hb.2.1; omega) (by omega) (Or.inl ⟨rfl, fun c c2 => by omega⟩)
