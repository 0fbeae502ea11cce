/-! ===== pairs of calls: weigh, pair, unweigh ===== -/
theorem zspan2 {N : Nat} (x y : Int32) : (∃ l h, l ≤ h ∧ h ≤ 100 ∧ x = nI l ∧ y = nI h ∧ (∀ σ, fX7_isSpan N x y σ = some (1, σ)) ∧ (∀ ρ, fX8_in N x.toInt64 0 100 ρ = some (1, ρ)) ∧ ∀ ρ, fX8_in N y.toInt64 x.toInt64 100 ρ = some (1, ρ)) ∨ ((∀ σ, fX7_isSpan N x y σ = some (0, σ)) ∧ ((∀ ρ, fX8_in N x.toInt64 0 100 ρ = some (0, ρ)) ∨ ((∀ ρ, fX8_in N x.toInt64 0 100 ρ = some (1, ρ)) ∧ ∀ ρ, fX8_in N y.toInt64 x.toInt64 100 ρ = some (0, ρ)))) := by
  have e0 : (0 : Int64) = (0 : Int32).toInt64 := by decide
  have e1 : (100 : Int64) = (100 : Int32).toInt64 := by decide
  rw [e1, e0]
  have i1 : ∀ ρ, fX8_in N x.toInt64 (0 : Int32).toInt64 (100 : Int32).toInt64 ρ = fX7_isWithin N x 0 100 ρ := fun ρ => zinM
  have i2 : ∀ ρ, fX8_in N y.toInt64 x.toInt64 (100 : Int32).toInt64 ρ = fX7_isWithin N y x 100 ρ := fun ρ => zinM
  unfold fX7_isSpan
  simp only [i1, i2]
  unfold fX7_isWithin
  by_cases q1 : x < 0
  · refine Or.inr ⟨fun σ => by rw [if_pos q1]; exact zrz_0, Or.inl (fun ρ => by rw [if_pos q1]; exact zrz_0)⟩
  · obtain ⟨l, hl, el⟩ := nI_of q1
    by_cases q2 : y < x
    · refine Or.inr ⟨fun σ => by rw [if_neg q1, if_pos q2]; exact zrz_0, ?_⟩
      by_cases q3 : (100 : Int32) < x
      · exact Or.inl (fun ρ => by rw [if_neg q1, if_pos q3]; exact zrz_0)
      · exact Or.inr ⟨fun ρ => by rw [if_neg q1, if_neg q3]; exact zrz_1, fun ρ => by rw [if_pos q2]; exact zrz_0⟩
    · have y0 : ¬ y < 0 := fun z => q2 (by rw [fa_lt] at *; have := nI_toInt hl; rw [el]; omega)
      obtain ⟨h, hh, eh⟩ := nI_of y0
      have hlh : l ≤ h := by
        rw [el, eh] at q2
        exact Nat.le_of_not_lt (fun z => q2 (nI_lt z hl))
      by_cases q3 : (100 : Int32) < y
      · refine Or.inr ⟨fun σ => by rw [if_neg q1, if_neg q2, if_pos q3]; exact zrz_0, ?_⟩
        by_cases q4 : (100 : Int32) < x
        · exact Or.inl (fun ρ => by rw [if_neg q1, if_pos q4]; exact zrz_0)
        · exact Or.inr ⟨fun ρ => by rw [if_neg q1, if_neg q4]; exact zrz_1, fun ρ => by rw [if_neg q2, if_pos q3]; exact zrz_0⟩
      · have h100 : h ≤ 100 := by
          rw [eh] at q3
          exact Nat.le_of_not_lt (fun z => q3 (nI_lt (a := 100) z hh))
        have q4 : ¬ (100 : Int32) < x := by
          rw [el]
          exact nI_nlt (a := 100) (by omega) (by omega)
        exact Or.inl ⟨l, h, hlh, h100, el, eh, fun σ => by rw [if_neg q1, if_neg q2, if_neg q3]; exact zrz_1, fun ρ => by rw [if_neg q1, if_neg q4]; exact zrz_1, fun ρ => by rw [if_neg q2, if_neg q3]; exact zrz_1⟩
theorem zchas {N cnt k : Nat} {nd : Nat → Nat} {σ : zSt} (hc3 : cnt ≤ 3) (hcnt : σ.1 23 0 = nI cnt) (hnd : ∀ j, j < cnt → σ.1 24 j = nI (nd j) ∧ nd j < 20) (hk : k < 20) : ∀ (g f i : Nat), g < f → i + g = cnt → fX6_has_2 N f (nI k) (nI i) σ = some (nI (if zex (fun j => nd (i + j) == k) g then 1 else 0), σ)
  | 0, f + 1, i, _, hi => by
    rw [fX6_has_2, hcnt, if_pos (nI_le (by omega) (by omega))]
    exact zrz_0
  | g + 1, f + 1, i, hf, hi => by
    obtain ⟨n1, n2⟩ := hnd i (by omega)
    rw [fX6_has_2, hcnt, if_neg (nI_ge (by omega) (by omega)), zag_nI (by omega) (by omega), n1]
    by_cases q : nd i = k
    · have : zex (fun j => nd (i + j) == k) (g + 1) = true := zex_iff.mpr ⟨0, by omega, by show (nd (i + 0) == k) = true; rw [Nat.add_zero, q]; simp⟩
      rw [if_pos (by rw [q]), this]; exact zrz_1
    · have e : zex (fun j => nd (i + j) == k) (g + 1) = zex (fun j => nd (i + 1 + j) == k) g := by
        refine Bool.eq_iff_iff.mpr ⟨fun z => ?_, fun z => ?_⟩
        · obtain ⟨j, hj, ej⟩ := zex_iff.mp z
          have ej : (nd (i + j) == k) = true := ej
          have : j ≠ 0 := fun j0 => by rw [j0, Nat.add_zero] at ej; exact q (by simpa using ej)
          exact zex_iff.mpr ⟨j - 1, by omega, by show (nd (i + 1 + (j - 1)) == k) = true; rw [show i + 1 + (j - 1) = i + j by omega]; exact ej⟩
        · obtain ⟨j, hj, ej⟩ := zex_iff.mp z
          exact zex_iff.mpr ⟨j + 1, by omega, by show (nd (i + (j + 1)) == k) = true; rw [show i + (j + 1) = i + 1 + j by omega]; exact ej⟩
      rw [if_neg (fun z => q ((nI_eq (by omega) (by omega)).mp z)), nI_1, e]
      exact zchas hc3 hcnt hnd hk g f (i + 1) (by omega) (by omega)
