/-! ===== raise, once the worlds are known ===== -/
theorem zcmp {a b α β v2 v d2 d : Nat} (A : a * d2 = v2 * b) (B : α * d = v * β) (hb : 0 < b) (hβ : 0 < β) (hd : 0 < d) (hd2 : 0 < d2) : a * β ≤ α * b ↔ v2 * d ≤ v * d2 := by
  have h1 : a * β ≤ α * b ↔ (d2 * d) * (a * β) ≤ (d2 * d) * (α * b) := (Nat.mul_le_mul_left_iff (Nat.mul_pos hd2 hd)).symm
  have h2 : v2 * d ≤ v * d2 ↔ (b * β) * (v2 * d) ≤ (b * β) * (v * d2) := (Nat.mul_le_mul_left_iff (Nat.mul_pos hb hβ)).symm
  have e1 : (d2 * d) * (a * β) = (b * β) * (v2 * d) := by
    have : (d2 * d) * (a * β) = (a * d2) * (β * d) := by ac_rfl
    rw [this, A]; ac_rfl
  have e2 : (d2 * d) * (α * b) = (b * β) * (v * d2) := by
    have : (d2 * d) * (α * b) = (α * d) * (b * d2) := by ac_rfl
    rw [this, B]; ac_rfl
  rw [h1, h2, e1, e2]
/-- what the class holds after a find: the reduced fraction, beside the reference's -/
def zAs (y3 y5 z3 z5 : Int64) : Prop := ∃ α β v d : Nat, y3 = iL (α : Int) ∧ y5 = iL (β : Int) ∧ z3 = iL (v : Int) ∧ z5 = iL (d : Int) ∧ 0 < β ∧ 0 < d ∧ α ≤ β ∧ β < 2 ^ 23 ∧ v < 2 ^ 23 ∧ d < 2 ^ 16 ∧ α * (100 * d) = v * β
theorem zAs_of {v d v' d' : Nat} {y3 y5 z3 z5 : Int64} (hd : 0 < d) (hd' : 0 < d') (hd2 : d ≤ 40320) (hd2' : d' ≤ 40320) (hv' : v' ≤ 100 * d') (heq : (v : Int) * d' = v' * d) (h7 : y3 = iL ((v / Nat.gcd (100 * d) v : Nat) : Int)) (h8 : y5 = iL ((100 * d / Nat.gcd (100 * d) v : Nat) : Int)) (h42 : z3 = iL (v' : Int)) (h43 : z5 = iL (d' : Int)) : zAs y3 y5 z3 z5 := by
  have heq' : v * d' = v' * d := by exact_mod_cast heq
  have hvd : v ≤ 100 * d := by
    have h1 : v' * d ≤ 100 * d' * d := Nat.mul_le_mul_right d hv'
    have h2 : 100 * d' * d = 100 * d * d' := by ac_rfl
    rw [← heq', h2] at h1
    exact Nat.le_of_mul_le_mul_right h1 hd'
  have g0 : 0 < Nat.gcd (100 * d) v := Nat.gcd_pos_of_pos_left _ (by omega)
  have e1 : Nat.gcd (100 * d) v * (v / Nat.gcd (100 * d) v) = v := Nat.mul_div_cancel' (Nat.gcd_dvd_right _ _)
  have e2 : Nat.gcd (100 * d) v * (100 * d / Nat.gcd (100 * d) v) = 100 * d := Nat.mul_div_cancel' (Nat.gcd_dvd_left _ _)
  have l2 : 100 * d / Nat.gcd (100 * d) v ≤ 100 * d := Nat.div_le_self _ _
  refine ⟨v / Nat.gcd (100 * d) v, 100 * d / Nat.gcd (100 * d) v, v', d', h7, h8, h42, h43, ?_, hd', Nat.div_le_div_right hvd, by omega, by omega, by omega, ?_⟩
  · exact Nat.div_pos (Nat.gcd_le_left _ (by omega)) g0
  · refine Nat.eq_of_mul_eq_mul_left g0 ?_
    have r1 : Nat.gcd (100 * d) v * (v / Nat.gcd (100 * d) v * (100 * d')) = Nat.gcd (100 * d) v * (v / Nat.gcd (100 * d) v) * (100 * d') := by ac_rfl
    have r2 : Nat.gcd (100 * d) v * (v' * (100 * d / Nat.gcd (100 * d) v)) = v' * (Nat.gcd (100 * d) v * (100 * d / Nat.gcd (100 * d) v)) := by ac_rfl
    rw [r1, r2, e1, e2]
    have r3 : v * (100 * d') = 100 * (v * d') := by ac_rfl
    have r4 : v' * (100 * d) = 100 * (v' * d) := by ac_rfl
    rw [r3, r4, heq']
theorem zAs_cmp {y3 y5 z3 z5 w3 w5 u3 u5 : Int64} (h : zAs y3 y5 z3 z5) (h' : zAs w3 w5 u3 u5) : (w3 * y5 ≤ y3 * w5 ↔ u3 * z5 ≤ z3 * u5) := by
  obtain ⟨α, β, v, d, rfl, rfl, rfl, rfl, b1, b2, b3, b4, b5, b6, b7⟩ := h
  obtain ⟨a, b, v2, d2, rfl, rfl, rfl, rfl, c1, c2, c3, c4, c5, c6, c7⟩ := h'
  have m : ∀ {x y : Nat}, x < 2 ^ 23 → y < 2 ^ 23 → x * y < 2 ^ 46 := fun hx hy => Nat.lt_of_lt_of_le (Nat.mul_lt_mul'' hx hy) (by decide)
  have k : ∀ {x y z w : Nat}, x < 2 ^ 23 → y < 2 ^ 23 → z < 2 ^ 23 → w < 2 ^ 23 → (iL (x : Int) * iL (y : Int) ≤ iL (z : Int) * iL (w : Int) ↔ x * y ≤ z * w) := by
    intro x y z w hx hy hz hw
    have p1 := m hx hy
    have p2 := m hz hw
    rw [iL_mul, iL_mul, ← Int.natCast_mul, ← Int.natCast_mul, iL_le (by unfold zB62; omega) (by unfold zB62; omega)]
    exact Int.ofNat_le
  rw [k (by omega) b4 (by omega) c4, k c5 (by omega) b5 (by omega), zcmp (d2 := 100 * d2) (d := 100 * d) (v2 := v2) (v := v) c7 b7 c1 b1 (by omega) (by omega)]
  have r1 : v2 * (100 * d) = 100 * (v2 * d) := by ac_rfl
  have r2 : v * (100 * d2) = 100 * (v * d2) := by ac_rfl
  rw [r1, r2]
  exact Nat.mul_le_mul_left_iff (by decide)
/-- both find the least, raised or not -/
theorem zfind2 {N u cnt : Nat} {lo hi ll : Nat → Nat} {has : Nat → Bool} {x3 : Int32} {σ ρ : zSt} (hc : zWC σ cnt ll hi) (hm : zWM ρ cnt lo hi has) (hu : u < 256) (hN : 600000 ≤ N) (hll : ∀ k, k < 6 → has k = true → ll k = if nI k = x3 then hi k else lo k) (hll0 : ∀ k, k < 6 → has k = false → ll k = 0) :
    ∃ b τ υ, fX6_findLeast N (nI u) σ = some (b, τ) ∧ fX8_find N (nI u) (-1) x3 ρ = some (b, υ) ∧ (∀ k, k ≠ 29 → k ≠ 31 → k ≠ 32 → τ.1 k = σ.1 k) ∧ zFF ρ υ ∧ (b = 0 ∨ (b = 1 ∧ zAs (τ.2 23 7) (τ.2 23 8) (υ.2 0 42) (υ.2 0 43))) := by
  obtain ⟨b, τ, e, f, q⟩ := zfindLeast (N := N) hc (show u < 2 ^ 31 by omega) hN
  obtain ⟨b', υ, e', f', q'⟩ := zmfind (N := N) (sg := -1) (x3 := x3) (ll := ll) hm (show u < 2 ^ 31 by omega) (Or.inr rfl) hN hll hll0
  have e' : fX8_find N (nI u) (-1) x3 ρ = some (b', υ) := e'
  rcases q with ⟨eb, hno⟩ | ⟨eb, v, d, hd, hd2, hv, hmm, h7, h8⟩
  · rcases q' with ⟨eb', -⟩ | ⟨eb', v', d', hd', hd2', hv', hmn, -, h42, h43⟩
    · subst eb; subst eb'
      exact ⟨_, _, _, e, e', f, f', Or.inl rfl⟩
    · obtain ⟨-, ⟨y, D, hy, -⟩, -⟩ := hmn rfl
      exact absurd hy (hno y D)
  · rcases q' with ⟨eb', hno'⟩ | ⟨eb', v', d', hd', hd2', hv', hmn, -, h42, h43⟩
    · obtain ⟨-, ⟨y, D, hy, -⟩, -⟩ := hmm
      exact absurd hy (hno' y D)
    · subst eb; subst eb'
      exact ⟨_, _, _, e, e', f, f', Or.inr ⟨rfl, zAs_of hd hd' hd2 hd2' hv' (zMin_eq hmm (hmn rfl)) h7 h8 h42 h43⟩⟩
def zRe (σ τ : zSt) : Prop := ∀ k, k ≠ 29 → k ≠ 31 → k ≠ 32 → τ.1 k = σ.1 k
theorem zWC_re {σ τ : zSt} {cnt : Nat} {lo hi : Nat → Nat} (h : zWC σ cnt lo hi) (hf : zRe σ τ) : zWC τ cnt lo hi := by
  obtain ⟨h1, h2, h3, h4, h5⟩ := h
  refine ⟨h1, ?_, fun k hk => ?_, fun j hj => ?_, h5⟩
  · rw [hf 23 (by decide) (by decide) (by decide)]; exact h2
  · rw [hf 25 (by decide) (by decide) (by decide), hf 26 (by decide) (by decide) (by decide)]; exact h3 k hk
  · rw [hf 27 (by decide) (by decide) (by decide), hf 28 (by decide) (by decide) (by decide)]; exact h4 j hj
def zRs (lo hi : Nat → Nat) (i k : Nat) : Nat := if k = i then hi i else lo k
theorem zRs_s {lo hi : Nat → Nat} {i : Nat} : zRs lo hi i i = hi i := if_pos rfl
theorem zRs_o {lo hi : Nat → Nat} {i k : Nat} (h : k ≠ i) : zRs lo hi i k = lo k := if_neg h
theorem zsi_f {σ : zSt} {k i : Nat} {v : Int32} : (zsi σ k i v).1 k = upd (σ.1 k) i v := if_pos rfl
theorem zraised {N u cnt i : Nat} {lo hi : Nat → Nat} {has : Nat → Bool} {σ ρ : zSt} (hc : zWC σ cnt lo hi) (hm : zWM ρ cnt lo hi has) (hu : u < 256) (hN : 600000 ≤ N) (hi' : i < cnt) (hhas : has i = true) :
    ∃ b τ υ, fX6_findLeastRaised N (nI u) (nI i) σ = some (b, τ) ∧ fX8_find N (nI u) (-1) (nI i) ρ = some (b, υ) ∧ zRe σ τ ∧ zFF ρ υ ∧ (b = 0 ∨ (b = 1 ∧ zAs (τ.2 23 7) (τ.2 23 8) (υ.2 0 42) (υ.2 0 43))) := by
  have h3 := hc.1
  obtain ⟨a1, a2⟩ := hc.2.2.1 i hi'
  have hc' : zWC (zsi σ 25 i (nI (hi i))) cnt (zRs lo hi i) hi := by
    refine ⟨h3, by rw [zsi_c (by decide)]; exact hc.2.1, fun k hk => ?_, fun j hj => ?_, fun k hk => ?_⟩
    · rw [zsi_c (a := 26) (by decide)]
      refine ⟨?_, (hc.2.2.1 k hk).2⟩
      by_cases q : k = i
      · rw [q, zsi_s, zRs_s]
      · rw [zsi_o q, zRs_o q]
        exact (hc.2.2.1 k hk).1
    · rw [zsi_c (by decide), zsi_c (by decide), zRs_o (by omega)]
      exact hc.2.2.2.1 j hj
    · have b1 := hc.2.2.2.2 k hk
      have b2 := hc.2.2.2.2 i (by omega)
      refine ⟨?_, b1.2⟩
      by_cases q : k = i
      · rw [q, zRs_s]; exact b2.2
      · rw [zRs_o q]; exact b1.1
  obtain ⟨b, τ, υ, e, e', f, f', q⟩ := zfind2 (N := N) (u := u) (x3 := nI i) hc' hm hu hN (fun k hk hk2 => by
    by_cases z : k = i
    · rw [z, zRs_s, if_pos rfl]
    · rw [zRs_o z, if_neg (fun w => z ((nI_eq (by omega) (by omega)).mp w))]) (fun k hk hk2 => by
    by_cases z : k = i
    · rw [z, hhas] at hk2
      exact absurd hk2 (by decide)
    · rw [zRs_o z]
      exact ((hm.2.2 k hk).2.2.1 hk2).1)
  refine ⟨b, zsi τ 25 i (nI (lo i)), υ, ?_, e', fun k k1 k2 k3 => ?_, f', q⟩
  · unfold fX6_findLeastRaised
    rw [zag_nI (by omega) (by omega), zag_nI (by omega) (by omega), zas_nI (by omega) (by omega), a1, a2, e, zbnd_some, zas_nI (by omega) (by omega)]
    rcases q with q | q
    · rw [q]; exact zrz_0
    · rw [q.1]; exact zrz_1
  · by_cases z : k = 25
    · subst z
      have e1 : (zsi τ 25 i (nI (lo i))).1 25 = upd (τ.1 25) i (nI (lo i)) := zsi_f
      have e2 : τ.1 25 = upd (σ.1 25) i (nI (hi i)) := (f 25 (by decide) (by decide) (by decide)).trans zsi_f
      rw [e1, e2, fa_upd_twice, fa_upd_same a1]
    · rw [zsi_c z, f k k1 k2 k3, zsi_c z]
theorem zraise_loop {N u cnt : Nat} {lo hi nd : Nat → Nat} {has : Nat → Bool} (hu : u < 256) (hN : 600000 ≤ N) : ∀ (g f f' i : Nat) (σ ρ : zSt) (x2 x7 : Int32) (y3 y5 z3 z5 : Int64), g < f → g < f' → i + g = cnt → zWC σ cnt lo hi → zWM ρ cnt lo hi has → (∀ k, k < cnt → has k = true ∧ ρ.1 15 k = nI (nd k)) → zAs y3 y5 z3 z5 → ((x2 = -1 ∧ x7 = -1000000) ∨ ∃ j, j < cnt ∧ x2 = nI j ∧ x7 = nI (nd j)) →
    ∃ b a τ υ, fX6_bestRaise_16 N f (nI u) x2 y3 y5 (nI i) σ = some (b, τ) ∧ fX8_raise_54 N f' (nI u) z3 z5 x7 (nI i) ρ = some (a, υ) ∧ zRe σ τ ∧ zFF ρ υ ∧ ((b = -1 ∧ a = -1000000) ∨ ∃ j, j < cnt ∧ b = nI j ∧ a = nI (nd j))
  | 0, f + 1, f' + 1, i, σ, ρ, x2, x7, y3, y5, z3, z5, _, _, hi', hc, hm, hnd, hA, hB => by
    have h3 := hc.1
    rw [fX6_bestRaise_16, fX8_raise_54, hc.2.1, hm.2.1, if_pos (nI_le (by omega) (by omega)), if_pos (nI_le (by omega) (by omega))]
    exact ⟨_, _, _, _, rfl, rfl, fun _ _ _ _ => rfl, zFF_rfl, hB⟩
  | g + 1, f + 1, f' + 1, i, σ, ρ, x2, x7, y3, y5, z3, z5, hf, hf', hi', hc, hm, hnd, hA, hB => by
    have h3 := hc.1
    obtain ⟨b, τ, υ, e, e', r1, r2, q⟩ := zraised (N := N) (i := i) hc hm hu hN (by omega) (hnd i (by omega)).1
    rw [fX6_bestRaise_16, fX8_raise_54, hc.2.1, hm.2.1, if_neg (nI_ge (by omega) (by omega)), if_neg (nI_ge (by omega) (by omega)), e, e', zbnd_some, zbnd_some]
    have hc' := zWC_re hc r1
    have hm' := zWM_fr hm r2
    have hnd' : ∀ k, k < cnt → has k = true ∧ υ.1 15 k = nI (nd k) := fun k hk => by
      rw [r2.1 15 (by decide) (by decide) (by decide)]
      exact hnd k hk
    have go : ∀ (x2 x7 : Int32) (y3 y5 z3 z5 : Int64), zAs y3 y5 z3 z5 → ((x2 = -1 ∧ x7 = -1000000) ∨ ∃ j, j < cnt ∧ x2 = nI j ∧ x7 = nI (nd j)) → ∃ b a τ' υ', fX6_bestRaise_16 N f (nI u) x2 y3 y5 (nI i + 1) τ = some (b, τ') ∧ fX8_raise_54 N f' (nI u) z3 z5 x7 (nI i + 1) υ = some (a, υ') ∧ zRe σ τ' ∧ zFF ρ υ' ∧ ((b = -1 ∧ a = -1000000) ∨ ∃ j, j < cnt ∧ b = nI j ∧ a = nI (nd j)) := by
      intro x2 x7 y3 y5 z3 z5 hA hB
      obtain ⟨b, a, τ', υ', w1, w2, w3, w4, w5⟩ := zraise_loop (nd := nd) hu hN g f f' (i + 1) τ υ x2 x7 y3 y5 z3 z5 (by omega) (by omega) (by omega) hc' hm' hnd' hA hB
      rw [← nI_1] at w1 w2
      exact ⟨b, a, τ', υ', w1, w2, fun k k1 k2 k3 => (w3 k k1 k2 k3).trans (r1 k k1 k2 k3), zFF_trans r2 w4, w5⟩
    rcases q with q | ⟨q, hA'⟩
    · rw [q, if_pos rfl, if_pos rfl]
      exact go _ _ _ _ _ _ hA hB
    · rw [q, if_neg (show ¬ (1 : Int32) = 0 by decide), if_neg (show ¬ (1 : Int32) = 0 by decide)]
      have hcm := zAs_cmp hA hA'
      by_cases z : υ.2 0 42 * z5 ≤ z3 * υ.2 0 43
      · rw [if_pos z, if_pos (hcm.mpr z)]
        exact go _ _ _ _ _ _ hA hB
      · rw [if_neg z, if_neg (fun w => z (hcm.mp w)), znm_eq, znm_eq, zag_nI (by omega) (by omega), (hnd' i (by omega)).2, znm_eq, znm_eq]
        exact go _ _ _ _ _ _ hA' (Or.inr ⟨i, by omega, rfl, rfl⟩)
