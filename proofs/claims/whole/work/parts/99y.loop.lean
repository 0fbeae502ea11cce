/-! ===== the law's loop ===== -/
theorem zsrc_nI {β : Type} {xs : Nat → Int32} {L j : Nat} {k : Int32 → Option β} (hj : j < L) (hL : L < 2 ^ 31) : zsrc xs L (nI j) k = k (xs j) := by
  unfold zsrc
  rw [if_pos (zin_nI hj hL), nI_clamp (by omega)]
theorem zlaw {N L : Nat} {xs : Nat → Int32} (hN : 600000 ≤ N) (hL : L ≤ 3072) : ∀ (g n i : Nat) (σ ρ : zSt), L ≤ i + 6 * g → g < n → i ≤ L + 6 → zR σ ρ → ∃ T, fL_18 N xs L n (nI i) σ ρ = some (1, T) := by
  have hcmp : ∀ i, i ≤ 4000 → ((Int32.ofNat L - (6 : Int32)) < nI i ↔ L < i + 6) := by
    intro i hi
    have e : Int32.ofNat L - (6 : Int32) = iI ((L : Int) - 6) := by
      show nI L - 6 = _
      rw [← iI_nat, show (6 : Int32) = iI 6 from rfl, iI_sub]
    rw [e, ← iI_nat, iI_lt (by omega) (by omega)]
    omega
  intro g
  induction g with
  | zero =>
    intro n i σ ρ hg hn hi hR
    obtain ⟨n, rfl⟩ : ∃ n', n = n' + 1 := ⟨n - 1, by omega⟩
    rw [fL_18, if_pos ((hcmp i (by omega)).mpr (by omega))]
    exact ⟨_, rfl⟩
  | succ g ih =>
    intro n i σ ρ hg hn hi hR
    obtain ⟨n, rfl⟩ : ∃ n', n = n' + 1 := ⟨n - 1, by omega⟩
    by_cases hend : L < i + 6
    · rw [fL_18, if_pos ((hcmp i (by omega)).mpr hend)]
      exact ⟨_, rfl⟩
    have a1 : nI i + (1 : Int32) = nI (i + 1) := nI_1 i
    have a2 : nI i + (2 : Int32) = nI (i + 2) := nI_add i 2
    have a3 : nI i + (3 : Int32) = nI (i + 3) := nI_add i 3
    have a4 : nI i + (4 : Int32) = nI (i + 4) := nI_add i 4
    have a5 : nI i + (5 : Int32) = nI (i + 5) := nI_add i 5
    have a6 : nI i + (6 : Int32) = nI (i + 6) := nI_add i 6
    have go : ∀ τ υ, zR τ υ → ∃ T, fL_18 N xs L n (nI (i + 6)) τ υ = some (1, T) := fun τ υ h => ih n (i + 6) τ υ (by omega) (by omega) (by omega) h
    rw [fL_18, if_neg (fun z => hend ((hcmp i (by omega)).mp z)), zsrc_nI (by omega) (by omega), znm_eq, a1, a2, a3, a4, a5, a6]
    generalize xs i &&& (31 : Int32) = v
    by_cases c0 : v = (0 : Int32)
    · obtain ⟨r, τ, υ, e1, e2, e3⟩ := zp_sheet (N := N) hN (xs (i + 1)) (xs (i + 2)) (xs (i + 3)) σ ρ hR
      rw [if_pos c0, zsrc_nI (by omega) (by omega), zsrc_nI (by omega) (by omega), zsrc_nI (by omega) (by omega), e1, zbnd_some, zsrc_nI (by omega) (by omega), zsrc_nI (by omega) (by omega), zsrc_nI (by omega) (by omega), e2, zbnd_some, if_pos rfl]
      exact go τ υ e3
    rw [if_neg c0]
    by_cases c1 : v = (1 : Int32)
    · obtain ⟨r, τ, υ, e1, e2, e3⟩ := zp_set (N := N) (xs (i + 1)) (xs (i + 2)) (xs (i + 3)) σ ρ hR
      rw [if_pos c1, zsrc_nI (by omega) (by omega), zsrc_nI (by omega) (by omega), zsrc_nI (by omega) (by omega), e1, zbnd_some, zsrc_nI (by omega) (by omega), zsrc_nI (by omega) (by omega), zsrc_nI (by omega) (by omega), e2, zbnd_some, if_pos rfl]
      exact go τ υ e3
    rw [if_neg c1]
    by_cases c2 : v = (2 : Int32)
    · obtain ⟨r, τ, υ, e1, e2, e3⟩ := zp_copy (N := N) hN (xs (i + 1)) (xs (i + 2)) (xs (i + 3)) (xs (i + 4)) (xs (i + 5)) σ ρ hR
      rw [if_pos c2, zsrc_nI (by omega) (by omega), zsrc_nI (by omega) (by omega), zsrc_nI (by omega) (by omega), zsrc_nI (by omega) (by omega), zsrc_nI (by omega) (by omega), e1, zbnd_some, zsrc_nI (by omega) (by omega), zsrc_nI (by omega) (by omega), zsrc_nI (by omega) (by omega), zsrc_nI (by omega) (by omega), zsrc_nI (by omega) (by omega), e2, zbnd_some, if_pos rfl]
      exact go τ υ e3
    rw [if_neg c2]
    by_cases c3 : v = (3 : Int32)
    · obtain ⟨r, τ, υ, e1, e2, e3⟩ := zp_drop (N := N) (xs (i + 1)) σ ρ hR
      rw [if_pos c3, zsrc_nI (by omega) (by omega), e1, zbnd_some, zsrc_nI (by omega) (by omega), e2, zbnd_some, if_pos rfl]
      exact go τ υ e3
    rw [if_neg c3]
    by_cases c4 : v = (4 : Int32)
    · obtain ⟨r, τ, υ, e1, e2, e3⟩ := zp_feed (N := N) hN (((xs (i + 1)).toInt64 <<< ((32 : Int32).toInt64 &&& 63)) ||| ((xs (i + 2)).toInt64 &&& (4294967295 : Int64))) (xs (i + 3)) σ ρ hR
      rw [if_pos c4, zsrc_nI (by omega) (by omega), zsrc_nI (by omega) (by omega), zsrc_nI (by omega) (by omega), e1, zbnd_some, zsrc_nI (by omega) (by omega), zsrc_nI (by omega) (by omega), zsrc_nI (by omega) (by omega), e2, zbnd_some, if_pos rfl]
      exact go τ υ e3
    rw [if_neg c4]
    by_cases c5 : v = (5 : Int32)
    · obtain ⟨r, τ, υ, e1, e2, e3⟩ := zp_net (N := N) hN σ ρ hR
      rw [if_pos c5, e1, zbnd_some, e2, zbnd_some, if_pos rfl]
      exact go τ υ e3
    rw [if_neg c5]
    by_cases c6 : v = (6 : Int32)
    · obtain ⟨r, τ, υ, e1, e2, e3⟩ := zp_fault (N := N) σ ρ hR
      rw [if_pos c6, e1, zbnd_some, e2, zbnd_some, if_pos rfl]
      exact go τ υ e3
    rw [if_neg c6]
    by_cases c7 : v = (7 : Int32)
    · obtain ⟨r, τ, υ, e1, e2, e3⟩ := zp_node (N := N) hN (xs (i + 1)) (xs (i + 2)) σ ρ hR
      rw [if_pos c7, zsrc_nI (by omega) (by omega), zsrc_nI (by omega) (by omega), e1, zbnd_some, zsrc_nI (by omega) (by omega), zsrc_nI (by omega) (by omega), e2, zbnd_some, if_pos rfl]
      exact go τ υ e3
    rw [if_neg c7]
    by_cases c8 : v = (8 : Int32)
    · obtain ⟨r, τ, υ, e1, e2, e3⟩ := zp_step (N := N) hN (xs (i + 1)) (xs (i + 2)) σ ρ hR
      rw [if_pos c8, zsrc_nI (by omega) (by omega), zsrc_nI (by omega) (by omega), e1, zbnd_some, zsrc_nI (by omega) (by omega), zsrc_nI (by omega) (by omega), e2, zbnd_some, if_pos rfl]
      exact go τ υ e3
    rw [if_neg c8]
    by_cases c9 : v = (9 : Int32)
    · obtain ⟨r, τ, υ, e1, e2, e3⟩ := zp_part (N := N) (xs (i + 1)) (xs (i + 2)) σ ρ hR
      rw [if_pos c9, zsrc_nI (by omega) (by omega), zsrc_nI (by omega) (by omega), e1, zbnd_some, zsrc_nI (by omega) (by omega), zsrc_nI (by omega) (by omega), e2, zbnd_some, if_pos rfl]
      exact go τ υ e3
    rw [if_neg c9]
    by_cases c10 : v = (10 : Int32)
    · obtain ⟨r, τ, υ, e1, e2, e3⟩ := zp_doubt (N := N) (xs (i + 1)) (xs (i + 2)) (xs (i + 3)) σ ρ hR
      rw [if_pos c10, zsrc_nI (by omega) (by omega), zsrc_nI (by omega) (by omega), zsrc_nI (by omega) (by omega), e1, zbnd_some, zsrc_nI (by omega) (by omega), zsrc_nI (by omega) (by omega), zsrc_nI (by omega) (by omega), e2, zbnd_some, if_pos rfl]
      exact go τ υ e3
    rw [if_neg c10]
    by_cases c11 : v = (11 : Int32)
    · obtain ⟨r, τ, υ, e1, e2, e3⟩ := zp_borne (N := N) hN (xs (i + 1)) σ ρ hR
      rw [if_pos c11, zsrc_nI (by omega) (by omega), e1, zbnd_some, zsrc_nI (by omega) (by omega), e2, zbnd_some, if_pos rfl]
      exact go τ υ e3
    rw [if_neg c11]
    by_cases c12 : v = (12 : Int32)
    · obtain ⟨r, τ, υ, e1, e2, e3⟩ := zp_looked (N := N) hN (xs (i + 1)) (xs (i + 2)) (xs (i + 3)) σ ρ hR
      rw [if_pos c12, zsrc_nI (by omega) (by omega), zsrc_nI (by omega) (by omega), zsrc_nI (by omega) (by omega), e1, zbnd_some, zsrc_nI (by omega) (by omega), zsrc_nI (by omega) (by omega), zsrc_nI (by omega) (by omega), e2, zbnd_some, if_pos rfl]
      exact go τ υ e3
    rw [if_neg c12]
    by_cases c13 : v = (13 : Int32)
    · obtain ⟨r, τ, υ, e1, e2, e3⟩ := zp_fall (N := N) (xs (i + 1)) (xs (i + 2)) σ ρ hR
      rw [if_pos c13, zsrc_nI (by omega) (by omega), zsrc_nI (by omega) (by omega), e1, zbnd_some, zsrc_nI (by omega) (by omega), zsrc_nI (by omega) (by omega), e2, zbnd_some, if_pos rfl]
      exact go τ υ e3
    rw [if_neg c13]
    by_cases c14 : v = (14 : Int32)
    · obtain ⟨r, τ, υ, e1, e2, e3⟩ := zp_day (N := N) (xs (i + 1)) σ ρ hR
      rw [if_pos c14, zsrc_nI (by omega) (by omega), e1, zbnd_some, zsrc_nI (by omega) (by omega), e2, zbnd_some, if_pos rfl]
      exact go τ υ e3
    rw [if_neg c14]
    by_cases c15 : v = (15 : Int32)
    · obtain ⟨r, τ, υ, e1, e2, e3⟩ := zp_shown (N := N) hN (xs (i + 1)) σ ρ hR
      rw [if_pos c15, zsrc_nI (by omega) (by omega), e1, zbnd_some, zsrc_nI (by omega) (by omega), e2, zbnd_some, if_pos rfl]
      exact go τ υ e3
    rw [if_neg c15]
    by_cases c16 : v = (16 : Int32)
    · obtain ⟨r, τ, υ, e1, e2, e3⟩ := zp_leaning (N := N) hN (xs (i + 1)) σ ρ hR
      rw [if_pos c16, zsrc_nI (by omega) (by omega), e1, zbnd_some, zsrc_nI (by omega) (by omega), e2, zbnd_some, if_pos rfl]
      exact go τ υ e3
    rw [if_neg c16]
    by_cases c17 : v = (17 : Int32)
    · obtain ⟨r, τ, υ, e1, e2, e3⟩ := zp_felling (N := N) hN (xs (i + 1)) (xs (i + 2)) σ ρ hR
      rw [if_pos c17, zsrc_nI (by omega) (by omega), zsrc_nI (by omega) (by omega), e1, zbnd_some, zsrc_nI (by omega) (by omega), zsrc_nI (by omega) (by omega), e2, zbnd_some, if_pos rfl]
      exact go τ υ e3
    rw [if_neg c17]
    by_cases c18 : v = (18 : Int32)
    · obtain ⟨r, τ, υ, e1, e2, e3⟩ := zp_hand (N := N) hN σ ρ hR
      rw [if_pos c18, e1, zbnd_some, e2, zbnd_some, if_pos rfl]
      exact go τ υ e3
    rw [if_neg c18]
    by_cases c19 : v = (19 : Int32)
    · obtain ⟨r, τ, υ, e1, e2, e3⟩ := zp_weigh (N := N) hN (xs (i + 1)) (xs (i + 2)) (xs (i + 3)) σ ρ hR
      rw [if_pos c19, zsrc_nI (by omega) (by omega), zsrc_nI (by omega) (by omega), zsrc_nI (by omega) (by omega), e1, zbnd_some, zsrc_nI (by omega) (by omega), zsrc_nI (by omega) (by omega), zsrc_nI (by omega) (by omega), e2, zbnd_some, if_pos rfl]
      exact go τ υ e3
    rw [if_neg c19]
    by_cases c20 : v = (20 : Int32)
    · obtain ⟨r, τ, υ, e1, e2, e3⟩ := zp_pair (N := N) (xs (i + 1)) (xs (i + 2)) (xs (i + 3)) (xs (i + 4)) σ ρ hR
      rw [if_pos c20, zsrc_nI (by omega) (by omega), zsrc_nI (by omega) (by omega), zsrc_nI (by omega) (by omega), zsrc_nI (by omega) (by omega), e1, zbnd_some, zsrc_nI (by omega) (by omega), zsrc_nI (by omega) (by omega), zsrc_nI (by omega) (by omega), zsrc_nI (by omega) (by omega), e2, zbnd_some, if_pos rfl]
      exact go τ υ e3
    rw [if_neg c20]
    by_cases c21 : v = (21 : Int32)
    · obtain ⟨r, τ, υ, e1, e2, e3⟩ := zp_unweigh (N := N) hN σ ρ hR
      rw [if_pos c21, e1, zbnd_some, e2, zbnd_some, if_pos rfl]
      exact go τ υ e3
    rw [if_neg c21]
    by_cases c22 : v = (22 : Int32)
    · obtain ⟨r, τ, υ, e1, e2, e3⟩ := zp_agree (N := N) hN σ ρ hR
      rw [if_pos c22, e1, zbnd_some, e2, zbnd_some, if_pos rfl]
      exact go τ υ e3
    rw [if_neg c22]
    by_cases c23 : v = (23 : Int32)
    · obtain ⟨r, τ, υ, e1, e2, e3⟩ := zp_odds (N := N) hN (xs (i + 1)) (xs (i + 2)) σ ρ hR
      rw [if_pos c23, zsrc_nI (by omega) (by omega), zsrc_nI (by omega) (by omega), e1, zbnd_some, zsrc_nI (by omega) (by omega), zsrc_nI (by omega) (by omega), e2, zbnd_some, if_pos rfl]
      exact go τ υ e3
    rw [if_neg c23]
    by_cases c24 : v = (24 : Int32)
    · obtain ⟨r, τ, υ, e1, e2, e3⟩ := zp_raise (N := N) hN (xs (i + 1)) σ ρ hR
      rw [if_pos c24, zsrc_nI (by omega) (by omega), e1, zbnd_some, zsrc_nI (by omega) (by omega), e2, zbnd_some, if_pos rfl]
      exact go τ υ e3
    rw [if_neg c24]
    by_cases c25 : v = (25 : Int32)
    · obtain ⟨r, τ, υ, e1, e2, e3⟩ := zp_kind (N := N) hN (xs (i + 1)) σ ρ hR
      rw [if_pos c25, zsrc_nI (by omega) (by omega), e1, zbnd_some, zsrc_nI (by omega) (by omega), e2, zbnd_some, if_pos rfl]
      exact go τ υ e3
    rw [if_neg c25]
    by_cases c26 : v = (26 : Int32)
    · obtain ⟨r, τ, υ, e1, e2, e3⟩ := zp_as (N := N) hN (xs (i + 1)) (xs (i + 2)) σ ρ hR
      rw [if_pos c26, zsrc_nI (by omega) (by omega), zsrc_nI (by omega) (by omega), e1, zbnd_some, zsrc_nI (by omega) (by omega), zsrc_nI (by omega) (by omega), e2, zbnd_some, if_pos rfl]
      exact go τ υ e3
    rw [if_neg c26]
    by_cases c27 : v = (27 : Int32)
    · obtain ⟨r, τ, υ, e1, e2, e3⟩ := zp_ask (N := N) hN (xs (i + 1)) (xs (i + 2)) σ ρ hR
      rw [if_pos c27, zsrc_nI (by omega) (by omega), zsrc_nI (by omega) (by omega), e1, zbnd_some, zsrc_nI (by omega) (by omega), zsrc_nI (by omega) (by omega), e2, zbnd_some, if_pos rfl]
      exact go τ υ e3
    rw [if_neg c27]
    by_cases c28 : v = (28 : Int32)
    · obtain ⟨r, τ, υ, e1, e2, e3⟩ := zp_trace (N := N) (xs (i + 1)) σ ρ hR
      rw [if_pos c28, zsrc_nI (by omega) (by omega), e1, zbnd_some, zsrc_nI (by omega) (by omega), e2, zbnd_some, if_pos rfl]
      exact go τ υ e3
    rw [if_neg c28]
    by_cases c29 : v = (29 : Int32)
    · obtain ⟨r, τ, υ, e1, e2, e3⟩ := zp_count (N := N) hN (xs (i + 1)) σ ρ hR
      rw [if_pos c29, zsrc_nI (by omega) (by omega), e1, zbnd_some, zsrc_nI (by omega) (by omega), e2, zbnd_some, if_pos rfl]
      exact go τ υ e3
    rw [if_neg c29]
    by_cases c30 : v = (30 : Int32)
    · obtain ⟨r, τ, υ, e1, e2, e3⟩ := zp_status (N := N) σ ρ hR
      rw [if_pos c30, e1, zbnd_some, e2, zbnd_some, if_pos rfl]
      exact go τ υ e3
    rw [if_neg c30]
    exact go σ ρ hR
/-! the start -/
theorem zR_0 : zR zC0 zM0 := by
  refine ⟨fun _ _ => 0, ⟨by decide, by decide, by decide, fun n hn => absurd hn (Nat.not_lt_zero n), fun s hs => absurd hs (Nat.not_lt_zero s)⟩, ⟨rfl, rfl, rfl, fun n hn => absurd hn (Nat.not_lt_zero n), fun s hs => absurd hs (Nat.not_lt_zero s)⟩, ⟨rfl, rfl, rfl, fun n hn => absurd hn (Nat.not_lt_zero n), fun s hs => absurd hs (Nat.not_lt_zero s)⟩, ⟨0, fun _ => 0, fun _ => 100, fun _ => false, fun _ => 0, ⟨by decide, rfl, fun k hk => absurd hk (Nat.not_lt_zero k), fun j hj => ?_, fun k _ => ⟨Nat.zero_le 100, Nat.le_refl 100⟩⟩, ⟨by decide, rfl, fun k hk => ⟨rfl, fun z => absurd (show false = true from z) (by decide), fun _ => ⟨rfl, rfl⟩, Nat.zero_le 100, Nat.le_refl 100⟩⟩, fun k hk => absurd hk (Nat.not_lt_zero k)⟩, ⟨fun s hs => ?_, fun i _ => rfl⟩, ⟨0, by decide, rfl, rfl, fun i hi => absurd hi (Nat.not_lt_zero i)⟩, ⟨rfl, rfl⟩, ⟨0, by decide, rfl, rfl, fun i hi => absurd hi (Nat.not_lt_zero i)⟩⟩
  · rcases (show j = 0 ∨ j = 1 ∨ j = 2 by omega) with z | z | z <;> subst z <;> exact ⟨rfl, rfl⟩
  · rcases (show s = 0 ∨ s = 1 ∨ s = 2 ∨ s = 3 ∨ s = 4 ∨ s = 5 ∨ s = 6 ∨ s = 7 by omega) with z | z | z | z | z | z | z | z <;> subst z <;> exact Or.inl ⟨rfl, rfl⟩
theorem zowed : zOwed := by
  intro xs L hL
  obtain ⟨T, hT⟩ := zlaw (N := 600000) (xs := xs) (Nat.le_refl _) hL L (L + 1) 0 zC0 zM0 (by omega) (by omega) (by omega) zR_0
  exact ⟨600000, L + 1, T, hT⟩
