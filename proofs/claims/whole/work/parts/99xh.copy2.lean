/-! ===== copy: the call ===== -/
theorem zcmove {N p i q j n : Nat} {σ : zSt} (hp : 40 * p + i + n ≤ 320) (hq : 40 * q + j + n ≤ 320) : fX3_move N (nI p) (nI i) (nI q) (nI j) (nI n) σ = some ((), zsc σ 2 (va_cpy (σ.1 2) (σ.1 2) (40 * p + i) (40 * q + j) n)) := by
  unfold fX3_move zcp
  rw [z40', z40', nI_clamp (by omega), nI_clamp (by omega), nI_clamp (by omega), if_pos ⟨nI_pos' (by omega), nI_pos' (by omega), nI_pos' (by omega), hp, hq⟩]
theorem zp_copy {N : Nat} (hN : 600000 ≤ N) (x1 x2 x3 x4 x5 : Int32) : zP2 (fX7_copy N x1 x2 x3 x4 x5) (fX8_copy N x1 x2 x3 x4 x5) := by
  intro σ ρ hR
  have hR2 := zR_keep hR zKC_rfl (zKM_thr (σ := ρ))
  have hR' := hR2
  obtain ⟨a, -, -, -, -, hS, -, hF, -⟩ := hR'
  have found : ∀ v, zR (zsi σ 0 7 v) (zsi (zsi (zsi ρ 0 0 0) 0 1 0) 0 1 v) := fun v => zR_sheet hR2 (fun k q _ _ _ => zsi_c q) (zsi_o (by decide)) (fun k q _ _ _ => by rw [zsi_c q, zsi_c q]) (fun i q1 q2 => by rw [zsi_o q2, zsi_o q2]) hS (by rw [zsi_s, zsi_s])
  have no47 : ∃ r τ υ, fX7_copy_47 N σ = some (r, τ) ∧ fX8_copy_45 N (zsi (zsi ρ 0 0 0) 0 1 0) = some (r, υ) ∧ zR τ υ := by
    unfold fX7_copy_47 fX8_copy_45 fX7_found fX8_finding
    rw [zpf_eq, zpf_eq, zbnd_some, zbnd_some]
    exact ⟨_, _, _, rfl, rfl, found 1⟩
  have no100 : ∃ r τ υ, fX7_copy_100 N σ = some (r, τ) ∧ fX8_copy_121 N (zsi (zsi ρ 0 0 0) 0 1 0) = some (r, υ) ∧ zR τ υ := by
    unfold fX7_copy_100 fX8_copy_121 fX7_found fX8_finding
    rw [zpf_eq, zpf_eq, zbnd_some, zbnd_some]
    exact ⟨_, _, _, rfl, rfl, found 2⟩
  have nm : ∀ n, n ≤ 40 → ¬ nI n = (-1 : Int32) := fun n hn z => by
    have := nI_pos (n := n) (by omega)
    rw [z] at this
    exact absurd (by decide) this
  unfold fX7_copy fX8_copy
  rw [zpf_eq]
  rcases zsheet2 (N := N) x1 with ⟨p, hp, ep, c1, c2⟩ | ⟨c1, c2⟩
  · rw [c1, c2, zbnd_some, zbnd_some, if_neg (show ¬ (1 : Int32) = 0 by decide), if_neg (show ¬ (1 : Int32) = 0 by decide)]
    rcases zsheet2 (N := N) x3 with ⟨q, hq, eq, c3, c4⟩ | ⟨c3, c4⟩
    · rw [c3, c4, zbnd_some, zbnd_some, if_neg (show ¬ (1 : Int32) = 0 by decide), if_neg (show ¬ (1 : Int32) = 0 by decide), ep, eq, zpf_eq, zag_nI (by omega) (by omega)]
      unfold fX3_isMissing
      rw [zag_nI (by omega) (by omega)]
      rcases hS.1 p hp with ⟨d1, d2⟩ | ⟨l, n, hl, hn, d1, d2, d3, d4⟩
      · have d2' : (zsi (zsi ρ 0 0 0) 0 1 0).1 1 p = -1 := d2
        rw [d1, d2', if_pos rfl, zrz_1, zbnd_some, if_neg (show ¬ (1 : Int32) = 0 by decide), if_pos (show (-1 : Int32) < 0 by decide)]
        exact no47
      · have d2' : (zsi (zsi ρ 0 0 0) 0 1 0).1 1 p = nI l := d2
        have d4' : (zsi (zsi ρ 0 0 0) 0 1 0).1 2 p = nI n := d4
        rw [d3, d2', if_neg (nm n hn), zrz_0, zbnd_some, if_pos rfl, if_neg (nI_pos (by omega)), zag_nI (by omega) (by omega), zag_nI (by omega) (by omega)]
        rcases hS.1 q hq with ⟨f1, f2⟩ | ⟨l2, n2, hl2, hn2, f1, f2, f3, f4⟩
        · have f2' : (zsi (zsi ρ 0 0 0) 0 1 0).1 1 q = -1 := f2
          rw [f1, f2', if_pos rfl, zrz_1, zbnd_some, if_neg (show ¬ (1 : Int32) = 0 by decide), if_neg (show ¬ (0 : Int32) ≤ -1 by decide)]
          exact no47
        · have f2' : (zsi (zsi ρ 0 0 0) 0 1 0).1 1 q = nI l2 := f2
          have f4' : (zsi (zsi ρ 0 0 0) 0 1 0).1 2 q = nI n2 := f4
          unfold fX3_areOfOneLane
          rw [f3, f2', if_neg (nm n2 hn2), zrz_0, zbnd_some, if_pos rfl, if_pos (nI_pos' (by omega)), zag_nI (by omega) (by omega), zag_nI (by omega) (by omega), d1, f1, zag_nI (by omega) (by omega), zag_nI (by omega) (by omega), d2', f2']
          by_cases hll : nI l = nI l2
          · rw [if_pos hll, if_pos hll, zrz_1, zbnd_some, if_neg (show ¬ (1 : Int32) = 0 by decide)]
            rcases zplaces2 (N := N) (s := p) (n := n) (x := x2) (y := x5) hp hn with ⟨i, m, him, ei, em, g1⟩ | ⟨g0, g1⟩
            · rw [g1 σ d3, zbnd_some, if_neg (show ¬ (1 : Int32) = 0 by decide)]
              rcases zplaces2 (N := N) (s := q) (n := n2) (x := x4) (y := x5) hq hn2 with ⟨j, m2, hjm, ej, em2, g3⟩ | ⟨g2, g3⟩
              · have emm : m2 = m := by
                  rw [em] at em2
                  exact ((nI_eq (by omega) (by omega)).mp em2).symm
                subst emm
                rw [g3 σ f3, zbnd_some, if_neg (show ¬ (1 : Int32) = 0 by decide), ei, ej, em, zcmove (by omega) (by omega), zbnd_some]
                unfold fX7_unfound
                have b1 : ¬ nI n < (0 : Int32) := nI_pos (by omega)
                have lg1 : ¬ (nI n).toInt64 < (nI i).toInt64 + (nI m2).toInt64 := by
                  rw [nI_l (by omega), nI_l (by omega), nI_l (by omega), ← iL_nat, ← iL_nat, ← iL_nat, iL_add, iL_lt (by unfold zB62; omega) (by unfold zB62; omega)]
                  omega
                have lg2 : (nI j).toInt64 + (nI m2).toInt64 ≤ (nI n2).toInt64 := by
                  rw [nI_l (by omega), nI_l (by omega), nI_l (by omega), ← iL_nat, ← iL_nat, ← iL_nat, iL_add, iL_le (by unfold zB62; omega) (by unfold zB62; omega)]
                  omega
                rw [zpf_eq, zbnd_some, if_neg (nI_pos (by omega)), if_neg (nI_pos (by omega)), if_neg (nI_pos (by omega)), zag_nI (by omega) (by omega), d4', if_neg lg1, zag_nI (by omega) (by omega), f4', if_pos lg2]
                have fin : ∀ υ : zSt, (∀ c, c ≠ 3 → υ.1 c = (zsi (zsi ρ 0 0 0) 0 1 0).1 c) → (∀ z, υ.1 3 z = if 40 * q + j ≤ z ∧ z < 40 * q + j + m2 then (zsi (zsi ρ 0 0 0) 0 1 0).1 3 (40 * p + i + (z - (40 * q + j))) else (zsi (zsi ρ 0 0 0) 0 1 0).1 3 z) → zR (zsi (zsc σ 2 (va_cpy (σ.1 2) (σ.1 2) (40 * p + i) (40 * q + j) m2)) 0 7 0) υ := by
                  intro υ h1 h2
                  refine zR_sheet hR2 (fun k q0 q2 q3 q4 => by rw [zsi_c q0]; exact if_neg q2) (by rw [zsi_o (by decide)]; rfl) (fun k q0 q1 q2 q3 => by rw [h1 k q3, zsi_c q0]) (fun v q0 q1 => by rw [h1 0 (by decide), zsi_o q1]) ⟨fun s' hs' => ?_, fun z hz => ?_⟩ (by rw [zsi_s, h1 0 (by decide), zsi_s])
                  · rw [h1 1 (by decide), h1 2 (by decide)]
                    exact hS.1 s' hs'
                  · rw [h2 z]
                    show va_cpy (σ.1 2) (σ.1 2) (40 * p + i) (40 * q + j) m2 z = _
                    unfold va_cpy
                    by_cases w : 40 * q + j ≤ z ∧ z < 40 * q + j + m2
                    · rw [if_pos w, if_pos w]
                      exact hS.2 _ (by omega)
                    · rw [if_neg w, if_neg w]
                      exact hS.2 z hz
                by_cases hij : i < j
                · obtain ⟨υ, u0, u1, u2⟩ := zmcopy_down (N := N) (p := p) (i := i) (q := q) (j := j) (n := m2) (f := (zsi (zsi ρ 0 0 0) 0 1 0).1 3) (by omega) (by omega) (by
                    rcases Nat.lt_trichotomy p q with w | w | w <;> omega) m2 N 0 (zsi (zsi ρ 0 0 0) 0 1 0) (by omega) (by omega) (fun z => by rw [if_neg (by omega)])
                  have u0 : fX8_copy_138 N (nI p) (nI i) (nI q) (nI j) (nI m2) 0 (zsi (zsi ρ 0 0 0) 0 1 0) = some (nI m2, υ) := u0
                  rw [if_pos (nI_lt hij (by omega)), u0]
                  exact ⟨_, _, _, rfl, rfl, fin υ u1 u2⟩
                · obtain ⟨υ, u0, u1, u2⟩ := zmcopy_up (N := N) (p := p) (i := i) (q := q) (j := j) (n := m2) (f := (zsi (zsi ρ 0 0 0) 0 1 0).1 3) (by omega) (by omega) (by
                    rcases Nat.lt_trichotomy p q with w | w | w <;> omega) m2 N 0 (zsi (zsi ρ 0 0 0) 0 1 0) (by omega) (by omega) (fun z => by rw [if_neg (by omega)])
                  have u0 : fX8_copy_138 N (nI p) (nI i) (nI q) (nI j) (nI m2) 1 (zsi (zsi ρ 0 0 0) 0 1 0) = some (nI m2, υ) := u0
                  rw [if_neg (nI_nlt (by omega) (by omega)), u0]
                  exact ⟨_, _, _, rfl, rfl, fin υ u1 u2⟩
              · rw [g3 σ f3, zbnd_some, if_pos rfl]
                have x2n : ¬ x2 < 0 := by rw [ei]; exact nI_pos (by omega)
                have x5n : ¬ x5 < 0 := by rw [em]; exact nI_pos (by omega)
                have lg1 : ¬ (nI n).toInt64 < x2.toInt64 + x5.toInt64 := by
                  rw [ei, em, nI_l (by omega), nI_l (by omega), nI_l (by omega), ← iL_nat, ← iL_nat, ← iL_nat, iL_add, iL_lt (by unfold zB62; omega) (by unfold zB62; omega)]
                  omega
                rw [if_neg x2n]
                by_cases x4n : x4 < 0
                · rw [if_pos x4n]; exact no100
                · rw [if_neg x4n, if_neg x5n, zag_nI (by omega) (by omega), d4', if_neg lg1, zag_nI (by omega) (by omega), f4']
                  rcases g2 with g2 | g2 | ⟨j, m2, hj, hm2, ej, em2, hgt⟩
                  · exact absurd g2 x4n
                  · exact absurd g2 x5n
                  · have lg2 : ¬ x4.toInt64 + x5.toInt64 ≤ (nI n2).toInt64 := by
                      rw [ej, em2, nI_l (by omega), nI_l (by omega), nI_l (by omega), ← iL_nat, ← iL_nat, ← iL_nat, iL_add, iL_le (by unfold zB62; omega) (by unfold zB62; omega)]
                      omega
                    rw [if_neg lg2]
                    exact no100
            · rw [g1 σ d3, zbnd_some, if_pos rfl]
              by_cases x2n : x2 < 0
              · rw [if_pos x2n]; exact no100
              · rw [if_neg x2n]
                by_cases x4n : x4 < 0
                · rw [if_pos x4n]; exact no100
                · rw [if_neg x4n]
                  by_cases x5n : x5 < 0
                  · rw [if_pos x5n]; exact no100
                  · rw [if_neg x5n, zag_nI (by omega) (by omega), d4']
                    rcases g0 with g0 | g0 | ⟨i, m, hi, hm, ei, em, hgt⟩
                    · exact absurd g0 x2n
                    · exact absurd g0 x5n
                    · have lg1 : (nI n).toInt64 < x2.toInt64 + x5.toInt64 := by
                        rw [ei, em, nI_l (by omega), nI_l (by omega), nI_l (by omega), ← iL_nat, ← iL_nat, ← iL_nat, iL_add, iL_lt (by unfold zB62; omega) (by unfold zB62; omega)]
                        omega
                      rw [if_pos lg1]
                      exact no100
          · rw [if_neg hll, if_neg hll, zrz_0, zbnd_some, if_pos rfl]
            unfold fX7_found fX8_finding
            rw [zpf_eq, zpf_eq, zbnd_some, zbnd_some]
            exact ⟨_, _, _, rfl, rfl, found 5⟩
    · rw [c3, c4, zbnd_some, zbnd_some, if_pos rfl, if_pos rfl]
      exact ⟨_, _, _, rfl, rfl, hR2⟩
  · rw [c1, c2, zbnd_some, zbnd_some, if_pos rfl, if_pos rfl]
    exact ⟨_, _, _, rfl, rfl, hR2⟩
