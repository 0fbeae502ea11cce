/-! ===== pair, unweigh ===== -/
theorem zmx_pair : ∀ p, p < 3 → ∀ q, q < 3 → p ≠ q → (zmx (2 + p + q) = p ∨ zmx (2 + p + q) = q) ∧ 3 ≤ 2 + p + q ∧ 2 + p + q < 6 := by decide
theorem zp_pair {N : Nat} (x y z w : Int32) : zP2 (fX7_pair N x y z w) (fX8_pair N x y z w) := by
  intro σ ρ hR
  have hR2 := zR_keep hR zKC_rfl (zKM_thr (σ := ρ))
  have hR' := hR2
  obtain ⟨a, ho, hc, hm, ⟨cnt, lo, hi, has, nd, w1, w2, w3⟩, hS, hT, hF, hA⟩ := hR'
  have hc3 := w1.1
  have pl : ∀ x, fX6_isPlace N x σ = fX7_isWithin N x 0 (nI cnt - 1) σ := fun x => zhas w1.2.1 (by omega)
  have e0 : (0 : Int64) = (0 : Int32).toInt64 := by decide
  have pm : ∀ x, fX8_in N x.toInt64 0 (nI cnt - 1).toInt64 (zsi ρ 0 0 0) = fX7_isWithin N x 0 (nI cnt - 1) (zsi ρ 0 0 0) := fun x => by rw [e0, zinM]
  unfold fX7_pair fX8_pair
  rw [zpf_eq, pl, w2.2.1, pm]
  rcases zw_ex (N := N) (n := cnt) (x := x) (by omega) with ⟨p, hp, ep, q1⟩ | ⟨-, q1⟩
  · rw [q1, q1, zbnd_some, zbnd_some, if_neg (show ¬ (1 : Int32) = 0 by decide), if_neg (show ¬ (1 : Int32) = 0 by decide), pl, w2.2.1, pm]
    rcases zw_ex (N := N) (n := cnt) (x := y) (by omega) with ⟨q, hq, eq, q2⟩ | ⟨-, q2⟩
    · rw [q2, q2, zbnd_some, zbnd_some, if_neg (show ¬ (1 : Int32) = 0 by decide), if_neg (show ¬ (1 : Int32) = 0 by decide)]
      by_cases hxy : x = y
      · rw [if_pos hxy, if_pos hxy]
        exact ⟨_, _, _, rfl, rfl, hR2⟩
      · have hpq : p ≠ q := fun v => hxy (by rw [ep, eq, v])
        obtain ⟨m1, m2, m3⟩ := zmx_pair p (by omega) q (by omega) hpq
        rw [if_neg hxy, if_neg hxy]
        rcases zspan2 (N := N) z w with ⟨l, h, hl, hh, el, eh, s1, s2, s3⟩ | ⟨s1, s2 | ⟨s2, s3⟩⟩
        · have i1 : nI p + nI q - 1 = nI (p + q - 1) := by
            rw [nI_add, show p + q = (p + q - 1) + 1 by omega, nI_pred]; rfl
          have i2 : (2 : Int32) + nI p + nI q = nI (2 + p + q) := by
            rw [show (2 : Int32) = nI 2 from rfl, nI_add, nI_add]
          have n1 : vp_nar .boolean (1 : Int32) = nI 1 := by decide
          unfold fX6_tellPair
          rw [s1, s2, zbnd_some, zbnd_some, if_neg (show ¬ (1 : Int32) = 0 by decide), if_neg (show ¬ (1 : Int32) = 0 by decide), s3, zbnd_some, if_neg (show ¬ (1 : Int32) = 0 by decide), ep, eq, el, eh, i1, i2, zas_nI (by omega) (by omega), zas_nI (by omega) (by omega), zbnd_some, zas_nI (by omega) (by omega), zas_nI (by omega) (by omega), zas_nI (by omega) (by omega), n1]
          refine ⟨_, _, _, rfl, rfl, ⟨a, ho, hc, hm, ⟨cnt, zu1 lo (2 + p + q) l, zu1 hi (2 + p + q) h, fun j => if j = 2 + p + q then true else has j, nd, ?_, ?_, ?_⟩, hS, hT, hF, hA⟩⟩
          · refine ⟨hc3, w1.2.1, fun j hj => ?_, fun j hj => ?_, fun j hj => ?_⟩
            · show σ.1 25 j = nI (if j = 2 + p + q then l else lo j) ∧ σ.1 26 j = nI (if j = 2 + p + q then h else hi j)
              rw [if_neg (by omega), if_neg (by omega)]
              exact w1.2.2.1 j hj
            · show (zsi σ 27 (p + q - 1) (nI l)).1 27 j = nI (if 3 + j = 2 + p + q then l else lo (3 + j)) ∧ (zsi (zsi σ 27 (p + q - 1) (nI l)) 28 (p + q - 1) (nI h)).1 28 j = nI (if 3 + j = 2 + p + q then h else hi (3 + j))
              by_cases v : j = p + q - 1
              · rw [if_pos (by omega), if_pos (by omega), v, zsi_s, zsi_s]; exact ⟨rfl, rfl⟩
              · rw [if_neg (by omega), if_neg (by omega), zsi_o v, zsi_o v]
                exact w1.2.2.2.1 j hj
            · have b := w1.2.2.2.2 j hj
              show (if j = 2 + p + q then l else lo j) ≤ 100 ∧ (if j = 2 + p + q then h else hi j) ≤ 100
              by_cases v : j = 2 + p + q
              · rw [if_pos v, if_pos v]; omega
              · rw [if_neg v, if_neg v]; exact b
          · refine ⟨hc3, w2.2.1, fun j hj => ?_⟩
            obtain ⟨b1, b2, b3, b4⟩ := w2.2.2 j hj
            show (zsi (zsi ρ 0 0 0) 16 (2 + p + q) (nI 1)).1 16 j = nI (if (if j = 2 + p + q then true else has j) = true then 1 else 0) ∧ ((if j = 2 + p + q then true else has j) = true → (zsi (zsi (zsi ρ 0 0 0) 16 (2 + p + q) (nI 1)) 17 (2 + p + q) (nI l)).1 17 j = nI (if j = 2 + p + q then l else lo j) ∧ (zsi (zsi (zsi (zsi ρ 0 0 0) 16 (2 + p + q) (nI 1)) 17 (2 + p + q) (nI l)) 18 (2 + p + q) (nI h)).1 18 j = nI (if j = 2 + p + q then h else hi j) ∧ zmx j < cnt) ∧ ((if j = 2 + p + q then true else has j) = false → (if j = 2 + p + q then l else lo j) = 0 ∧ (if j = 2 + p + q then h else hi j) = 100) ∧ (if j = 2 + p + q then l else lo j) ≤ 100 ∧ (if j = 2 + p + q then h else hi j) ≤ 100
            by_cases v : j = 2 + p + q
            · rw [if_pos v, if_pos v, if_pos v, v, zsi_s, zsi_s, zsi_s]
              exact ⟨rfl, fun _ => ⟨rfl, rfl, by omega⟩, fun u => absurd u (by decide), by omega, hh⟩
            · rw [if_neg v, if_neg v, if_neg v, zsi_o v, zsi_o v, zsi_o v]
              exact ⟨b1, b2, b3, b4⟩
          · intro j hj
            show σ.1 24 j = nI (nd j) ∧ (zsi ρ 0 0 0).1 15 j = nI (nd j) ∧ nd j < a 0 0 ∧ (if j = 2 + p + q then true else has j) = true
            rw [if_neg (by omega)]
            exact w3 j hj
        · rw [s1, s2, zbnd_some, zbnd_some, if_pos rfl, if_pos rfl]
          exact ⟨_, _, _, rfl, rfl, hR2⟩
        · rw [s1, s2, zbnd_some, zbnd_some, if_pos rfl, if_neg (show ¬ (1 : Int32) = 0 by decide), s3, zbnd_some, if_pos rfl]
          exact ⟨_, _, _, rfl, rfl, hR2⟩
    · rw [q2, q2, zbnd_some, zbnd_some, if_pos rfl, if_pos rfl]
      exact ⟨_, _, _, rfl, rfl, hR2⟩
  · rw [q1, q1, zbnd_some, zbnd_some, if_pos rfl, if_pos rfl]
    exact ⟨_, _, _, rfl, rfl, hR2⟩
theorem zcclear {N : Nat} {x1 : Int32} : ∀ (g f i : Nat) (σ : zSt), g < f → i + g = 3 → ∃ τ, fX6_clear_12 N f x1 (nI i) σ = some (x1, τ) ∧ (∀ k, k ≠ 27 → k ≠ 28 → τ.1 k = σ.1 k) ∧ (∀ j, j < i → τ.1 27 j = σ.1 27 j ∧ τ.1 28 j = σ.1 28 j) ∧ ∀ j, i ≤ j → j < 3 → τ.1 27 j = 0 ∧ τ.1 28 j = 100
  | 0, f + 1, i, σ, _, hi => by
    rw [fX6_clear_12, if_pos (show (3 : Int32) ≤ nI i from nI_le (a := 3) (by omega) (by omega))]
    exact ⟨σ, rfl, fun _ _ _ => rfl, fun _ _ => ⟨rfl, rfl⟩, fun j h1 h2 => by omega⟩
  | g + 1, f + 1, i, σ, hf, hi => by
    rw [fX6_clear_12, if_neg (show ¬ (3 : Int32) ≤ nI i from nI_ge (b := 3) (by omega) (by omega)), zas_nI (by omega) (by omega), zas_nI (by omega) (by omega), nI_1]
    obtain ⟨τ, e, e1, e2, e3⟩ := zcclear (N := N) (x1 := x1) g f (i + 1) (zsi (zsi σ 27 i 0) 28 i 100) (by omega) (by omega)
    refine ⟨τ, e, fun k h1 h2 => (e1 k h1 h2).trans (by rw [zsi_c h2, zsi_c h1]), fun j hj => ?_, fun j h1 h2 => ?_⟩
    · obtain ⟨p1, p2⟩ := e2 j (by omega)
      rw [p1, p2, zsi_c (by decide), zsi_o (by omega), zsi_o (by omega), zsi_c (by decide)]
      exact ⟨rfl, rfl⟩
    · by_cases q : j = i
      · obtain ⟨p1, p2⟩ := e2 j (by omega)
        rw [p1, p2, q, zsi_c (by decide), zsi_s, zsi_s]
        exact ⟨rfl, rfl⟩
      · exact e3 j (by omega) h2
theorem zmclear {N : Nat} {x1 : Int32} : ∀ (g f i : Nat) (σ : zSt), g < f → i + g = 6 → ∃ τ, fX8_unweigh_17 N f x1 (nI i) σ = some (x1, τ) ∧ (∀ k, k ≠ 16 → τ.1 k = σ.1 k) ∧ (∀ j, j < i → τ.1 16 j = σ.1 16 j) ∧ ∀ j, i ≤ j → j < 6 → τ.1 16 j = 0
  | 0, f + 1, i, σ, _, hi => by
    rw [fX8_unweigh_17, if_pos (show (6 : Int32) ≤ nI i from nI_le (a := 6) (by omega) (by omega))]
    exact ⟨σ, rfl, fun _ _ => rfl, fun _ _ => rfl, fun j h1 h2 => by omega⟩
  | g + 1, f + 1, i, σ, hf, hi => by
    have n0 : vp_nar .boolean (0 : Int32) = 0 := by decide
    rw [fX8_unweigh_17, if_neg (show ¬ (6 : Int32) ≤ nI i from nI_ge (b := 6) (by omega) (by omega)), zas_nI (by omega) (by omega), nI_1, n0]
    obtain ⟨τ, e, e1, e2, e3⟩ := zmclear (N := N) (x1 := x1) g f (i + 1) (zsi σ 16 i 0) (by omega) (by omega)
    refine ⟨τ, e, fun k h1 => (e1 k h1).trans (zsi_c h1), fun j hj => (e2 j (by omega)).trans (zsi_o (by omega)), fun j h1 h2 => ?_⟩
    by_cases q : j = i
    · rw [e2 j (by omega), q, zsi_s]
    · exact e3 j (by omega) h2
theorem zp_unweigh {N : Nat} (hN : 600000 ≤ N) : zP2 (fX7_unweigh N) (fX8_unweigh N) := by
  intro σ ρ hR
  have hR2 := zR_keep hR zKC_rfl (zKM_thr (σ := ρ))
  obtain ⟨a, ho, hc, hm, ⟨cnt, lo, hi, has, nd, w1, w2, w3⟩, hS, hT, hF, hA⟩ := hR2
  unfold fX7_unweigh fX6_clear fX8_unweigh
  rw [zpf_eq, znm_eq, znm_eq, zpf_eq, zpf_eq, w1.2.1, w2.2.1]
  obtain ⟨τ, e, e1, -, e3⟩ := zcclear (N := N) (x1 := nI cnt) 3 N 0 (zsi σ 23 0 0) (by omega) (by omega)
  obtain ⟨υ, f, f1, -, f3⟩ := zmclear (N := N) (x1 := nI cnt) 6 N 0 (zsi (zsi ρ 0 0 0) 0 31 0) (by omega) (by omega)
  have e : fX6_clear_12 N N (nI cnt) 0 (zsi σ 23 0 0) = some (nI cnt, τ) := e
  have f : fX8_unweigh_17 N N (nI cnt) 0 (zsi (zsi ρ 0 0 0) 0 31 0) = some (nI cnt, υ) := f
  have g1 : ∀ k, k ≠ 23 → k ≠ 27 → k ≠ 28 → τ.1 k = σ.1 k := fun k a b c => (e1 k b c).trans (zsi_c a)
  have g2 : ∀ k, k ≠ 0 → k ≠ 16 → υ.1 k = (zsi ρ 0 0 0).1 k := fun k a b => (f1 k b).trans (zsi_c a)
  have g3 : ∀ i, i ≠ 31 → υ.1 0 i = (zsi ρ 0 0 0).1 0 i := fun i hi => by rw [f1 0 (by decide)]; exact zsi_o hi
  rw [e, f, zbnd_some]
  refine ⟨_, _, _, rfl, rfl, ⟨a, ho, zCN_fr hc (fun k h1 h2 => g1 k (by omega) (by omega) (by omega)), zMN_fr hm (fun k h1 h2 => g2 k (by omega) (by omega)) (g3 5 (by decide)) (g3 6 (by decide)) (g3 29 (by decide)), ⟨0, fun _ => 0, fun _ => 100, fun _ => false, nd, ?_, ?_, fun k hk => by omega⟩, ?_, ?_, ?_, ?_⟩⟩
  · refine ⟨by omega, ?_, fun k hk => by omega, fun j hj => ?_, fun k hk => ⟨Nat.zero_le 100, Nat.le_refl 100⟩⟩
    · rw [e1 23 (by decide) (by decide), zsi_s]; rfl
    · obtain ⟨p1, p2⟩ := e3 j (by omega) hj
      exact ⟨p1, p2⟩
  · refine ⟨by omega, ?_, fun k hk => ⟨f3 k (by omega) hk, fun q => absurd (show false = true from q) (by decide), fun _ => ⟨rfl, rfl⟩, Nat.zero_le 100, Nat.le_refl 100⟩⟩
    rw [f1 0 (by decide), zsi_s]; rfl
  · unfold zRS
    rw [g1 2 (by decide) (by decide) (by decide), g1 3 (by decide) (by decide) (by decide), g1 4 (by decide) (by decide) (by decide), g2 1 (by decide) (by decide), g2 2 (by decide) (by decide), g2 3 (by decide) (by decide)]
    exact hS
  · unfold zRT
    rw [g1 5 (by decide) (by decide) (by decide), g1 6 (by decide) (by decide) (by decide), g3 20 (by decide), g2 14 (by decide) (by decide)]
    exact hT
  · unfold zRF
    rw [g1 0 (by decide) (by decide) (by decide), g3 21 (by decide), g3 1 (by decide)]
    exact hF
  · unfold zRA
    rw [g1 33 (by decide) (by decide) (by decide), g1 34 (by decide) (by decide) (by decide), g3 45 (by decide), g2 22 (by decide) (by decide)]
    exact hA
