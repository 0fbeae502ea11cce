/-! ===== sheet ===== -/
theorem z40 {r c : Nat} : (40 : Int32) * nI r + nI c = nI (40 * r + c) := by
  show nI 40 * nI r + nI c = _
  rw [pk_mul, nI_add]
theorem z40' {r c : Nat} : nI r * (40 : Int32) + nI c = nI (40 * r + c) := by
  show nI r * nI 40 + nI c = _
  rw [pk_mul, nI_add, Nat.mul_comm]
theorem zclay {N s : Nat} (hs : s < 8) : ∀ (g f i : Nat) (σ : zSt), g < f → i + g = 40 → ∃ τ, fX3_lay_17 N f (nI s) (nI i) σ = some ((), τ) ∧ (∀ k, k ≠ 2 → τ.1 k = σ.1 k) ∧ ∀ z, τ.1 2 z = if 40 * s + i ≤ z ∧ z < 40 * s + 40 then 0 else σ.1 2 z
  | 0, f + 1, i, σ, _, hi => by
    rw [fX3_lay_17, if_pos (show (40 : Int32) ≤ nI i from nI_le (a := 40) (by omega) (by omega))]
    exact ⟨σ, rfl, fun _ _ => rfl, fun z => by rw [if_neg (by omega)]⟩
  | g + 1, f + 1, i, σ, hf, hi => by
    rw [fX3_lay_17, if_neg (show ¬ (40 : Int32) ≤ nI i from nI_ge (b := 40) (by omega) (by omega)), z40', zas_nI (by omega) (by omega), nI_1]
    obtain ⟨τ, e, e1, e2⟩ := zclay (N := N) hs g f (i + 1) (zsi σ 2 (40 * s + i) 0) (by omega) (by omega)
    refine ⟨τ, e, fun k hk => (e1 k hk).trans (zsi_c hk), fun z => ?_⟩
    rw [e2 z]
    by_cases q : z = 40 * s + i
    · rw [if_neg (by omega), if_pos (by omega), q, zsi_s]
    · rw [zsi_o q]
      by_cases q2 : 40 * s + (i + 1) ≤ z ∧ z < 40 * s + 40
      · rw [if_pos q2, if_pos (by omega)]
      · rw [if_neg q2, if_neg (by omega)]
theorem zmlay {N s : Nat} {x3 : Int32} (hs : s < 8) : ∀ (g f i : Nat) (σ : zSt), g < f → i + g = 40 → ∃ τ, fX8_sheet_65 N f (nI s) x3 (nI i) σ = some (x3, τ) ∧ (∀ k, k ≠ 3 → τ.1 k = σ.1 k) ∧ ∀ z, τ.1 3 z = if 40 * s + i ≤ z ∧ z < 40 * s + 40 then 0 else σ.1 3 z
  | 0, f + 1, i, σ, _, hi => by
    rw [fX8_sheet_65, if_pos (show (40 : Int32) ≤ nI i from nI_le (a := 40) (by omega) (by omega))]
    exact ⟨σ, rfl, fun _ _ => rfl, fun z => by rw [if_neg (by omega)]⟩
  | g + 1, f + 1, i, σ, hf, hi => by
    rw [fX8_sheet_65, if_neg (show ¬ (40 : Int32) ≤ nI i from nI_ge (b := 40) (by omega) (by omega)), z40, zas_nI (by omega) (by omega), nI_1]
    obtain ⟨τ, e, e1, e2⟩ := zmlay (N := N) (x3 := x3) hs g f (i + 1) (zsi σ 3 (40 * s + i) 0) (by omega) (by omega)
    refine ⟨τ, e, fun k hk => (e1 k hk).trans (zsi_c hk), fun z => ?_⟩
    rw [e2 z]
    by_cases q : z = 40 * s + i
    · rw [if_neg (by omega), if_pos (by omega), q, zsi_s]
    · rw [zsi_o q]
      by_cases q2 : 40 * s + (i + 1) ≤ z ∧ z < 40 * s + 40
      · rw [if_pos q2, if_pos (by omega)]
      · rw [if_neg q2, if_neg (by omega)]
theorem zp_sheet {N : Nat} (hN : 600000 ≤ N) (x y z : Int32) : zP2 (fX7_sheet N x y z) (fX8_sheet N x y z) := by
  intro σ ρ hR
  have hR2 := zR_keep hR zKC_rfl (zKM_thr (σ := ρ))
  have hR' := hR2
  obtain ⟨a, -, -, -, -, hS, -, hF, -⟩ := hR'
  unfold fX7_sheet fX8_sheet
  have e0 : (0 : Int64) = (0 : Int32).toInt64 := by decide
  have e2 : (2 : Int64) = (nI 3 - 1).toInt64 := by decide
  have e2' : (2 : Int32) = nI 3 - 1 := by decide
  rw [zpf_eq, e2, e0]
  rcases zsheet2 (N := N) x with ⟨s, hs, e, c1, c2⟩ | ⟨c1, c2⟩
  · rw [c1, c2, zbnd_some, zbnd_some, if_neg (show ¬ (1 : Int32) = 0 by decide), if_neg (show ¬ (1 : Int32) = 0 by decide), zinM]
    have ew : fX7_isWithin N y 0 2 σ = fX7_isWithin N y 0 (nI 3 - 1) σ := rfl
    rw [ew]
    rcases zw_ex (N := N) (n := 3) (x := y) (by decide) with ⟨l, hl, el, q⟩ | ⟨-, q⟩
    · rw [q, q, zbnd_some, zbnd_some, if_neg (show ¬ (1 : Int32) = 0 by decide), if_neg (show ¬ (1 : Int32) = 0 by decide)]
      by_cases hz : z ≤ (40 : Int32)
      · rw [if_pos hz, if_pos hz, zpf_eq]
        by_cases hz0 : (0 : Int32) ≤ z
        · obtain ⟨n, hn, en⟩ : ∃ n, n ≤ 40 ∧ z = nI n := by
            obtain ⟨j, hj, ej⟩ := nI_of (x := z) (by rw [fa_lt]; rw [fa_le] at hz0; omega)
            refine ⟨j, ?_, ej⟩
            rw [ej] at hz
            exact (nI_leI (b := 40) hj (by omega)).mp hz
          rw [if_pos hz0, if_pos hz0, e, el, en, zas_nI (by omega) (by omega), zas_nI (by omega) (by omega)]
          unfold fX3_lay
          rw [zas_nI (by omega) (by omega), zas_nI (by omega) (by omega)]
          obtain ⟨τ, t0, t1, t2⟩ := zclay (N := N) hs 40 N 0 (zsi (zsi σ 3 s (nI l)) 4 s (nI n)) (by omega) (by omega)
          obtain ⟨υ, u0, u1, u2⟩ := zmlay (N := N) (x3 := nI n) hs 40 N 0 (zsi (zsi (zsi (zsi ρ 0 0 0) 0 1 0) 1 s (nI l)) 2 s (nI n)) (by omega) (by omega)
          have t0 : fX3_lay_17 N N (nI s) 0 (zsi (zsi σ 3 s (nI l)) 4 s (nI n)) = some ((), τ) := t0
          have u0 : fX8_sheet_65 N N (nI s) (nI n) 0 (zsi (zsi (zsi (zsi ρ 0 0 0) 0 1 0) 1 s (nI l)) 2 s (nI n)) = some (nI n, υ) := u0
          unfold fX7_unfound
          rw [t0, zbnd_some, zpf_eq, zbnd_some, u0]
          refine ⟨_, _, _, rfl, rfl, zR_sheet hR2 (fun k q0 q2 q3 q4 => by rw [zsi_c q0, t1 k q2, zsi_c q4, zsi_c q3]) (by rw [zsi_o (by decide), t1 0 (by decide), zsi_c (by decide), zsi_c (by decide)]) (fun k q0 q1 q2 q3 => by rw [u1 k q3, zsi_c q2, zsi_c q1, zsi_c q0]) (fun i q0 q1 => by rw [u1 0 (by decide), zsi_c (by decide), zsi_c (by decide), zsi_o q1]) ⟨fun s' hs' => ?_, fun i hi => ?_⟩ (by rw [zsi_s, u1 0 (by decide), zsi_c (by decide), zsi_c (by decide), zsi_s])⟩
          · rw [zsi_c (by decide), zsi_c (by decide), t1 4 (by decide), t1 3 (by decide), u1 1 (by decide), u1 2 (by decide), zsi_c (a := 3) (k := 4) (by decide), zsi_c (a := 1) (k := 2) (by decide)]
            by_cases v : s' = s
            · subst v
              rw [zsi_s, zsi_s, zsi_s, zsi_s]
              exact Or.inr ⟨l, n, by omega, hn, rfl, rfl, rfl, rfl⟩
            · rw [zsi_o v, zsi_o v, zsi_o v, zsi_o v]
              exact hS.1 s' hs'
          · rw [zsi_c (by decide), t2 i, u2 i]
            by_cases v : 40 * s + 0 ≤ i ∧ i < 40 * s + 40
            · rw [if_pos v, if_pos v]
            · rw [if_neg v, if_neg v]
              exact hS.2 i hi
        · rw [if_neg hz0, if_neg hz0]
          unfold fX7_found fX8_finding
          rw [zpf_eq, zpf_eq, zbnd_some, zbnd_some]
          exact ⟨_, _, _, rfl, rfl, zR_sheet hR2 (fun k q _ _ _ => zsi_c q) (zsi_o (by decide)) (fun k q _ _ _ => by rw [zsi_c q, zsi_c q]) (fun i q1 q2 => by rw [zsi_o q2, zsi_o q2]) hS (by rw [zsi_s, zsi_s])⟩
      · rw [if_neg hz, if_neg hz]
        exact ⟨_, _, _, rfl, rfl, hR2⟩
    · rw [q, q, zbnd_some, zbnd_some, if_pos rfl, if_pos rfl]
      exact ⟨_, _, _, rfl, rfl, hR2⟩
  · rw [c1, c2, zbnd_some, zbnd_some, if_pos rfl, if_pos rfl]
    exact ⟨_, _, _, rfl, rfl, hR2⟩
