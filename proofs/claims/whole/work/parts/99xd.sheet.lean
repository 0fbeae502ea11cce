/-! ===== sheets ===== -/
theorem zR_sheet {σ ρ τ υ : zSt} (h : zR σ ρ) (hc : ∀ k, k ≠ 0 → k ≠ 2 → k ≠ 3 → k ≠ 4 → τ.1 k = σ.1 k) (hc0 : τ.1 0 6 = σ.1 0 6) (hm : ∀ k, k ≠ 0 → k ≠ 1 → k ≠ 2 → k ≠ 3 → υ.1 k = ρ.1 k) (hm0 : ∀ i, i ≠ 0 → i ≠ 1 → υ.1 0 i = ρ.1 0 i) (hS : zRS τ υ) (hst : τ.1 0 7 = υ.1 0 1) : zR τ υ := by
  obtain ⟨a, h1, h2, h3, ⟨cnt, lo, hi, has, nd, w1, w2, w3⟩, h5, h6, h7, h8⟩ := h
  refine ⟨a, h1, zCN_fr h2 (fun k q1 q2 => hc k (by omega) (by omega) (by omega) (by omega)), zMN_fr h3 (fun k q1 q2 => hm k (by omega) (by omega) (by omega) (by omega)) (hm0 5 (by decide) (by decide)) (hm0 6 (by decide) (by decide)) (hm0 29 (by decide) (by decide)), ⟨cnt, lo, hi, has, nd, ?_, ?_, fun k hk => ?_⟩, hS, ?_, ⟨?_, hst⟩, ?_⟩
  · obtain ⟨y1, y2, y3, y4, y5⟩ := w1
    refine ⟨y1, ?_, fun k hk => ?_, fun j hj => ?_, y5⟩
    · rw [hc 23 (by decide) (by decide) (by decide) (by decide)]; exact y2
    · rw [hc 25 (by decide) (by decide) (by decide) (by decide), hc 26 (by decide) (by decide) (by decide) (by decide)]; exact y3 k hk
    · rw [hc 27 (by decide) (by decide) (by decide) (by decide), hc 28 (by decide) (by decide) (by decide) (by decide)]; exact y4 j hj
  · obtain ⟨y1, y2, y3⟩ := w2
    refine ⟨y1, ?_, fun k hk => ?_⟩
    · rw [hm0 31 (by decide) (by decide)]; exact y2
    · rw [hm 16 (by decide) (by decide) (by decide) (by decide), hm 17 (by decide) (by decide) (by decide) (by decide), hm 18 (by decide) (by decide) (by decide) (by decide)]; exact y3 k hk
  · rw [hc 24 (by decide) (by decide) (by decide) (by decide), hm 15 (by decide) (by decide) (by decide) (by decide)]; exact w3 k hk
  · unfold zRT at *
    rw [hc 5 (by decide) (by decide) (by decide) (by decide), hc 6 (by decide) (by decide) (by decide) (by decide), hm0 20 (by decide) (by decide), hm 14 (by decide) (by decide) (by decide) (by decide)]
    exact h6
  · rw [hc0, hm0 21 (by decide) (by decide)]
    exact h7.1
  · unfold zRA at *
    rw [hc 33 (by decide) (by decide) (by decide) (by decide), hc 34 (by decide) (by decide) (by decide) (by decide), hm0 45 (by decide) (by decide), hm 22 (by decide) (by decide) (by decide) (by decide)]
    exact h8
theorem zsheet2 {N : Nat} (x : Int32) : (∃ s, s < 8 ∧ x = nI s ∧ (∀ σ, fX3_isNumber N x σ = some (1, σ)) ∧ ∀ ρ, fX8_isSheet N x ρ = some (1, ρ)) ∨ ((∀ σ, fX3_isNumber N x σ = some (0, σ)) ∧ ∀ ρ, fX8_isSheet N x ρ = some (0, ρ)) := by
  have e0 : (0 : Int64) = (0 : Int32).toInt64 := by decide
  have e7 : (7 : Int64) = (nI 8 - 1).toInt64 := by decide
  have h1 : ∀ σ, fX3_isNumber N x σ = fX7_isWithin N x 0 (nI 8 - 1) σ := fun σ => zhas (y := 8) rfl (by decide)
  have h2 : ∀ ρ, fX8_isSheet N x ρ = zbnd (fX7_isWithin N x 0 (nI 8 - 1) ρ) (fun b1 σ2 => zrz b1 σ2) := fun ρ => by
    unfold fX8_isSheet
    rw [e7, e0, zinM]
  rcases zw_ex (N := N) (n := 8) (x := x) (by decide) with ⟨s, hs, e, q⟩ | ⟨-, q⟩
  · exact Or.inl ⟨s, hs, e, fun σ => by rw [h1, q], fun ρ => by rw [h2, q, zbnd_some]; exact zrz_1⟩
  · exact Or.inr ⟨fun σ => by rw [h1, q], fun ρ => by rw [h2, q, zbnd_some]; exact zrz_0⟩
theorem zp_drop {N : Nat} (x : Int32) : zP2 (fX7_drop N x) (fX8_drop N x) := by
  intro σ ρ hR
  have hR2 := zR_keep hR zKC_rfl (zKM_thr (σ := ρ))
  have hR' := hR2
  obtain ⟨a, -, -, -, -, hS, -, hF, -⟩ := hR'
  unfold fX7_drop fX8_drop
  rw [zpf_eq]
  rcases zsheet2 (N := N) x with ⟨s, hs, e, c1, c2⟩ | ⟨c1, c2⟩
  · rw [c1, c2, zbnd_some, zbnd_some, if_neg (show ¬ (1 : Int32) = 0 by decide), if_neg (show ¬ (1 : Int32) = 0 by decide), e, zpf_eq, zag_nI (by omega) (by omega)]
    unfold fX3_isMissing
    rw [zag_nI (by omega) (by omega)]
    have keep : ∀ v, zRS (zsi σ 0 7 v) (zsi (zsi ρ 0 0 0) 0 1 v) := fun v => hS
    rcases hS.1 s hs with ⟨d1, d2⟩ | ⟨l, n, hl, hn, d1, d2, d3, d4⟩
    · have d2' : (zsi (zsi ρ 0 0 0) 0 1 0).1 1 s = -1 := d2
      rw [d1, d2', if_pos rfl, zrz_1, zbnd_some, if_neg (show ¬ (1 : Int32) = 0 by decide), if_neg (show ¬ (0 : Int32) ≤ -1 by decide)]
      unfold fX7_found fX8_finding
      rw [zpf_eq, zpf_eq, zbnd_some, zbnd_some]
      refine ⟨_, _, _, rfl, rfl, zR_sheet hR2 (fun k q _ _ _ => zsi_c q) (zsi_o (by decide)) (fun k q _ _ _ => by rw [zsi_c q, zsi_c q]) (fun i q1 q2 => by rw [zsi_o q2, zsi_o q2]) hS (by rw [zsi_s, zsi_s])⟩
    · have d2' : (zsi (zsi ρ 0 0 0) 0 1 0).1 1 s = nI l := d2
      have nm : ¬ nI n = (-1 : Int32) := fun z => by
        have := nI_pos (n := n) (by omega)
        rw [z] at this
        exact absurd (by decide) this
      rw [d3, d2', if_neg nm, zrz_0, zbnd_some, if_pos rfl, if_pos (nI_pos' (by omega))]
      unfold fX3_takeAway fX7_unfound
      have d4' : (zsi (zsi (zsi ρ 0 0 0) 0 1 0) 1 s (-1)).1 2 s = nI n := d4
      rw [zag_nI (by omega) (by omega), zas_nI (by omega) (by omega), zbnd_some, zpf_eq, zbnd_some, d3, zas_nI (by omega) (by omega), zag_nI (by omega) (by omega), d4']
      refine ⟨_, _, _, rfl, rfl, zR_sheet hR2 (fun k q _ _ q4 => by rw [zsi_c q, zsi_c q4]) (by rw [zsi_o (by decide)]; rfl) (fun k q q1 _ _ => by rw [zsi_c q1, zsi_c q]) (fun i q1 q2 => by rw [zsi_c (by decide), zsi_o q2]) ⟨fun s' hs' => ?_, hS.2⟩ (by rw [zsi_s, zsi_c (by decide), zsi_s])⟩
      by_cases v : s' = s
      · subst v
        exact Or.inl ⟨by show (zsi σ 4 s' (-1)).1 4 s' = -1; exact zsi_s, by show (zsi (zsi (zsi ρ 0 0 0) 0 1 0) 1 s' (-1)).1 1 s' = -1; exact zsi_s⟩
      · rcases hS.1 s' hs' with ⟨f1, f2⟩ | ⟨l', n', g1, g2, g3, g4, g5, g6⟩
        · exact Or.inl ⟨by show (zsi σ 4 s (-1)).1 4 s' = -1; rw [zsi_o v]; exact f1, by show (zsi (zsi (zsi ρ 0 0 0) 0 1 0) 1 s (-1)).1 1 s' = -1; rw [zsi_o v]; exact f2⟩
        · exact Or.inr ⟨l', n', g1, g2, g3, by show (zsi (zsi (zsi ρ 0 0 0) 0 1 0) 1 s (-1)).1 1 s' = nI l'; rw [zsi_o v]; exact g4, by show (zsi σ 4 s (-1)).1 4 s' = nI n'; rw [zsi_o v]; exact g5, g6⟩
  · rw [c1, c2, zbnd_some, zbnd_some, if_pos rfl, if_pos rfl]
    exact ⟨_, _, _, rfl, rfl, hR2⟩
