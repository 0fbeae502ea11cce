/-! ===== set ===== -/
theorem zplaces {N s n m : Nat} {x : Int32} {σ : zSt} (hs : s < 8) (hn : n ≤ 40) (hm : m ≤ 40) (h4 : σ.1 4 s = nI n) : (∃ k, k + m ≤ n ∧ x = nI k ∧ fX3_hasPlaces N (nI s) x (nI m) σ = some (1, σ)) ∨ ((x < 0 ∨ ∃ k, k < 2 ^ 31 ∧ x = nI k ∧ n < k + m) ∧ fX3_hasPlaces N (nI s) x (nI m) σ = some (0, σ)) := by
  unfold fX3_hasPlaces
  by_cases q : x < 0
  · exact Or.inr ⟨Or.inl q, by rw [if_pos q]; exact zrz_0⟩
  · obtain ⟨k, hk, ek⟩ := nI_of q
    rw [if_neg q, if_neg (nI_pos (by omega)), zag_nI (by omega) (by omega), h4, ek, ← iI_nat n, ← iI_nat k, iI_sub, ← iI_nat m]
    by_cases v : k + m ≤ n
    · refine Or.inl ⟨k, v, rfl, ?_⟩
      rw [if_neg (fun z => absurd ((iI_lt (by omega) (by omega)).mp z) (by omega))]; exact zrz_1
    · refine Or.inr ⟨Or.inr ⟨k, hk, rfl, by omega⟩, ?_⟩
      rw [if_pos ((iI_lt (by omega) (by omega)).mpr (by omega))]; exact zrz_0
theorem zcput {N s i l : Nat} {v : Int32} {σ : zSt} (hs : s < 8) (hi : i < 40) (hl : l ≤ 2) (h3 : σ.1 3 s = nI l) : fX3_put N (nI s) (nI i) v σ = some ((if l = 0 then v.toInt8.toInt32 else if l = 1 then v.toInt16.toInt32 else v), zsi σ 2 (40 * s + i) (if l = 0 then v.toInt8.toInt32 else if l = 1 then v.toInt16.toInt32 else v)) := by
  unfold fX3_put fX3_put_16 fX3_put_30
  rw [zag_nI (by omega) (by omega), h3]
  rcases (show l = 0 ∨ l = 1 ∨ l = 2 by omega) with z | z | z <;> subst z
  · rw [if_pos (show nI 0 = (0 : Int32) from rfl), znm_eq, zag_nI (by omega) (by omega), h3, if_neg (show ¬ nI 0 = (1 : Int32) by decide), z40', zas_nI (by omega) (by omega)]
    rfl
  · rw [if_neg (show ¬ nI 1 = (0 : Int32) by decide), zag_nI (by omega) (by omega), h3, if_pos (show nI 1 = (1 : Int32) from rfl), znm_eq, z40', zas_nI (by omega) (by omega)]
    rfl
  · rw [if_neg (show ¬ nI 2 = (0 : Int32) by decide), zag_nI (by omega) (by omega), h3, if_neg (show ¬ nI 2 = (1 : Int32) by decide), z40', zas_nI (by omega) (by omega)]
    rfl
theorem zp_set {N : Nat} (x y z : Int32) : zP2 (fX7_set N x y z) (fX8_set N x y z) := by
  intro σ ρ hR
  have hR2 := zR_keep hR zKC_rfl (zKM_thr (σ := ρ))
  have hR' := hR2
  obtain ⟨a, -, -, -, -, hS, -, hF, -⟩ := hR'
  have e0 : (0 : Int64) = (0 : Int32).toInt64 := by decide
  have found : ∀ v, zR (zsi σ 0 7 v) (zsi (zsi (zsi ρ 0 0 0) 0 1 0) 0 1 v) := fun v => zR_sheet hR2 (fun k q _ _ _ => zsi_c q) (zsi_o (by decide)) (fun k q _ _ _ => by rw [zsi_c q, zsi_c q]) (fun i q1 q2 => by rw [zsi_o q2, zsi_o q2]) hS (by rw [zsi_s, zsi_s])
  unfold fX7_set fX8_set
  rw [zpf_eq]
  rcases zsheet2 (N := N) x with ⟨s, hs, e, c1, c2⟩ | ⟨c1, c2⟩
  · rw [c1, c2, zbnd_some, zbnd_some, if_neg (show ¬ (1 : Int32) = 0 by decide), if_neg (show ¬ (1 : Int32) = 0 by decide), e, zpf_eq, zag_nI (by omega) (by omega)]
    unfold fX3_isMissing
    rw [zag_nI (by omega) (by omega)]
    rcases hS.1 s hs with ⟨d1, d2⟩ | ⟨l, n, hl, hn, d1, d2, d3, d4⟩
    · have d2' : (zsi (zsi ρ 0 0 0) 0 1 0).1 1 s = -1 := d2
      rw [d1, d2', if_pos rfl, zrz_1, zbnd_some, if_neg (show ¬ (1 : Int32) = 0 by decide), if_neg (show ¬ (0 : Int32) ≤ -1 by decide)]
      unfold fX7_found fX8_finding
      rw [zpf_eq, zpf_eq, zbnd_some, zbnd_some]
      exact ⟨_, _, _, rfl, rfl, found 1⟩
    · have d2' : (zsi (zsi ρ 0 0 0) 0 1 0).1 1 s = nI l := d2
      have d4' : (zsi (zsi ρ 0 0 0) 0 1 0).1 2 s = nI n := d4
      have nm : ¬ nI n = (-1 : Int32) := fun z => by
        have := nI_pos (n := n) (by omega)
        rw [z] at this
        exact absurd (by decide) this
      rw [d3, d2', if_neg nm, zrz_0, zbnd_some, if_pos rfl, if_pos (nI_pos' (by omega)), zag_nI (by omega) (by omega), d4', e0, zinM]
      rcases zw_ex (N := N) (n := n) (x := y) (by omega) with ⟨i, hi, ei, q⟩ | ⟨hno, q⟩
      · rcases zplaces (N := N) (s := s) (n := n) (m := 1) (x := y) (σ := σ) hs hn (by decide) d3 with ⟨k, hk, ek, p⟩ | ⟨hx, p⟩
        · have hput := zcput (N := N) (v := z) hs (show i < 40 by omega) hl d1
          have p : fX3_hasPlaces N (nI s) y 1 σ = some (1, σ) := p
          unfold fX7_unfound
          rw [p, q, zbnd_some, zbnd_some, if_neg (show ¬ (1 : Int32) = 0 by decide), if_neg (show ¬ (1 : Int32) = 0 by decide), ei, hput, zbnd_some, zpf_eq, zbnd_some, zag_nI (by omega) (by omega), d2']
          have fin : ∀ v : Int32, zR (zsi (zsi σ 2 (40 * s + i) v) 0 7 0) (zsi (zsi (zsi ρ 0 0 0) 0 1 0) 3 (40 * s + i) v) := fun v => zR_sheet hR2 (fun k q0 q2 q3 q4 => by rw [zsi_c q0, zsi_c q2]) (by rw [zsi_o (by decide), zsi_c (by decide)]) (fun k q0 q1 q2 q3 => by rw [zsi_c q3, zsi_c q0]) (fun j q0 q1 => by rw [zsi_c (by decide), zsi_o q1]) ⟨hS.1, fun j hj => by
            show (zsi σ 2 (40 * s + i) v).1 2 j = (zsi (zsi (zsi ρ 0 0 0) 0 1 0) 3 (40 * s + i) v).1 3 j
            by_cases w : j = 40 * s + i
            · rw [w, zsi_s, zsi_s]
            · rw [zsi_o w, zsi_o w]; exact hS.2 j hj⟩ (by rw [zsi_s, zsi_c (by decide), zsi_s])
          have last : ∀ v : Int32, fX8_set_99 N (nI s) (nI i) v (nI (40 * s + i)) (zsi (zsi ρ 0 0 0) 0 1 0) = some (v, zsi (zsi (zsi ρ 0 0 0) 0 1 0) 3 (40 * s + i) v) := fun v => by
            unfold fX8_set_99
            rw [zas_nI (by omega) (by omega), z40, zag_nI (by omega) (by omega), zsi_s]
          rcases (show l = 0 ∨ l = 1 ∨ l = 2 by omega) with w | w | w <;> subst w
          · rw [if_pos (show nI 0 = (0 : Int32) from rfl), z40, last]
            exact ⟨_, _, _, rfl, rfl, fin _⟩
          · rw [if_neg (show ¬ nI 1 = (0 : Int32) by decide), zag_nI (by omega) (by omega), d2', if_pos (show nI 1 = (1 : Int32) from rfl), z40, last]
            exact ⟨_, _, _, rfl, rfl, fin _⟩
          · rw [if_neg (show ¬ nI 2 = (0 : Int32) by decide), zag_nI (by omega) (by omega), d2', if_neg (show ¬ nI 2 = (1 : Int32) by decide), z40, last]
            exact ⟨_, _, _, rfl, rfl, fin _⟩
        · rw [ei] at hx
          rcases hx with hx | ⟨k, hk, ek, hx⟩
          · exact absurd hx (nI_pos (by omega))
          · have := (nI_eq (by omega) hk).mp ek
            omega
      · rcases zplaces (N := N) (s := s) (n := n) (m := 1) (x := y) (σ := σ) hs hn (by decide) d3 with ⟨k, hk, ek, p⟩ | ⟨hx, p⟩
        · exact absurd ⟨k, by omega, ek⟩ hno
        · have p : fX3_hasPlaces N (nI s) y 1 σ = some (0, σ) := p
          unfold fX7_found fX8_finding
          rw [p, q, zbnd_some, zbnd_some, if_pos rfl, if_pos rfl, zpf_eq, zpf_eq, zbnd_some, zbnd_some]
          exact ⟨_, _, _, rfl, rfl, found 2⟩
  · rw [c1, c2, zbnd_some, zbnd_some, if_pos rfl, if_pos rfl]
    exact ⟨_, _, _, rfl, rfl, hR2⟩
