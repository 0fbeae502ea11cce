/-! ===== pairs of calls: node, step, part and the like ===== -/
theorem zw_ex {N n : Nat} {x : Int32} (hn : n < 2 ^ 31) : (∃ k, k < n ∧ x = nI k ∧ ∀ σ, fX7_isWithin N x 0 (nI n - 1) σ = some (1, σ)) ∨ ((¬ ∃ k, k < n ∧ x = nI k) ∧ ∀ σ, fX7_isWithin N x 0 (nI n - 1) σ = some (0, σ)) := by
  rcases zarg x n hn with ⟨k, hk, e⟩ | h
  · refine Or.inl ⟨k, hk, e, fun σ => ?_⟩
    rcases zwith (N := N) (n := n) (x := x) (σ := σ) hn with ⟨k', hk', e', w'⟩ | ⟨h', w'⟩
    · exact w'
    · rw [e] at h'
      rcases h' with h' | h'
      · exact absurd h' (nI_pos (by omega))
      · exact absurd h' (nI_ge hk (by omega))
  · have hno : ¬ ∃ k, k < n ∧ x = nI k := by
      rintro ⟨k, hk, e⟩
      rw [e] at h
      rcases h with h | h
      · exact absurd h (nI_pos (by omega))
      · exact absurd h (nI_ge hk (by omega))
    refine Or.inr ⟨hno, fun σ => ?_⟩
    rcases zwith (N := N) (n := n) (x := x) (σ := σ) hn with ⟨k', hk', e', w'⟩ | ⟨h', w'⟩
    · exact absurd ⟨k', hk', e'⟩ hno
    · exact w'
theorem zcclaim1 {N k : Nat} {a : zA} {σ : zSt} (hc : zCN σ a) (ho : zOk a) (hk : k < a 0 0) : fX2_isClaim N (nI k) σ = some (nI (if a 1 k = 2 then 1 else 0), σ) := by
  have h20 := ho.1
  have o1 := (ho.2.2.2.1 k hk).1
  have e1 : fX2_hasNode N (nI k) σ = some (1, σ) := by
    unfold fX2_hasNode
    rw [hc.1, if_neg (nI_pos (by omega)), if_neg (nI_ge hk (by omega))]; exact zrz_1
  unfold fX2_isClaim
  rw [e1, zbnd_some, if_neg (by decide), zag_nI (by omega) (by omega), (hc.2.2.2.1 k hk).1]
  by_cases q : a 1 k = 2
  · rw [if_pos (show nI (a 1 k) = (2 : Int32) by rw [q]; rfl), if_pos q]; exact zrz_1
  · rw [if_neg (show ¬ nI (a 1 k) = (2 : Int32) from fun z => q ((nI_eq (b := 2) (by omega) (by omega)).mp z)), if_neg q]; exact zrz_0
theorem zp_fault {N : Nat} : zP2 (fX7_fault N) (fX8_fault N) := by
  intro σ ρ hR
  have hR2 := zR_keep hR zKC_rfl (zKM_thr (σ := ρ))
  obtain ⟨a, -, -, -, -, -, -, hf, -⟩ := hR2
  unfold fX7_fault fX8_fault
  rw [zpf_eq, hf.1]
  exact ⟨_, _, _, rfl, rfl, zR_keep hR zKC_rfl zKM_thr⟩
theorem zp_status {N : Nat} : zP2 (fX7_status N) (fX8_status N) := by
  intro σ ρ hR
  have hR2 := zR_keep hR zKC_rfl (zKM_thr (σ := ρ))
  obtain ⟨a, -, -, -, -, -, -, hf, -⟩ := hR2
  unfold fX7_status fX8_status
  rw [zpf_eq, hf.2]
  exact ⟨_, _, _, rfl, rfl, zR_keep hR zKC_rfl zKM_thr⟩
theorem zp_node {N : Nat} (hN : 600000 ≤ N) (x y : Int32) : zP2 (fX7_node N x y) (fX8_node N x y) := by
  intro σ ρ hR
  have hR2 := zR_keep hR zKC_rfl (zKM_thr (σ := ρ))
  have hR' := hR2
  obtain ⟨a, ho, hc, hm, -⟩ := hR'
  have h20 := ho.1
  unfold fX7_node fX8_node
  rw [zpf_eq]
  rcases znode2 (N := N) (x := x) hc hm ho with ⟨k, hk, e, c1, c2⟩ | ⟨c1, c2⟩
  · obtain ⟨o1, o2, o3, o4, o5⟩ := ho.2.2.2.1 k hk
    obtain ⟨p1, p2, p3⟩ := hc.2.2.2.1 k hk
    obtain ⟨m1, m2, m3, m4⟩ := hm.2.2.2.1 k hk
    have e5 : (5 : Int64) = (nI 6 - 1).toInt64 := by decide
    have e0 : (0 : Int64) = (0 : Int32).toInt64 := by decide
    rw [c1, c2, zbnd_some, zbnd_some, if_neg (show ¬ (1 : Int32) = 0 by decide), if_neg (show ¬ (1 : Int32) = 0 by decide), e, zcclaim1 hc ho hk, zbnd_some, e5, e0, zinM]
    rcases zw_ex (N := N) (n := 6) (x := y) (by decide) with ⟨w, hw, ew, q⟩ | ⟨hno, q⟩
    · rw [q, zbnd_some, if_neg (show ¬ (1 : Int32) = 0 by decide), ew]
      rcases (show w = 0 ∨ w = 1 ∨ w = 2 ∨ w = 3 ∨ w = 4 ∨ w = 5 by omega) with z | z | z | z | z | z <;> subst z
      · rw [if_pos (show nI 0 = (0 : Int32) from rfl), if_pos (show nI 0 = (0 : Int32) from rfl), zag_nI (by omega) (by omega), zag_nI (by omega) (by omega), p1, m1]
        exact ⟨_, _, _, rfl, rfl, hR2⟩
      · rw [if_neg (show ¬ nI 1 = (0 : Int32) by decide), if_pos (show nI 1 = (1 : Int32) from rfl), if_neg (show ¬ nI 1 = (0 : Int32) by decide), if_pos (show nI 1 = (1 : Int32) from rfl), zag_nI (by omega) (by omega)]
        by_cases v : a 1 k = 2
        · rw [if_pos v, if_neg (show ¬ nI 1 = (0 : Int32) by decide), zag_nI (by omega) (by omega), (m4 v).1]
          exact ⟨_, _, _, rfl, rfl, hR2⟩
        · rw [if_neg v, if_pos (show nI 0 = (0 : Int32) from rfl), zag_nI (by omega) (by omega), (m3 (by omega)).1, (p3 (by omega)).1]
          exact ⟨_, _, _, rfl, rfl, hR2⟩
      · rw [if_neg (show ¬ nI 2 = (0 : Int32) by decide), if_neg (show ¬ nI 2 = (1 : Int32) by decide), if_pos (show nI 2 = (2 : Int32) from rfl), if_neg (show ¬ nI 2 = (0 : Int32) by decide), if_neg (show ¬ nI 2 = (1 : Int32) by decide), if_pos (show nI 2 = (2 : Int32) from rfl), zag_nI (by omega) (by omega)]
        by_cases v : a 1 k = 2
        · rw [if_pos v, if_neg (show ¬ nI 1 = (0 : Int32) by decide), zag_nI (by omega) (by omega), (m4 v).2.1]
          exact ⟨_, _, _, rfl, rfl, hR2⟩
        · rw [if_neg v, if_pos (show nI 0 = (0 : Int32) from rfl), zag_nI (by omega) (by omega), (m3 (by omega)).2.1, (p3 (by omega)).2.1]
          exact ⟨_, _, _, rfl, rfl, hR2⟩
      · rw [if_neg (show ¬ nI 3 = (0 : Int32) by decide), if_neg (show ¬ nI 3 = (1 : Int32) by decide), if_neg (show ¬ nI 3 = (2 : Int32) by decide), if_pos (show nI 3 = (3 : Int32) from rfl), if_neg (show ¬ nI 3 = (0 : Int32) by decide), if_neg (show ¬ nI 3 = (1 : Int32) by decide), if_neg (show ¬ nI 3 = (2 : Int32) by decide), if_pos (show nI 3 = (3 : Int32) from rfl), zag_nI (by omega) (by omega)]
        by_cases v : a 1 k = 2
        · rw [if_pos v, if_neg (show ¬ nI 1 = (0 : Int32) by decide), zag_nI (by omega) (by omega), (m4 v).2.2]
          exact ⟨_, _, _, rfl, rfl, hR2⟩
        · rw [if_neg v, if_pos (show nI 0 = (0 : Int32) from rfl), zag_nI (by omega) (by omega), (m3 (by omega)).2.2, (p3 (by omega)).2.2]
          exact ⟨_, _, _, rfl, rfl, hR2⟩
      · rw [if_neg (show ¬ nI 4 = (0 : Int32) by decide), if_neg (show ¬ nI 4 = (1 : Int32) by decide), if_neg (show ¬ nI 4 = (2 : Int32) by decide), if_neg (show ¬ nI 4 = (3 : Int32) by decide), if_pos (show nI 4 = (4 : Int32) from rfl), if_neg (show ¬ nI 4 = (0 : Int32) by decide), if_neg (show ¬ nI 4 = (1 : Int32) by decide), if_neg (show ¬ nI 4 = (2 : Int32) by decide), if_neg (show ¬ nI 4 = (3 : Int32) by decide), if_pos (show nI 4 = (4 : Int32) from rfl), zag_nI (by omega) (by omega), zag_nI (by omega) (by omega), p2, m2]
        rcases (show a 5 k = 0 ∨ a 5 k = 1 by omega) with v | v <;> rw [v]
        · exact ⟨_, _, _, rfl, rfl, hR2⟩
        · exact ⟨_, _, _, rfl, rfl, hR2⟩
      · obtain ⟨υ, s1, s2, s3⟩ := zmshown (N := N) hm ho hN
        rw [if_neg (show ¬ nI 5 = (0 : Int32) by decide), if_neg (show ¬ nI 5 = (1 : Int32) by decide), if_neg (show ¬ nI 5 = (2 : Int32) by decide), if_neg (show ¬ nI 5 = (3 : Int32) by decide), if_neg (show ¬ nI 5 = (4 : Int32) by decide), if_pos (show nI 5 = (5 : Int32) from rfl), if_neg (show ¬ nI 5 = (0 : Int32) by decide), if_neg (show ¬ nI 5 = (1 : Int32) by decide), if_neg (show ¬ nI 5 = (2 : Int32) by decide), if_neg (show ¬ nI 5 = (3 : Int32) by decide), if_neg (show ¬ nI 5 = (4 : Int32) by decide), zcshown hc ho hN, s1, zbnd_some, zbnd_some, zbitAt (by omega), zbnd_some, zS_at (by omega)]
        exact ⟨_, _, _, rfl, rfl, zR_keep hR2 zKC_rfl (zKM_30 s3)⟩
    · rw [q, zbnd_some, if_pos rfl]
      have nw : ∀ w, w < 6 → ¬ y = nI w := fun w hw ew => hno ⟨w, hw, ew⟩
      rw [if_neg (show ¬ y = (0 : Int32) from nw 0 (by decide)), if_neg (show ¬ y = (1 : Int32) from nw 1 (by decide)), if_neg (show ¬ y = (2 : Int32) from nw 2 (by decide)), if_neg (show ¬ y = (3 : Int32) from nw 3 (by decide)), if_neg (show ¬ y = (4 : Int32) from nw 4 (by decide)), if_neg (show ¬ y = (5 : Int32) from nw 5 (by decide))]
      exact ⟨_, _, _, rfl, rfl, hR2⟩
  · rw [c1, c2, zbnd_some, zbnd_some, if_pos rfl, if_pos rfl]
    exact ⟨_, _, _, rfl, rfl, hR2⟩
theorem zp_step {N : Nat} (hN : 600000 ≤ N) (x y : Int32) : zP2 (fX7_step N x y) (fX8_step N x y) := by
  intro σ ρ hR
  have hR2 := zR_keep hR zKC_rfl (zKM_thr (σ := ρ))
  have hR' := hR2
  obtain ⟨a, ho, hc, hm, -⟩ := hR'
  have h16 := ho.2.1
  unfold fX7_step fX8_step
  rw [zpf_eq]
  rcases zstep2 (N := N) (x := x) hc hm ho with ⟨k, hk, e, c1, c2⟩ | ⟨c1, c2⟩
  · have o1 := (ho.2.2.2.2 k hk).1
    obtain ⟨p1, p2, p3, p4, p5, p6, p7⟩ := hc.2.2.2.2 k hk
    obtain ⟨m1, m2, m3, m4, m5⟩ := hm.2.2.2.2 k hk
    have e5 : (5 : Int64) = (nI 6 - 1).toInt64 := by decide
    have e0 : (0 : Int64) = (0 : Int32).toInt64 := by decide
    rw [c1, c2, zbnd_some, zbnd_some, if_neg (show ¬ (1 : Int32) = 0 by decide), if_neg (show ¬ (1 : Int32) = 0 by decide), e, e5, e0, zinM]
    rcases zw_ex (N := N) (n := 6) (x := y) (by decide) with ⟨w, hw, ew, q⟩ | ⟨hno, q⟩
    · rw [q, zbnd_some, if_neg (show ¬ (1 : Int32) = 0 by decide), ew]
      rcases (show w = 0 ∨ w = 1 ∨ w = 2 ∨ w = 3 ∨ w = 4 ∨ w = 5 by omega) with z | z | z | z | z | z <;> subst z
      · rw [if_pos (show nI 0 = (0 : Int32) from rfl), if_pos (show nI 0 = (0 : Int32) from rfl), zag_nI (by omega) (by omega), zag_nI (by omega) (by omega), p1, m1]
        exact ⟨_, _, _, rfl, rfl, hR2⟩
      · rw [if_neg (show ¬ nI 1 = (0 : Int32) by decide), if_pos (show nI 1 = (1 : Int32) from rfl), if_neg (show ¬ nI 1 = (0 : Int32) by decide), if_pos (show nI 1 = (1 : Int32) from rfl), zag_nI (by omega) (by omega), zag_nI (by omega) (by omega), p2, m2]
        exact ⟨_, _, _, rfl, rfl, hR2⟩
      · rw [if_neg (show ¬ nI 2 = (0 : Int32) by decide), if_neg (show ¬ nI 2 = (1 : Int32) by decide), if_pos (show nI 2 = (2 : Int32) from rfl), if_neg (show ¬ nI 2 = (0 : Int32) by decide), if_neg (show ¬ nI 2 = (1 : Int32) by decide), if_pos (show nI 2 = (2 : Int32) from rfl), zag_nI (by omega) (by omega), zag_nI (by omega) (by omega), p3, m3]
        exact ⟨_, _, _, rfl, rfl, hR2⟩
      · rw [if_neg (show ¬ nI 3 = (0 : Int32) by decide), if_neg (show ¬ nI 3 = (1 : Int32) by decide), if_neg (show ¬ nI 3 = (2 : Int32) by decide), if_pos (show nI 3 = (3 : Int32) from rfl), if_neg (show ¬ nI 3 = (0 : Int32) by decide), if_neg (show ¬ nI 3 = (1 : Int32) by decide), if_neg (show ¬ nI 3 = (2 : Int32) by decide), if_pos (show nI 3 = (3 : Int32) from rfl), zcdo hc ho hk, zbnd_some, zag_nI (by omega) (by omega), m1, zmdo o1, zbnd_some]
        exact ⟨_, _, _, rfl, rfl, hR2⟩
      · rw [if_neg (show ¬ nI 4 = (0 : Int32) by decide), if_neg (show ¬ nI 4 = (1 : Int32) by decide), if_neg (show ¬ nI 4 = (2 : Int32) by decide), if_neg (show ¬ nI 4 = (3 : Int32) by decide), if_pos (show nI 4 = (4 : Int32) from rfl), if_neg (show ¬ nI 4 = (0 : Int32) by decide), if_neg (show ¬ nI 4 = (1 : Int32) by decide), if_neg (show ¬ nI 4 = (2 : Int32) by decide), if_neg (show ¬ nI 4 = (3 : Int32) by decide), if_pos (show nI 4 = (4 : Int32) from rfl), zag_nI (by omega) (by omega), p5, zmopen hm ho hk hN, zbnd_some]
        exact ⟨_, _, _, rfl, rfl, hR2⟩
      · obtain ⟨υ, s1, s2, s3⟩ := zmshown (N := N) hm ho hN
        rw [if_neg (show ¬ nI 5 = (0 : Int32) by decide), if_neg (show ¬ nI 5 = (1 : Int32) by decide), if_neg (show ¬ nI 5 = (2 : Int32) by decide), if_neg (show ¬ nI 5 = (3 : Int32) by decide), if_neg (show ¬ nI 5 = (4 : Int32) by decide), if_pos (show nI 5 = (5 : Int32) from rfl), if_neg (show ¬ nI 5 = (0 : Int32) by decide), if_neg (show ¬ nI 5 = (1 : Int32) by decide), if_neg (show ¬ nI 5 = (2 : Int32) by decide), if_neg (show ¬ nI 5 = (3 : Int32) by decide), if_neg (show ¬ nI 5 = (4 : Int32) by decide), zcshown hc ho hN, s1, zbnd_some, zbnd_some, zcborne hc ho hk, zmborne (zMN_30 hm s3) ho hk hN, zbnd_some, zbnd_some]
        have fin := zR_keep hR2 zKC_rfl (zKM_30 s3)
        by_cases v : zbu a k (zsh a (fun _ => false) (zsd a)) = true
        · rw [v, if_pos rfl]
          exact ⟨_, _, _, rfl, rfl, fin⟩
        · rw [if_neg v]
          exact ⟨_, _, _, rfl, rfl, fin⟩
    · rw [q, zbnd_some, if_pos rfl]
      have nw : ∀ w, w < 6 → ¬ y = nI w := fun w hw ew => hno ⟨w, hw, ew⟩
      rw [if_neg (show ¬ y = (0 : Int32) from nw 0 (by decide)), if_neg (show ¬ y = (1 : Int32) from nw 1 (by decide)), if_neg (show ¬ y = (2 : Int32) from nw 2 (by decide)), if_neg (show ¬ y = (3 : Int32) from nw 3 (by decide)), if_neg (show ¬ y = (4 : Int32) from nw 4 (by decide)), if_neg (show ¬ y = (5 : Int32) from nw 5 (by decide))]
      exact ⟨_, _, _, rfl, rfl, hR2⟩
  · rw [c1, c2, zbnd_some, zbnd_some, if_pos rfl, if_pos rfl]
    exact ⟨_, _, _, rfl, rfl, hR2⟩
