/-! ===== pairs of calls: part, trace, day ===== -/
theorem zp_part {N : Nat} (x y : Int32) : zP2 (fX7_part N x y) (fX8_part N x y) := by
  intro σ ρ hR
  have hR2 := zR_keep hR zKC_rfl (zKM_thr (σ := ρ))
  have hR' := hR2
  obtain ⟨a, ho, hc, hm, -⟩ := hR'
  have h16 := ho.2.1
  unfold fX7_part fX8_part
  rw [zpf_eq]
  rcases zstep2 (N := N) (x := x) hc hm ho with ⟨k, hk, e, c1, c2⟩ | ⟨c1, c2⟩
  · obtain ⟨o1, o2, o3, o4, o5, o6, -⟩ := ho.2.2.2.2 k hk
    obtain ⟨p1, p2, p3, p4, p5, p6, p7⟩ := hc.2.2.2.2 k hk
    obtain ⟨m1, m2, m3, m4, m5⟩ := hm.2.2.2.2 k hk
    rw [c1, c2, zbnd_some, zbnd_some, if_neg (show ¬ (1 : Int32) = 0 by decide), if_neg (show ¬ (1 : Int32) = 0 by decide), e]
    by_cases hy : (0 : Int32) ≤ y
    · rw [if_pos hy, if_pos hy, zag_nI (by omega) (by omega), zag_nI (by omega) (by omega), p3, m3]
      by_cases q : nI (a 8 k) ≤ y
      · rw [if_pos q, if_pos q]
        exact ⟨_, _, _, rfl, rfl, hR2⟩
      · obtain ⟨j, hj, ej⟩ : ∃ j, j < a 8 k ∧ y = nI j := by
          rcases zarg y (a 8 k) (by omega) with z | z | z
          · exact z
          · exact absurd hy (by rw [fa_le]; rw [fa_lt] at z; omega)
          · exact absurd z q
        rw [if_neg q, if_neg q, ej]
        unfold fX2_partAt
        rw [z6', z6, zag_nI (by omega) (by omega), zbnd_some, zag_nI (by omega) (by omega), p6 j hj, m4 j hj]
        exact ⟨_, _, _, rfl, rfl, hR2⟩
    · rw [if_neg hy, if_neg hy]
      exact ⟨_, _, _, rfl, rfl, hR2⟩
  · rw [c1, c2, zbnd_some, zbnd_some, if_pos rfl, if_pos rfl]
    exact ⟨_, _, _, rfl, rfl, hR2⟩
theorem zp_trace {N : Nat} (x : Int32) : zP2 (fX7_trace N x) (fX8_trace N x) := by
  intro σ ρ hR
  have hR2 := zR_keep hR zKC_rfl (zKM_thr (σ := ρ))
  have hR' := hR2
  obtain ⟨a, -, -, -, -, -, -, -, ⟨t, ht, t1, t2, t3⟩⟩ := hR'
  unfold fX7_trace fX8_trace
  have e0 : (0 : Int64) = (0 : Int32).toInt64 := by decide
  rw [zpf_eq, t1, t2, e0, zinM]
  rcases zw_ex (N := N) (n := t) (x := x) (by omega) with ⟨k, hk, e, q⟩ | ⟨-, q⟩
  · rw [q, q, zbnd_some, zbnd_some, if_neg (show ¬ (1 : Int32) = 0 by decide), if_neg (show ¬ (1 : Int32) = 0 by decide), e, zag_nI (by omega) (by omega), zag_nI (by omega) (by omega), t3 k hk]
    exact ⟨_, _, _, rfl, rfl, hR2⟩
  · rw [q, q, zbnd_some, zbnd_some, if_pos rfl, if_pos rfl]
    exact ⟨_, _, _, rfl, rfl, hR2⟩
/-- a row of the net anew -/
def zup (a : zA) (i : Nat) (f : Nat → Nat) : zA := fun k => if k = i then f else a k
def zu1 (f : Nat → Nat) (i v : Nat) : Nat → Nat := fun k => if k = i then v else f k
theorem zp_day {N : Nat} (x : Int32) : zP2 (fX7_day N x) (fX8_day N x) := by
  intro σ ρ hR
  have hR2 := zR_keep hR zKC_rfl (zKM_thr (σ := ρ))
  have hR' := hR2
  obtain ⟨a, ho, hc, hm, ⟨cnt, lo, hi, has, nd, w1, w2, w3⟩, hS, hT, hF, hA⟩ := hR'
  unfold fX7_day fX8_day
  have e0 : (0 : Int64) = (0 : Int32).toInt64 := by decide
  have e9 : (9999 : Int64) = (nI 10000 - 1).toInt64 := by decide
  have e9' : (9999 : Int32) = nI 10000 - 1 := by decide
  rw [zpf_eq, e9, e0, zinM, e9']
  rcases zw_ex (N := N) (n := 10000) (x := x) (by decide) with ⟨d, hd, e, q⟩ | ⟨-, q⟩
  · rw [q, q, zbnd_some, zbnd_some, if_neg (show ¬ (1 : Int32) = 0 by decide), if_neg (show ¬ (1 : Int32) = 0 by decide), znm_eq, znm_eq, zpf_eq, zpf_eq, e, hc.2.2.1, hm.2.2.1]
    refine ⟨_, _, _, rfl, rfl, ⟨zup a 0 (zu1 (a 0) 2 d), ?_, ?_, ?_, ⟨cnt, lo, hi, has, nd, ?_, ?_, ?_⟩, ?_, ?_, ?_, ?_⟩⟩
    · exact ⟨ho.1, ho.2.1, by show d ≤ 9999; omega, ho.2.2.2⟩
    · exact ⟨(zsi_o (by decide)).trans hc.1, (zsi_o (by decide)).trans hc.2.1, zsi_s, hc.2.2.2⟩
    · exact ⟨(zsi_o (by decide)).trans hm.1, (zsi_o (by decide)).trans hm.2.1, zsi_s, hm.2.2.2⟩
    · exact w1
    · exact ⟨w2.1, (zsi_o (by decide)).trans w2.2.1, w2.2.2⟩
    · exact w3
    · exact hS
    · obtain ⟨len, l1, l2, l3, l4⟩ := hT
      exact ⟨len, l1, l2, (zsi_o (by decide)).trans l3, l4⟩
    · exact ⟨hF.1.trans (zsi_o (by decide)).symm, hF.2.trans (zsi_o (by decide)).symm⟩
    · obtain ⟨t, t1, t2, t3, t4⟩ := hA
      exact ⟨t, t1, t2, (zsi_o (by decide)).trans t3, t4⟩
  · rw [q, q, zbnd_some, zbnd_some, if_pos rfl, if_pos rfl]
    exact ⟨_, _, _, rfl, rfl, hR2⟩
