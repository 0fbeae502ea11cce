/-! ===== pairs of calls: odds ===== -/
theorem zp_agree {N : Nat} (hN : 600000 ≤ N) : zP2 (fX7_agree N) (fX8_agree N) := by
  intro σ ρ hR
  have hR' := zR_keep hR zKC_rfl (zKM_thr (σ := ρ))
  obtain ⟨a, ho, hc, hm, ⟨cnt, lo, hi, has, nd, w1, w2, w3⟩, -⟩ := hR'
  obtain ⟨b, τ, υ, e1, e2, f1, f2⟩ := zagree_eq (N := N) w1 w2 hN
  unfold fX7_agree fX8_agree
  rw [zpf_eq, e1, e2, zbnd_some, zbnd_some]
  have hf := zR_keep (zR_keep hR zKC_rfl (zKM_thr (σ := ρ))) (zKC_re f1) (zKM_ff f2)
  by_cases q : b = 0
  · rw [if_pos q, if_pos q]
    exact ⟨_, _, _, rfl, rfl, hf⟩
  · rw [if_neg q, if_neg q]
    exact ⟨_, _, _, rfl, rfl, hf⟩
theorem zp_odds {N : Nat} (hN : 600000 ≤ N) (x y : Int32) : zP2 (fX7_odds N x y) (fX8_odds N x y) := by
  intro σ ρ hR
  have hR' := zR_keep hR zKC_rfl (zKM_thr (σ := ρ))
  have hR2 := hR'
  obtain ⟨a, ho, hc, hm, ⟨cnt, lo, hi, has, nd, w1, w2, w3⟩, -⟩ := hR'
  have h20 := ho.1
  have hc3 := w1.1
  unfold fX7_odds fX8_odds
  rw [zpf_eq]
  rcases zclaim2 (N := N) (x := x) hc hm ho with ⟨k, hk, hk2, e, c1, c2⟩ | ⟨c1, c2⟩
  · rw [c1, c2, zbnd_some, zbnd_some, if_neg (show ¬ (1 : Int32) = 0 by decide), if_neg (show ¬ (1 : Int32) = 0 by decide)]
    have e3 : (3 : Int64) = (nI 4 - 1).toInt64 := by decide
    have e0 : (0 : Int64) = (0 : Int32).toInt64 := by decide
    have e4 : (3 : Int32) = nI 4 - 1 := by decide
    rw [e3, e0, zinM, e4]
    rcases zwith (N := N) (n := 4) (x := y) (σ := σ) (by decide) with ⟨w, hw, ew, q1⟩ | ⟨hno, q1⟩
    · rcases zwith (N := N) (n := 4) (x := y) (σ := zsi ρ 0 0 0) (by decide) with ⟨w', hw', ew', q2⟩ | ⟨hno, q2⟩
      · rw [q1, q2, zbnd_some, zbnd_some, if_neg (show ¬ (1 : Int32) = 0 by decide), if_neg (show ¬ (1 : Int32) = 0 by decide), e]
        obtain ⟨ρ2, m1, m2⟩ := zmworlds (N := N) (nd := nd) (cl := k) ho hN hc3 (by omega) hm w2.2.1 (fun j hj => ⟨(w3 j hj).2.1, by have := (w3 j hj).2.2.1; omega⟩)
        rw [zcworlds hc ho hN hc3 w1.2.1 (fun j hj => ⟨(w3 j hj).1, by have := (w3 j hj).2.2.1; omega⟩) (by omega), m1, zbnd_some, zbnd_some, ew]
        obtain ⟨b, τ, υ, r1, r2, f1, f2⟩ := zodds_eq (N := N) (w := w) w1 (zKM_w w2 (zKM_30 m2)) (zWo_lt (a := a) (nd := nd) (cl := k) hc3) hw hN
        rw [r1, r2]
        exact ⟨_, _, _, rfl, rfl, zR_keep hR2 (zKC_re f1) (zKM_trans (zKM_30 m2) (zKM_ff f2))⟩
      · rw [ew] at hno
        rcases hno with hno | hno
        · exact absurd hno (nI_pos (by omega))
        · exact absurd hno (nI_ge hw (by omega))
    · rcases zwith (N := N) (n := 4) (x := y) (σ := zsi ρ 0 0 0) (by decide) with ⟨w', hw', ew', q2⟩ | ⟨hno', q2⟩
      · rw [ew'] at hno
        rcases hno with hno | hno
        · exact absurd hno (nI_pos (by omega))
        · exact absurd hno (nI_ge hw' (by omega))
      · rw [q1, q2, zbnd_some, zbnd_some, if_pos rfl, if_pos rfl]
        exact ⟨_, _, _, rfl, rfl, hR2⟩
  · rw [c1, c2, zbnd_some, zbnd_some, if_pos rfl, if_pos rfl]
    exact ⟨_, _, _, rfl, rfl, hR2⟩
theorem zp_raise {N : Nat} (hN : 600000 ≤ N) (x : Int32) : zP2 (fX7_raise N x) (fX8_raise N x) := by
  intro σ ρ hR
  have hR' := zR_keep hR zKC_rfl (zKM_thr (σ := ρ))
  have hR2 := hR'
  obtain ⟨a, ho, hc, hm, ⟨cnt, lo, hi, has, nd, w1, w2, w3⟩, -⟩ := hR'
  have h20 := ho.1
  have hc3 := w1.1
  unfold fX7_raise fX8_raise
  rw [zpf_eq]
  rcases zclaim2 (N := N) (x := x) hc hm ho with ⟨k, hk, hk2, e, c1, c2⟩ | ⟨c1, c2⟩
  · rw [c1, c2, zbnd_some, zbnd_some, if_neg (show ¬ (1 : Int32) = 0 by decide), if_neg (show ¬ (1 : Int32) = 0 by decide), e]
    obtain ⟨ρ2, m1, m2⟩ := zmworlds (N := N) (nd := nd) (cl := k) ho hN hc3 (by omega) hm w2.2.1 (fun j hj => ⟨(w3 j hj).2.1, by have := (w3 j hj).2.2.1; omega⟩)
    rw [zcworlds hc ho hN hc3 w1.2.1 (fun j hj => ⟨(w3 j hj).1, by have := (w3 j hj).2.2.1; omega⟩) (by omega), m1, zbnd_some, zbnd_some]
    have hu := zWo_lt (a := a) (nd := nd) (cl := k) hc3
    have w2' := zKM_w w2 (zKM_30 m2)
    obtain ⟨b, τ, υ, r1, r2, f1, f2, q⟩ := zfind2 (N := N) (x3 := -1000000) (ll := lo) w1 w2' hu hN (fun j hj _ => by rw [if_neg (zNone_ne (by omega))]) (fun j hj z => ((w2'.2.2 j hj).2.2.1 z).1)
    rw [r1, r2, zbnd_some, zbnd_some]
    have kc := zKC_re f1
    have km := zKM_trans (zKM_30 m2) (zKM_ff f2)
    rcases q with q | ⟨q, hA⟩
    · rw [q, if_pos rfl, if_pos rfl]
      exact ⟨_, _, _, rfl, rfl, zR_keep hR2 kc km⟩
    · rw [q, if_neg (show ¬ (1 : Int32) = 0 by decide), if_neg (show ¬ (1 : Int32) = 0 by decide)]
      have hnd : ∀ j, j < cnt → has j = true ∧ υ.1 15 j = nI (nd j) := fun j hj => ⟨(w3 j hj).2.2.2, by rw [km.1 15 (by decide) (by decide) (by decide)]; exact (w3 j hj).2.1⟩
      obtain ⟨b2, a2, τ2, υ2, s1, s2, s3, s4, s5⟩ := zraise_loop (N := N) (u := zWo a nd cnt k) (nd := nd) hu hN cnt N N 0 τ υ (-1) (-1000000) _ _ _ _ (by omega) (by omega) (by omega) (zKC_w w1 kc) (zKM_w w2 km) hnd hA (Or.inl ⟨rfl, rfl⟩)
      have s1 : fX6_bestRaise N (nI (zWo a nd cnt k)) τ = some (b2, τ2) := s1
      have s2 : fX8_raise_54 N N (nI (zWo a nd cnt k)) (υ.2 0 42) (υ.2 0 43) (-1000000) 0 υ = some (a2, υ2) := s2
      rw [s1, zbnd_some, znm_eq, znm_eq, s2]
      have kc2 := zKC_trans kc (zKC_re s3)
      have fin := zR_keep hR2 kc2 (zKM_trans km (zKM_ff s4))
      rcases s5 with ⟨z1, z2⟩ | ⟨j, hj, z1, z2⟩
      · rw [z1, if_neg (show ¬ (0 : Int32) ≤ -1 by decide), z2]
        exact ⟨_, _, _, rfl, rfl, fin⟩
      · have n1 : τ2.1 24 j = nI (nd j) := by
          rw [kc2.1 24 (by decide) (by decide) (by decide) (by decide) (by decide) (by decide) (by decide) (by decide)]
          exact (w3 j hj).1
        rw [z1, if_pos (nI_pos' (by omega)), zag_nI (by omega) (by omega), n1, z2]
        exact ⟨_, _, _, rfl, rfl, fin⟩
  · rw [c1, c2, zbnd_some, zbnd_some, if_pos rfl, if_pos rfl]
    exact ⟨_, _, _, rfl, rfl, hR2⟩
