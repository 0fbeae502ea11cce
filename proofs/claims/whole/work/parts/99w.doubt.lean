/-! ===== pairs of calls: fall, doubt, borne ===== -/
theorem zp_fall {N : Nat} (x y : Int32) : zP2 (fX7_fall N x y) (fX8_fall N x y) := by
  intro σ ρ hR
  have hR2 := zR_keep hR zKC_rfl (zKM_thr (σ := ρ))
  have hR' := hR2
  obtain ⟨a, ho, hc, hm, hW, hS, hT, hF, hA⟩ := hR'
  have h20 := ho.1
  unfold fX7_fall fX8_fall
  rw [zpf_eq]
  rcases zground2 (N := N) (x := x) hc hm ho with ⟨k, hk, hk2, e, c1, c2⟩ | ⟨c1, c2⟩
  · obtain ⟨o1, o2, o3, o4, o5⟩ := ho.2.2.2.1 k hk
    have e0 : (0 : Int64) = (0 : Int32).toInt64 := by decide
    have e1 : (1 : Int64) = (nI 2 - 1).toInt64 := by decide
    rw [c1, c2, zbnd_some, zbnd_some, if_neg (show ¬ (1 : Int32) = 0 by decide), if_neg (show ¬ (1 : Int32) = 0 by decide), e1, e0, zinM, e]
    have e1' : fX7_isWithin N y 0 1 σ = fX7_isWithin N y 0 (nI 2 - 1) σ := rfl
    rw [e1']
    rcases zw_ex (N := N) (n := 2) (x := y) (by decide) with ⟨v, hv, ev, q⟩ | ⟨-, q⟩
    · rw [q, q, zbnd_some, zbnd_some, if_neg (show ¬ (1 : Int32) = 0 by decide), if_neg (show ¬ (1 : Int32) = 0 by decide), zag_nI (by omega) (by omega), zag_nI (by omega) (by omega), zas_nI (by omega) (by omega), (hc.2.2.2.1 k hk).2.1, (hm.2.2.2.1 k hk).2.1, ev]
      have last : (if nI (a 5 k) = 0 then fX8_fall_40 N (nI k) (nI v) (0 : Int32) (zsi ρ 0 0 0) else fX8_fall_40 N (nI k) (nI v) (1 : Int32) (zsi ρ 0 0 0)) = some (nI (a 5 k), zsi (zsi ρ 0 0 0) 8 k (nI v)) := by
        have h40 : ∀ s0 : Int32, fX8_fall_40 N (nI k) (nI v) s0 (zsi ρ 0 0 0) = some (s0, zsi (zsi ρ 0 0 0) 8 k (nI v)) := by
          intro s0
          unfold fX8_fall_40 fX8_fall_56
          have n0 : vp_nar .boolean (0 : Int32) = nI 0 := by decide
          have n1 : vp_nar .boolean (1 : Int32) = nI 1 := by decide
          rcases (show v = 0 ∨ v = 1 by omega) with z | z <;> subst z
          · rw [if_neg (by decide), zas_nI (by omega) (by omega), n0]
          · rw [if_pos (by decide), zas_nI (by omega) (by omega), n1]
        rcases (show a 5 k = 0 ∨ a 5 k = 1 by omega) with z | z <;> rw [z, h40, h40]
        · rw [if_pos (by decide)]; rfl
        · rw [if_neg (by decide)]; rfl
      rw [last]
      refine ⟨_, _, _, rfl, rfl, ⟨zup a 5 (zu1 (a 5) k v), ?_, ?_, ?_, hW, hS, hT, hF, hA⟩⟩
      · refine ⟨ho.1, ho.2.1, ho.2.2.1, fun n hn => ?_, ho.2.2.2.2⟩
        obtain ⟨q1, q2, q3, q4, q5⟩ := ho.2.2.2.1 n hn
        refine ⟨q1, q2, q3, q4, ?_⟩
        show (if n = k then v else a 5 n) ≤ 1
        split <;> omega
      · refine ⟨hc.1, hc.2.1, hc.2.2.1, fun n hn => ?_, hc.2.2.2.2⟩
        obtain ⟨q1, q2, q3⟩ := hc.2.2.2.1 n hn
        refine ⟨q1, ?_, q3⟩
        show (zsi σ 12 k (nI v)).1 12 n = nI (if n = k then v else a 5 n)
        by_cases z : n = k
        · rw [if_pos z, z, zsi_s]
        · rw [if_neg z, zsi_o z]; exact q2
      · refine ⟨hm.1, hm.2.1, hm.2.2.1, fun n hn => ?_, hm.2.2.2.2⟩
        obtain ⟨q1, q2, q3⟩ := hm.2.2.2.1 n hn
        refine ⟨q1, ?_, q3⟩
        show (zsi (zsi ρ 0 0 0) 8 k (nI v)).1 8 n = nI (if n = k then v else a 5 n)
        by_cases z : n = k
        · rw [if_pos z, z, zsi_s]
        · rw [if_neg z, zsi_o z]; exact q2
    · rw [q, q, zbnd_some, zbnd_some, if_pos rfl, if_pos rfl]
      exact ⟨_, _, _, rfl, rfl, hR2⟩
  · rw [c1, c2, zbnd_some, zbnd_some, if_pos rfl, if_pos rfl]
    exact ⟨_, _, _, rfl, rfl, hR2⟩
theorem zp_doubt {N : Nat} (x y z : Int32) : zP2 (fX7_doubt N x y z) (fX8_doubt N x y z) := by
  intro σ ρ hR
  have hR2 := zR_keep hR zKC_rfl (zKM_thr (σ := ρ))
  have hR' := hR2
  obtain ⟨a, ho, hc, hm, hW, hS, hT, hF, hA⟩ := hR'
  have h16 := ho.2.1
  unfold fX7_doubt fX8_doubt
  rw [zpf_eq]
  rcases zstep2 (N := N) (x := x) hc hm ho with ⟨s, hs, e, c1, c2⟩ | ⟨c1, c2⟩
  · obtain ⟨o1, o2, o3, o4, o5, o6, o7, o8⟩ := ho.2.2.2.2 s hs
    have hdo := zdo_b (a 6 s) (by omega)
    have e0 : (0 : Int64) = (0 : Int32).toInt64 := by decide
    have e11 : (11 : Int64) = (nI 12 - 1).toInt64 := by decide
    have e11' : (11 : Int32) = nI 12 - 1 := by decide
    rw [c1, c2, zbnd_some, zbnd_some, if_neg (show ¬ (1 : Int32) = 0 by decide), if_neg (show ¬ (1 : Int32) = 0 by decide), e, zcdo hc ho hs, zbnd_some, zag_nI (by omega) (by omega), (hm.2.2.2.2 s hs).1, zmdo o1, zbnd_some, e11, e0, zinM, e11']
    rcases zw_ex (N := N) (n := zdo (a 6 s)) (x := y) (by omega) with ⟨k, hk, ek, q⟩ | ⟨-, q⟩
    · rw [q, q, zbnd_some, zbnd_some, if_neg (show ¬ (1 : Int32) = 0 by decide), if_neg (show ¬ (1 : Int32) = 0 by decide), zinM]
      rcases zw_ex (N := N) (n := 12) (x := z) (by decide) with ⟨v, hv, ev, q2⟩ | ⟨-, q2⟩
      · rw [q2, q2, zbnd_some, zbnd_some, if_neg (show ¬ (1 : Int32) = 0 by decide), if_neg (show ¬ (1 : Int32) = 0 by decide), ek, ev, z3, zag_nI (by omega) (by omega), zas_nI (by omega) (by omega), (hm.2.2.2.2 s hs).2.2.2.2 k (by omega)]
        have p19 := (hc.2.2.2.2 s hs).2.2.2.2.2.2 k (by omega)
        have p18 := (hc.2.2.2.2 s hs).2.2.2.2.1
        -- the new count of open doubts
        have hu := fb_ct_upd (fun k => a 10 (3 * s + k) == 0) (v == 0) hk
        have hz3 := zop_le ho hs
        have hold : (a 10 (3 * s + k) == 0) = true → 1 ≤ zop a s := fun w => by
          unfold zop
          exact fb_ct_pos.mpr ⟨k, hk, w⟩
        have key : ∃ τ : zSt, fX2_tellDoubt N (nI s) (nI k) (nI v) σ = some (nI (a 10 (3 * s + k)), τ) ∧ (∀ c, c ≠ 18 → c ≠ 19 → τ.1 c = σ.1 c) ∧ (∀ i, i ≠ s → τ.1 18 i = σ.1 18 i) ∧ τ.1 18 s = nI (fb_ct (fun j => if j = k then (v == 0) else (a 10 (3 * s + j) == 0)) (zdo (a 6 s))) ∧ (∀ i, i ≠ 3 * s + k → τ.1 19 i = σ.1 19 i) ∧ τ.1 19 (3 * s + k) = nI v := by
          have ue : zop a s = fb_ct (fun k => a 10 (3 * s + k) == 0) (zdo (a 6 s)) := rfl
          rw [← ue] at hu
          unfold fX2_tellDoubt
          rw [z3', zag_nI (by omega) (by omega), p19]
          by_cases h1 : a 10 (3 * s + k) = 0
          · have b1 : (a 10 (3 * s + k) == 0) = true := by rw [h1]; rfl
            have g1 := hold b1
            rw [b1, if_pos rfl] at hu
            have ep : nI (zop a s) - 1 = nI (zop a s - 1) := by
              rw [show zop a s = (zop a s - 1) + 1 by omega, nI_pred]; rfl
            rw [if_pos (show nI (a 10 (3 * s + k)) = 0 by rw [h1]; rfl), zag_nI (by omega) (by omega), zas_nI (by omega) (by omega), p18, ep]
            unfold fX2_tellDoubt_27 fX2_tellDoubt_41
            by_cases h2 : v = 0
            · have b2 : (v == 0) = true := by rw [h2]; rfl
              rw [b2] at hu ⊢
              rw [if_pos rfl] at hu
              rw [if_pos (show nI v = 0 by rw [h2]; rfl), zag_nI (by omega) (by omega), zas_nI (by omega) (by omega), z3', zas_nI (by omega) (by omega)]
              refine ⟨_, rfl, fun c q1 q2 => by rw [zsi_c q2, zsi_c q1, zsi_c q1], fun i hi => by rw [zsi_c (by decide), zsi_o hi, zsi_o hi], ?_, fun i hi => by rw [zsi_o hi, zsi_c (by decide), zsi_c (by decide)], zsi_s⟩
              rw [zsi_c (by decide), zsi_s, zsi_s, nI_1]
              congr 1
              omega
            · have b2 : (v == 0) = false := by simp; exact h2
              rw [b2] at hu ⊢
              rw [if_neg (by decide)] at hu
              rw [if_neg (nI_ne0 (by omega) (by omega)), z3', zas_nI (by omega) (by omega)]
              refine ⟨_, rfl, fun c q1 q2 => by rw [zsi_c q2, zsi_c q1], fun i hi => by rw [zsi_c (by decide), zsi_o hi], ?_, fun i hi => by rw [zsi_o hi, zsi_c (by decide)], zsi_s⟩
              rw [zsi_c (by decide), zsi_s]
              congr 1
              omega
          · have b1 : (a 10 (3 * s + k) == 0) = false := by simp; exact h1
            rw [b1, if_neg (by decide)] at hu
            have o8k := (o8 k (by omega)).1
            rw [if_neg (nI_ne0 (by omega) (by omega))]
            unfold fX2_tellDoubt_27 fX2_tellDoubt_41
            by_cases h2 : v = 0
            · have b2 : (v == 0) = true := by rw [h2]; rfl
              rw [b2] at hu ⊢
              rw [if_pos rfl] at hu
              rw [if_pos (show nI v = 0 by rw [h2]; rfl), zag_nI (by omega) (by omega), zas_nI (by omega) (by omega), z3', zas_nI (by omega) (by omega), p18, nI_1]
              refine ⟨_, rfl, fun c q1 q2 => by rw [zsi_c q2, zsi_c q1], fun i hi => by rw [zsi_c (by decide), zsi_o hi], ?_, fun i hi => by rw [zsi_o hi, zsi_c (by decide)], zsi_s⟩
              rw [zsi_c (by decide), zsi_s]
              congr 1
              omega
            · have b2 : (v == 0) = false := by simp; exact h2
              rw [b2] at hu ⊢
              rw [if_neg (by decide)] at hu
              rw [if_neg (nI_ne0 (by omega) (by omega)), z3', zas_nI (by omega) (by omega)]
              refine ⟨_, rfl, fun c q1 q2 => by rw [zsi_c q2], fun i hi => by rw [zsi_c (by decide)], ?_, fun i hi => by rw [zsi_o hi], zsi_s⟩
              rw [zsi_c (by decide), p18]
              congr 1
              omega
        obtain ⟨τ, t0, t1, t2, t3, t4, t5⟩ := key
        rw [t0, zbnd_some]
        refine ⟨_, _, _, rfl, rfl, ⟨zup a 10 (zu1 (a 10) (3 * s + k) v), ?_, ?_, ?_, ?_, ?_, ?_, ?_, ?_⟩⟩
        · refine ⟨ho.1, ho.2.1, ho.2.2.1, ho.2.2.2.1, fun i hi => ?_⟩
          obtain ⟨q1, q2, q3, q4, q5, q6, q7, q8⟩ := ho.2.2.2.2 i hi
          refine ⟨q1, q2, q3, q4, q5, q6, q7, fun j hj => ?_⟩
          show (if 3 * i + j = 3 * s + k then v else a 10 (3 * i + j)) ≤ 11 ∧ (zdo (a 6 i) ≤ j → (if 3 * i + j = 3 * s + k then v else a 10 (3 * i + j)) = 0)
          by_cases w : 3 * i + j = 3 * s + k
          · rw [if_pos w]
            refine ⟨by omega, fun w2 => ?_⟩
            have : i = s := by omega
            subst this
            omega
          · rw [if_neg w]
            exact q8 j hj
        · refine ⟨?_, ?_, ?_, fun n hn => ?_, fun i hi => ?_⟩
          · rw [t1 7 (by decide) (by decide)]; exact hc.1
          · rw [t1 7 (by decide) (by decide)]; exact hc.2.1
          · rw [t1 7 (by decide) (by decide)]; exact hc.2.2.1
          · unfold zCNd
            rw [t1 8 (by decide) (by decide), t1 9 (by decide) (by decide), t1 10 (by decide) (by decide), t1 11 (by decide) (by decide), t1 12 (by decide) (by decide)]
            exact hc.2.2.2.1 n hn
          · obtain ⟨q1, q2, q3, q4, q5, q6, q7⟩ := hc.2.2.2.2 i hi
            unfold zCS
            rw [t1 13 (by decide) (by decide), t1 14 (by decide) (by decide), t1 15 (by decide) (by decide), t1 16 (by decide) (by decide), t1 17 (by decide) (by decide)]
            refine ⟨q1, q2, q3, q4, ?_, q6, fun j hj => ?_⟩
            · show τ.1 18 i = nI (fb_ct (fun j => (if 3 * i + j = 3 * s + k then v else a 10 (3 * i + j)) == 0) (zdo (a 6 i)))
              by_cases w : i = s
              · subst w
                rw [t3]
                congr 1
                refine fb_ct_cong (fun j hj => ?_)
                by_cases w2 : j = k
                · rw [if_pos w2, if_pos (by omega)]
                · rw [if_neg w2, if_neg (by omega)]
              · rw [t2 i w, q5]
                have oi := zdo_b (a 6 i) (by have := (ho.2.2.2.2 i hi).1; omega)
                unfold zop
                congr 1
                refine fb_ct_cong (fun j hj => ?_)
                rw [if_neg (by omega)]
            · show τ.1 19 (3 * i + j) = nI (if 3 * i + j = 3 * s + k then v else a 10 (3 * i + j))
              by_cases w : 3 * i + j = 3 * s + k
              · rw [if_pos w, w, t5]
              · rw [if_neg w, t4 _ w]; exact q7 j hj
        · refine ⟨hm.1, hm.2.1, hm.2.2.1, hm.2.2.2.1, fun i hi => ?_⟩
          obtain ⟨q1, q2, q3, q4, q5⟩ := hm.2.2.2.2 i hi
          refine ⟨q1, q2, q3, q4, fun j hj => ?_⟩
          show (zsi (zsi ρ 0 0 0) 13 (3 * s + k) (nI v)).1 13 (3 * i + j) = nI (if 3 * i + j = 3 * s + k then v else a 10 (3 * i + j))
          by_cases w : 3 * i + j = 3 * s + k
          · rw [if_pos w, w, zsi_s]
          · rw [if_neg w, zsi_o w]; exact q5 j hj
        · obtain ⟨cnt, lo, hi, has, nd, w1, w2, w3⟩ := hW
          obtain ⟨y1, y2, y3, y4, y5⟩ := w1
          refine ⟨cnt, lo, hi, has, nd, ⟨y1, ?_, fun k hk => ?_, fun j hj => ?_, y5⟩, w2, fun k hk => ?_⟩
          · rw [t1 23 (by decide) (by decide)]; exact y2
          · rw [t1 25 (by decide) (by decide), t1 26 (by decide) (by decide)]; exact y3 k hk
          · rw [t1 27 (by decide) (by decide), t1 28 (by decide) (by decide)]; exact y4 j hj
          · rw [t1 24 (by decide) (by decide)]; exact w3 k hk
        · unfold zRS
          rw [t1 2 (by decide) (by decide), t1 3 (by decide) (by decide), t1 4 (by decide) (by decide)]
          exact hS
        · unfold zRT
          rw [t1 5 (by decide) (by decide), t1 6 (by decide) (by decide)]
          exact hT
        · unfold zRF
          rw [t1 0 (by decide) (by decide)]
          exact hF
        · unfold zRA
          rw [t1 33 (by decide) (by decide), t1 34 (by decide) (by decide)]
          exact hA
      · rw [q2, q2, zbnd_some, zbnd_some, if_pos rfl, if_pos rfl]
        exact ⟨_, _, _, rfl, rfl, hR2⟩
    · rw [q, q, zbnd_some, zbnd_some, if_pos rfl, if_pos rfl]
      exact ⟨_, _, _, rfl, rfl, hR2⟩
  · rw [c1, c2, zbnd_some, zbnd_some, if_pos rfl, if_pos rfl]
    exact ⟨_, _, _, rfl, rfl, hR2⟩
