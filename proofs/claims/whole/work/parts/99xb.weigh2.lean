/-! ===== weigh, pair, unweigh: the calls ===== -/
theorem zmweigh {N cnt k : Nat} {nd : Nat → Nat} {x2 x3 : Int32} {σ : zSt} (hc3 : cnt ≤ 3) (hcnt : σ.1 0 31 = nI cnt) (hnd : ∀ j, j < cnt → σ.1 15 j = nI (nd j) ∧ nd j < 20) (hk : k < 20) : ∀ (g f i : Nat), g < f → i + g = cnt → fX8_weigh_44 N f (nI k) x2 x3 (nI i) σ = if zex (fun j => nd (i + j) == k) g then some (-1000002, σ) else (if nI cnt = (3 : Int32) then some ((-1000003 : Int32), σ) else zas σ 15 3 (nI cnt) (nI k) (fun (σ1 : zSt) => zas σ1 16 6 (σ1.1 0 31) (vp_nar .boolean (1 : Int32)) (fun (σ2 : zSt) => zas σ2 17 6 (σ2.1 0 31) x2 (fun (σ3 : zSt) => zas σ3 18 6 (σ3.1 0 31) x3 (fun (σ4 : zSt) => zpf σ4 0 31 ((σ4.1 0 31) + (1 : Int32)) (fun (σ5 : zSt) => some ((σ5.1 0 31), σ5)))))))
  | 0, f + 1, i, _, hi => by
    rw [fX8_weigh_44, hcnt, if_pos (nI_le (by omega) (by omega))]
    rfl
  | g + 1, f + 1, i, hf, hi => by
    obtain ⟨n1, n2⟩ := hnd i (by omega)
    rw [fX8_weigh_44, hcnt, if_neg (nI_ge (by omega) (by omega)), zag_nI (by omega) (by omega), n1]
    by_cases q : nd i = k
    · have : zex (fun j => nd (i + j) == k) (g + 1) = true := zex_iff.mpr ⟨0, by omega, by show (nd (i + 0) == k) = true; rw [Nat.add_zero, q]; simp⟩
      rw [if_pos (by rw [q]), this, if_pos rfl]
    · have e : zex (fun j => nd (i + j) == k) (g + 1) = zex (fun j => nd (i + 1 + j) == k) g := by
        refine Bool.eq_iff_iff.mpr ⟨fun z => ?_, fun z => ?_⟩
        · obtain ⟨j, hj, ej⟩ := zex_iff.mp z
          have ej : (nd (i + j) == k) = true := ej
          have : j ≠ 0 := fun j0 => by rw [j0, Nat.add_zero] at ej; exact q (by simpa using ej)
          exact zex_iff.mpr ⟨j - 1, by omega, by show (nd (i + 1 + (j - 1)) == k) = true; rw [show i + 1 + (j - 1) = i + j by omega]; exact ej⟩
        · obtain ⟨j, hj, ej⟩ := zex_iff.mp z
          exact zex_iff.mpr ⟨j + 1, by omega, by show (nd (i + (j + 1)) == k) = true; rw [show i + (j + 1) = i + 1 + j by omega]; exact ej⟩
      rw [if_neg (fun z => q ((nI_eq (by omega) (by omega)).mp z)), nI_1, e]
      have ih := zmweigh (N := N) (x2 := x2) (x3 := x3) hc3 hcnt hnd hk g f (i + 1) (by omega) (by omega)
      exact ih
theorem zmx_small : ∀ k, k < 3 → zmx k = k := by decide
theorem zp_weigh {N : Nat} (hN : 600000 ≤ N) (x y z : Int32) : zP2 (fX7_weigh N x y z) (fX8_weigh N x y z) := by
  intro σ ρ hR
  have hR2 := zR_keep hR zKC_rfl (zKM_thr (σ := ρ))
  have hR' := hR2
  obtain ⟨a, ho, hc, hm, ⟨cnt, lo, hi, has, nd, w1, w2, w3⟩, hS, hT, hF, hA⟩ := hR'
  have h20 := ho.1
  have hc3 := w1.1
  unfold fX7_weigh fX8_weigh
  rw [zpf_eq]
  rcases zground2 (N := N) (x := x) hc hm ho with ⟨k, hk, hk2, e, c1, c2⟩ | ⟨c1, c2⟩
  · rw [c1, c2, zbnd_some, zbnd_some, if_neg (show ¬ (1 : Int32) = 0 by decide), if_neg (show ¬ (1 : Int32) = 0 by decide)]
    rcases zspan2 (N := N) y z with ⟨l, h, hl, hh, el, eh, s1, s2, s3⟩ | ⟨s1, s2 | ⟨s2, s3⟩⟩
    · rw [s1, s2, zbnd_some, zbnd_some, if_neg (show ¬ (1 : Int32) = 0 by decide), if_neg (show ¬ (1 : Int32) = 0 by decide), s3, zbnd_some, if_neg (show ¬ (1 : Int32) = 0 by decide), e, el, eh]
      have nd1 : ∀ j, j < cnt → σ.1 24 j = nI (nd j) ∧ nd j < 20 := fun j hj => ⟨(w3 j hj).1, by have := (w3 j hj).2.2.1; omega⟩
      have nd2 : ∀ j, j < cnt → (zsi ρ 0 0 0).1 15 j = nI (nd j) ∧ nd j < 20 := fun j hj => ⟨(w3 j hj).2.1, by have := (w3 j hj).2.2.1; omega⟩
      have e1 : fX6_has N (nI k) σ = _ := zchas (N := N) hc3 w1.2.1 nd1 (show k < 20 by omega) cnt N 0 (by omega) (by omega)
      have e2 : fX8_weigh_44 N N (nI k) (nI l) (nI h) 0 (zsi ρ 0 0 0) = _ := zmweigh (N := N) (x2 := nI l) (x3 := nI h) hc3 w2.2.1 nd2 (show k < 20 by omega) cnt N 0 (by omega) (by omega)
      rw [e1, e2, zbnd_some]
      by_cases q : zex (fun j => nd (0 + j) == k) cnt = true
      · rw [q, if_pos rfl, if_neg (by decide), if_pos rfl]
        exact ⟨_, _, _, rfl, rfl, hR2⟩
      · rw [if_neg q, if_pos (show nI 0 = (0 : Int32) from rfl), if_neg q]
        unfold fX6_isFull fX6_add
        rw [w1.2.1]
        by_cases q3 : cnt = 3
        · rw [if_neg (show ¬ nI cnt < (3 : Int32) from nI_nlt (b := 3) (by omega) (by omega)), zrz_1, zbnd_some, if_neg (by decide), if_pos (show nI cnt = (3 : Int32) by rw [q3]; rfl)]
          exact ⟨_, _, _, rfl, rfl, hR2⟩
        · have n1 : vp_nar .boolean (1 : Int32) = nI 1 := by decide
          rw [if_pos (show nI cnt < (3 : Int32) from nI_lt (b := 3) (by omega) (by omega)), zrz_0, zbnd_some, if_pos rfl, if_neg (show ¬ nI cnt = (3 : Int32) from fun z => q3 ((nI_eq (b := 3) (by omega) (by omega)).mp z)), w1.2.1, if_pos (show nI cnt < (3 : Int32) from nI_lt (b := 3) (by omega) (by omega)), zas_nI (by omega) (by omega), zas_nI (by omega) (by omega)]
          have g1 : (zsi σ 24 cnt (nI k)).1 23 0 = nI cnt := w1.2.1
          have g2 : (zsi (zsi σ 24 cnt (nI k)) 25 cnt (nI l)).1 23 0 = nI cnt := w1.2.1
          have g3 : (zsi (zsi (zsi σ 24 cnt (nI k)) 25 cnt (nI l)) 26 cnt (nI h)).1 23 0 = nI cnt := w1.2.1
          rw [g1, zas_nI (by omega) (by omega), g2, zas_nI (by omega) (by omega), g3, zpf_eq, zbnd_some, nI_1, n1]
          have k1 : (zsi (zsi ρ 0 0 0) 15 cnt (nI k)).1 0 31 = nI cnt := w2.2.1
          have k2 : (zsi (zsi (zsi ρ 0 0 0) 15 cnt (nI k)) 16 cnt (nI 1)).1 0 31 = nI cnt := w2.2.1
          have k3 : (zsi (zsi (zsi (zsi ρ 0 0 0) 15 cnt (nI k)) 16 cnt (nI 1)) 17 cnt (nI l)).1 0 31 = nI cnt := w2.2.1
          have k4 : (zsi (zsi (zsi (zsi (zsi ρ 0 0 0) 15 cnt (nI k)) 16 cnt (nI 1)) 17 cnt (nI l)) 18 cnt (nI h)).1 0 31 = nI cnt := w2.2.1
          rw [k1, zas_nI (by omega) (by omega), k2, zas_nI (by omega) (by omega), k3, zas_nI (by omega) (by omega), k4, zpf_eq, nI_1, zsi_s, zsi_s]
          refine ⟨_, _, _, rfl, rfl, ⟨a, ho, hc, ?_, ⟨cnt + 1, zu1 lo cnt l, zu1 hi cnt h, fun j => if j = cnt then true else has j, zu1 nd cnt k, ?_, ?_, ?_⟩, hS, ?_, ?_, ?_⟩⟩
          · exact ⟨(zsi_o (by decide)).trans hm.1, (zsi_o (by decide)).trans hm.2.1, (zsi_o (by decide)).trans hm.2.2.1, hm.2.2.2⟩
          · refine ⟨by omega, zsi_s, fun j hj => ?_, fun j hj => ?_, fun j hj => ?_⟩
            · show (zsi (zsi σ 24 cnt (nI k)) 25 cnt (nI l)).1 25 j = nI (if j = cnt then l else lo j) ∧ (zsi (zsi (zsi σ 24 cnt (nI k)) 25 cnt (nI l)) 26 cnt (nI h)).1 26 j = nI (if j = cnt then h else hi j)
              by_cases v : j = cnt
              · rw [if_pos v, if_pos v, v, zsi_s, zsi_s]; exact ⟨rfl, rfl⟩
              · rw [if_neg v, if_neg v, zsi_o v, zsi_o v]
                exact w1.2.2.1 j (by omega)
            · show σ.1 27 j = nI (if 3 + j = cnt then l else lo (3 + j)) ∧ σ.1 28 j = nI (if 3 + j = cnt then h else hi (3 + j))
              rw [if_neg (by omega), if_neg (by omega)]
              exact w1.2.2.2.1 j hj
            · have b := w1.2.2.2.2 j hj
              show (if j = cnt then l else lo j) ≤ 100 ∧ (if j = cnt then h else hi j) ≤ 100
              by_cases v : j = cnt
              · rw [if_pos v, if_pos v]; omega
              · rw [if_neg v, if_neg v]; exact b
          · refine ⟨by omega, zsi_s, fun j hj => ?_⟩
            obtain ⟨b1, b2, b3, b4⟩ := w2.2.2 j hj
            show (zsi (zsi (zsi ρ 0 0 0) 15 cnt (nI k)) 16 cnt (nI 1)).1 16 j = nI (if (if j = cnt then true else has j) = true then 1 else 0) ∧ ((if j = cnt then true else has j) = true → (zsi (zsi (zsi (zsi ρ 0 0 0) 15 cnt (nI k)) 16 cnt (nI 1)) 17 cnt (nI l)).1 17 j = nI (if j = cnt then l else lo j) ∧ (zsi (zsi (zsi (zsi (zsi ρ 0 0 0) 15 cnt (nI k)) 16 cnt (nI 1)) 17 cnt (nI l)) 18 cnt (nI h)).1 18 j = nI (if j = cnt then h else hi j) ∧ zmx j < cnt + 1) ∧ ((if j = cnt then true else has j) = false → (if j = cnt then l else lo j) = 0 ∧ (if j = cnt then h else hi j) = 100) ∧ (if j = cnt then l else lo j) ≤ 100 ∧ (if j = cnt then h else hi j) ≤ 100
            by_cases v : j = cnt
            · have mx := zmx_small j (by omega)
              rw [if_pos v, if_pos v, if_pos v, mx, v, zsi_s, zsi_s, zsi_s]
              exact ⟨rfl, fun _ => ⟨rfl, rfl, by omega⟩, fun u => absurd u (by decide), by omega, hh⟩
            · rw [if_neg v, if_neg v, if_neg v, zsi_o v, zsi_o v, zsi_o v]
              refine ⟨b1, fun u => ?_, b3, b4⟩
              obtain ⟨d1, d2, d3⟩ := b2 u
              exact ⟨d1, d2, by omega⟩
          · intro j hj
            show (zsi σ 24 cnt (nI k)).1 24 j = nI (if j = cnt then k else nd j) ∧ (zsi (zsi ρ 0 0 0) 15 cnt (nI k)).1 15 j = nI (if j = cnt then k else nd j) ∧ (if j = cnt then k else nd j) < a 0 0 ∧ (if j = cnt then true else has j) = true
            by_cases v : j = cnt
            · rw [if_pos v, if_pos v, v, zsi_s, zsi_s]
              exact ⟨rfl, rfl, hk, rfl⟩
            · rw [if_neg v, if_neg v, zsi_o v, zsi_o v]
              exact w3 j (by omega)
          · obtain ⟨len, l1, l2, l3, l4⟩ := hT
            exact ⟨len, l1, l2, (zsi_o (by decide)).trans l3, l4⟩
          · exact ⟨hF.1.trans (zsi_o (by decide)).symm, hF.2.trans (zsi_o (by decide)).symm⟩
          · obtain ⟨t, t1, t2, t3, t4⟩ := hA
            exact ⟨t, t1, t2, (zsi_o (by decide)).trans t3, t4⟩
    · rw [s1, s2, zbnd_some, zbnd_some, if_pos rfl, if_pos rfl]
      exact ⟨_, _, _, rfl, rfl, hR2⟩
    · rw [s1, s2, zbnd_some, zbnd_some, if_pos rfl, if_neg (show ¬ (1 : Int32) = 0 by decide), s3, zbnd_some, if_pos rfl]
      exact ⟨_, _, _, rfl, rfl, hR2⟩
  · rw [c1, c2, zbnd_some, zbnd_some, if_pos rfl, if_pos rfl]
    exact ⟨_, _, _, rfl, rfl, hR2⟩
