/-! ===== ask: the sizes ===== -/
theorem zsize_g {N n k : Nat} {a : zA} {σ0 ρ0 σ ρ : zSt} (h : zA2 σ0 ρ0 σ ρ) (hc : zCN σ0 a) (hm : zMN ρ0 a) (ho : zOk a) (hn : n < a 0 0) (hN : 600000 ≤ N) (hk : k = 1 ∨ k = 2 ∨ k = 5) (hg : a 1 n < 2) : ∃ τ υ, fX0_size11 N (nI n) σ = some (nI (zpn a n) + nI (a 2 n), τ) ∧ fX8_sizeOf_41 N (nI n) (nI k) ρ = fX8_sizeOf_94 N (nI n) (nI k) (nI (a 2 n)) (nI (zpn a n)) υ ∧ zA2 σ0 ρ0 τ υ := by
  have h20 := ho.1
  obtain ⟨τ1, υ1, b1, b2, b3⟩ := zbeg2 (N := N) 11 h
  obtain ⟨τ2, υ2, d1, d2, d3⟩ := zbeg2 (N := N) 10 b3
  have kio : zio k 1 = true := by rcases hk with z | z | z <;> subst z <;> rfl
  have isof : ∀ ρ, fX8_isOf N (nI k) 1 ρ = some (nI 1, ρ) := fun ρ => by
    have := zmisof (N := N) (i := k) (j := 1) (ρ := ρ) (by omega) (by decide)
    rw [kio, if_pos rfl] at this
    exact this
  refine ⟨τ2, υ2, ?_, ?_, d3⟩
  · unfold fX0_size11 fX0_size10
    rw [b1, zbnd_some, d1, zbnd_some, zctimes (zA2_c d3 hc) ho (by omega) hN, zbnd_some, zbnd_some, zag_nI (by omega) (by omega), (((zA2_c d3 hc).2.2.2.1 n hn).2.2 hg).1]
  · unfold fX8_sizeOf_41 fX8_sizeOf_57
    rw [isof, zbnd_some, if_neg (show ¬ nI 1 = (0 : Int32) by decide), b2, zbnd_some, d2, zbnd_some, zmtimes (zA2_m d3 hm) ho (by omega) hN, zbnd_some, isof, zbnd_some, if_neg (show ¬ nI 1 = (0 : Int32) by decide), zag_nI (by omega) (by omega), (((zA2_m d3 hm).2.2.2.1 n hn).2.2.1 hg).1]
theorem zsize_c {N n : Nat} {a : zA} {σ0 ρ0 σ ρ : zSt} (h : zA2 σ0 ρ0 σ ρ) (hc : zCN σ0 a) (hm : zMN ρ0 a) (ho : zOk a) (hn : n < a 0 0) (hN : 600000 ≤ N) (hs : σ0.1 33 2 = nI (zS (zsh a (fun _ => false) (zsd a)))) (hk : zkd a n = 3 ∨ zkd a n = 4) : ∃ r τ υ, fX0_size13 N (nI n) σ = some (nI (zpn a n) + r, τ) ∧ fX8_sizeOf_41 N (nI n) (nI (zkd a n)) ρ = fX8_sizeOf_94 N (nI n) (nI (zkd a n)) r (nI (zpn a n)) υ ∧ zA2 σ0 ρ0 τ υ := by
  have h20 := ho.1
  obtain ⟨τ1, υ1, b1, b2, b3⟩ := zbeg2 (N := N) 13 h
  obtain ⟨τ2, υ2, d1, d2, d3⟩ := zbeg2 (N := N) 10 b3
  obtain ⟨r, τ3, υ3, m1, m2, m3⟩ := zmark2 (N := N) (n := n) d3 hc hm ho hn hN hs
  have kio : zio (zkd a n) 1 = false := by rcases hk with z | z <;> rw [z] <;> rfl
  have isof : ∀ ρ, fX8_isOf N (nI (zkd a n)) 1 ρ = some (nI 0, ρ) := fun ρ => by
    have := zmisof (N := N) (i := zkd a n) (j := 1) (ρ := ρ) zkd_lt (by decide)
    rw [kio, if_neg (by decide)] at this
    exact this
  refine ⟨r, τ3, υ3, ?_, ?_, m3⟩
  · unfold fX0_size13 fX0_size10
    rw [b1, zbnd_some, d1, zbnd_some, zctimes (zA2_c d3 hc) ho (by omega) hN, zbnd_some, zbnd_some, m1, zbnd_some]
  · unfold fX8_sizeOf_41 fX8_sizeOf_57
    rw [isof, zbnd_some, if_pos (show nI 0 = (0 : Int32) from rfl), b2, zbnd_some, d2, zbnd_some, zmtimes (zA2_m d3 hm) ho (by omega) hN, zbnd_some, isof, zbnd_some, if_pos (show nI 0 = (0 : Int32) from rfl), m2, zbnd_some]
theorem zsize2 {N n : Nat} {a : zA} {σ0 ρ0 σ ρ : zSt} (h : zA2 σ0 ρ0 σ ρ) (hc : zCN σ0 a) (hm : zMN ρ0 a) (ho : zOk a) (hn : n < a 0 0) (hN : 600000 ≤ N) (hs : σ0.1 33 2 = nI (zS (zsh a (fun _ => false) (zsd a)))) : ∃ r τ υ, fX0_size N (nI n) σ = some (r, τ) ∧ fX8_sizeOf N (nI n) (nI (zkd a n)) ρ = some (r, υ) ∧ zA2 σ0 ρ0 τ υ := by
  have h20 := ho.1
  have o1 := (ho.2.2.2.1 n hn).1
  have hkk : (zkd a n = 1 ∧ a 1 n < 2) ∨ (zkd a n = 2 ∧ a 1 n < 2) ∨ zkd a n = 3 ∨ zkd a n = 4 ∨ (zkd a n = 5 ∧ a 1 n < 2) := by
    unfold zkd
    by_cases q : a 1 n = 2
    · rw [if_pos q]
      by_cases w : zpn a n = 0
      · rw [if_pos w]; omega
      · rw [if_neg w]; omega
    · rw [if_neg q]
      by_cases w : zst a n = true
      · rw [if_pos w]
        by_cases v : a 1 n = 1
        · rw [if_pos v]; omega
        · rw [if_neg v]; omega
      · rw [if_neg w]; omega
  unfold fX0_size
  rw [zckind (zA2_c h hc) ho hn hN, zbnd_some]
  unfold fX8_sizeOf
  rcases hkk with ⟨e, hg⟩ | ⟨e, hg⟩ | e | e | ⟨e, hg⟩
  · rw [e]
    obtain ⟨τ, υ, r1, r2, r3⟩ := zsize_g (N := N) h hc hm ho hn hN (Or.inl rfl) hg
    unfold fX8_sizeOf_94 at r2
    rw [if_pos (by decide), r1, zbnd_some, if_neg (by decide), if_neg (by decide), if_neg (by decide), r2, znm_eq, if_neg (by decide), if_neg (by decide), if_neg (by decide)]
    exact ⟨_, _, _, rfl, rfl, r3⟩
  · rw [e]
    obtain ⟨τ1, υ1, b1, b2, b3⟩ := zbeg2 (N := N) 12 h
    obtain ⟨τ, υ, r1, r2, r3⟩ := zsize_g (N := N) b3 hc hm ho hn hN (Or.inr (Or.inl rfl)) hg
    unfold fX8_sizeOf_94 at r2
    unfold fX0_size12 fX8_sizeOf_15 fX8_sizeOf_38
    rw [if_neg (by decide), if_pos (by decide), b1, zbnd_some, r1, zbnd_some, zbnd_some, if_pos (by decide), if_pos (by decide), b2, zbnd_some, r2, znm_eq, if_pos (by decide)]
    exact ⟨_, _, _, rfl, rfl, r3⟩
  · obtain ⟨r, τ, υ, r1, r2, r3⟩ := zsize_c (N := N) h hc hm ho hn hN hs (Or.inl e)
    rw [e] at r2 ⊢
    unfold fX8_sizeOf_94 at r2
    rw [if_neg (by decide), if_neg (by decide), if_pos (by decide), r1, zbnd_some, if_neg (by decide), if_neg (by decide), if_neg (by decide), r2, znm_eq, if_neg (by decide), if_neg (by decide), if_neg (by decide)]
    exact ⟨_, _, _, rfl, rfl, r3⟩
  · obtain ⟨τ1, υ1, b1, b2, b3⟩ := zbeg2 (N := N) 14 h
    obtain ⟨r, τ, υ, r1, r2, r3⟩ := zsize_c (N := N) b3 hc hm ho hn hN hs (Or.inr e)
    rw [e] at r2 ⊢
    unfold fX8_sizeOf_94 at r2
    unfold fX0_size14 fX8_sizeOf_15 fX8_sizeOf_38
    rw [if_neg (by decide), if_neg (by decide), if_neg (by decide), if_pos (by decide), b1, zbnd_some, r1, zbnd_some, zcheld (zA2_c r3 hc) ho (by omega) hN, zbnd_some, zbnd_some, if_neg (by decide), if_neg (by decide), if_pos (by decide), if_neg (by decide), if_neg (by decide), b2, zbnd_some, r2, znm_eq, if_neg (by decide), if_neg (by decide), if_pos (by decide), zmheld (zA2_m r3 hm) ho (by omega) hN, zbnd_some]
    exact ⟨_, _, _, rfl, rfl, r3⟩
  · rw [e]
    obtain ⟨τ1, υ1, b1, b2, b3⟩ := zbeg2 (N := N) 15 h
    obtain ⟨τ, υ, r1, r2, r3⟩ := zsize_g (N := N) b3 hc hm ho hn hN (Or.inr (Or.inr rfl)) hg
    unfold fX8_sizeOf_94 at r2
    unfold fX0_size15 fX8_sizeOf_15 fX8_sizeOf_38
    rw [if_neg (by decide), if_neg (by decide), if_neg (by decide), if_neg (by decide), if_pos (by decide), b1, zbnd_some, r1, zbnd_some, zbnd_some, if_neg (by decide), if_pos (by decide), if_neg (by decide), if_pos (by decide), b2, zbnd_some, r2, znm_eq, if_neg (by decide), if_pos (by decide)]
    exact ⟨_, _, _, rfl, rfl, r3⟩
theorem zR_ask {σ ρ τ υ : zSt} (h : zR σ ρ) (hc : ∀ k, k ≠ 33 → k ≠ 34 → τ.1 k = σ.1 k) (hm : ∀ k, k ≠ 0 → k ≠ 22 → υ.1 k = ρ.1 k) (hm0 : ∀ i, i ≠ 45 → i ≠ 30 → υ.1 0 i = ρ.1 0 i) (hA : zRA τ υ) : zR τ υ := by
  obtain ⟨a, h1, h2, h3, ⟨cnt, lo, hi, has, nd, w1, w2, w3⟩, h5, h6, h7, h8⟩ := h
  refine ⟨a, h1, zCN_fr h2 (fun k q1 q2 => hc k (by omega) (by omega)), zMN_fr h3 (fun k q1 q2 => hm k (by omega) (by omega)) (hm0 5 (by decide) (by decide)) (hm0 6 (by decide) (by decide)) (hm0 29 (by decide) (by decide)), ⟨cnt, lo, hi, has, nd, ?_, ?_, fun k hk => ?_⟩, ?_, ?_, ?_, hA⟩
  · obtain ⟨y1, y2, y3, y4, y5⟩ := w1
    refine ⟨y1, ?_, fun k hk => ?_, fun j hj => ?_, y5⟩
    · rw [hc 23 (by decide) (by decide)]; exact y2
    · rw [hc 25 (by decide) (by decide), hc 26 (by decide) (by decide)]; exact y3 k hk
    · rw [hc 27 (by decide) (by decide), hc 28 (by decide) (by decide)]; exact y4 j hj
  · obtain ⟨y1, y2, y3⟩ := w2
    refine ⟨y1, ?_, fun k hk => ?_⟩
    · rw [hm0 31 (by decide) (by decide)]; exact y2
    · rw [hm 16 (by decide) (by decide), hm 17 (by decide) (by decide), hm 18 (by decide) (by decide)]; exact y3 k hk
  · rw [hc 24 (by decide) (by decide), hm 15 (by decide) (by decide)]; exact w3 k hk
  · unfold zRS at *
    rw [hc 2 (by decide) (by decide), hc 3 (by decide) (by decide), hc 4 (by decide) (by decide), hm 1 (by decide) (by decide), hm 2 (by decide) (by decide), hm 3 (by decide) (by decide)]
    exact h5
  · unfold zRT at *
    rw [hc 5 (by decide) (by decide), hc 6 (by decide) (by decide), hm0 20 (by decide) (by decide), hm 14 (by decide) (by decide)]
    exact h6
  · unfold zRF at *
    rw [hc 0 (by decide) (by decide), hm0 21 (by decide) (by decide), hm0 1 (by decide) (by decide)]
    exact h7
theorem zp_ask {N : Nat} (hN : 600000 ≤ N) (x y : Int32) : zP2 (fX7_ask N x y) (fX8_ask N x y) := by
  intro σ ρ hR
  have hR2 := zR_keep hR zKC_rfl (zKM_thr (σ := ρ))
  have hR' := hR2
  obtain ⟨a, ho, hc, hm, -⟩ := hR'
  unfold fX7_ask fX8_ask
  rw [zpf_eq]
  rcases znode2 (N := N) (x := x) hc hm ho with ⟨k, hk, e, c1, c2⟩ | ⟨c1, c2⟩
  · have e1 : (1 : Int64) = (nI 2 - 1).toInt64 := by decide
    have e0 : (0 : Int64) = (0 : Int32).toInt64 := by decide
    have e1' : fX7_isWithin N y 0 1 σ = fX7_isWithin N y 0 (nI 2 - 1) σ := rfl
    rw [c1, c2, zbnd_some, zbnd_some, if_neg (show ¬ (1 : Int32) = 0 by decide), if_neg (show ¬ (1 : Int32) = 0 by decide), e, e1, e0, zinM, e1']
    rcases zw_ex (N := N) (n := 2) (x := y) (by decide) with ⟨w, hw, ew, q⟩ | ⟨hno, q⟩
    · have hst : ∀ S, fX0_start N S σ = some ((), zsi (zsi σ 33 1 0) 33 2 S) := fun S => rfl
      have hb : zA2 (zsi (zsi σ 33 1 0) 33 2 (nI (zS (zsh a (fun _ => false) (zsd a))))) (zsi (zsi ρ 0 0 0) 0 45 0) (zsi (zsi σ 33 1 0) 33 2 (nI (zS (zsh a (fun _ => false) (zsd a))))) (zsi (zsi ρ 0 0 0) 0 45 0) := ⟨fun _ _ _ => rfl, rfl, fun _ _ _ => rfl, fun _ _ _ => rfl, ⟨0, by omega, (zsi_o (by decide)).trans zsi_s, zsi_s, fun i hi => absurd hi (Nat.not_lt_zero i)⟩⟩
      have hc0 : zCN (zsi (zsi σ 33 1 0) 33 2 (nI (zS (zsh a (fun _ => false) (zsd a))))) a := zCN_fr hc (fun j q1 q2 => by rw [zsi_c (by omega), zsi_c (by omega)])
      have hm0 : zMN (zsi (zsi ρ 0 0 0) 0 45 0) a := zMN_fr hm (fun j q1 q2 => zsi_c (by omega)) (zsi_o (by decide)) (zsi_o (by decide)) (zsi_o (by decide))
      rw [q, q, zbnd_some, zbnd_some, if_neg (show ¬ (1 : Int32) = 0 by decide), if_neg (show ¬ (1 : Int32) = 0 by decide), zcshown hc ho hN, zbnd_some, hst, zbnd_some, zpf_eq, ew]
      have fin : ∀ {τ υ : zSt}, zA2 (zsi (zsi σ 33 1 0) 33 2 (nI (zS (zsh a (fun _ => false) (zsd a))))) (zsi (zsi ρ 0 0 0) 0 45 0) τ υ → zR τ υ := fun {τ υ} h => zR_ask hR2 (fun k q1 q2 => (h.1 k q1 q2).trans (by rw [zsi_c q1, zsi_c q1])) (fun k q1 q2 => (h.2.2.1 k q1 q2).trans (zsi_c q1)) (fun i q1 q2 => (h.2.2.2.1 i q1 q2).trans (zsi_o q1)) h.2.2.2.2
      rcases (show w = 0 ∨ w = 1 by omega) with z | z <;> subst z
      · obtain ⟨r, τ, υ, r1, r2, r3⟩ := zsize2 (N := N) (n := k) hb hc0 hm0 ho hk hN zsi_s
        rw [if_pos (show nI 0 = (0 : Int32) from rfl), if_pos (show nI 0 = (0 : Int32) from rfl), r1, zbnd_some, zmkind hm0 ho hk hN, zbnd_some, r2, zbnd_some]
        exact ⟨_, _, _, rfl, rfl, fin r3⟩
      · obtain ⟨r, τ, υ, r1, r2, r3⟩ := zmark2 (N := N) (n := k) hb hc0 hm0 ho hk hN zsi_s
        rw [if_neg (show ¬ nI 1 = (0 : Int32) by decide), if_neg (show ¬ nI 1 = (0 : Int32) by decide), r1, zbnd_some, zmkind hm0 ho hk hN, zbnd_some, r2, zbnd_some]
        exact ⟨_, _, _, rfl, rfl, fin r3⟩
    · rw [q, q, zbnd_some, zbnd_some, if_pos rfl, if_pos rfl]
      exact ⟨_, _, _, rfl, rfl, hR2⟩
  · rw [c1, c2, zbnd_some, zbnd_some, if_pos rfl, if_pos rfl]
    exact ⟨_, _, _, rfl, rfl, hR2⟩
/-! ===== count ===== -/
theorem zlaid2 {N : Nat} {σ ρ : zSt} (hS : zRS σ ρ) : ∀ (g f f' s c : Nat), g < f → g < f' → s + g = 8 → ∃ r, fX3_laid_4 N f (nI c) (nI s) σ = some (r, σ) ∧ fX8_count_58 N f' (nI c) (nI s) ρ = some (r, ρ)
  | 0, f + 1, f' + 1, s, c, _, _, hs => by
    have e : s = 8 := by omega
    subst e
    rw [fX3_laid_4, fX8_count_58, if_pos (by decide), if_pos (by decide)]
    exact ⟨_, rfl, rfl⟩
  | g + 1, f + 1, f' + 1, s, c, hf, hf', hs => by
    rw [fX3_laid_4, fX8_count_58, if_neg (show ¬ (8 : Int32) ≤ nI s from nI_ge (b := 8) (by omega) (by omega)), if_neg (show ¬ (8 : Int32) ≤ nI s from nI_ge (b := 8) (by omega) (by omega)), zag_nI (by omega) (by omega), zag_nI (by omega) (by omega)]
    rcases hS.1 s (by omega) with ⟨d1, d2⟩ | ⟨l, n, hl, hn, d1, d2, d3, d4⟩
    · rw [d1, d2, if_pos rfl, if_pos (by decide), fX8_count_79, znm_eq, show (0 : Int32) = nI 0 from rfl, nI_add, nI_1]
      exact zlaid2 hS g f f' (s + 1) c (by omega) (by omega) (by omega)
    · have nm : ¬ nI n = (-1 : Int32) := fun z => by
        have := nI_pos (n := n) (by omega)
        rw [z] at this
        exact absurd (by decide) this
      rw [d3, d2, if_neg nm, if_neg (nI_pos (by omega)), fX8_count_79, znm_eq, nI_1, nI_1]
      exact zlaid2 hS g f f' (s + 1) (c + 1) (by omega) (by omega) (by omega)
theorem zmopens {N : Nat} {a : zA} {ρ : zSt} (h : zMN ρ a) (ho : zOk a) (hN : 600000 ≤ N) : ∀ (g f s : Nat), g < f → s + g = a 0 1 → fX8_count_109 N f (nI (fb_sm (zdc a 0) s)) (nI s) ρ = some (nI (fb_sm (zdc a 0) (a 0 1)), ρ)
  | 0, f + 1, s, _, hs => by
    have h16 := ho.2.1
    rw [fX8_count_109, h.2.1, if_pos (nI_le (by omega) (by omega)), show s = a 0 1 by omega]
  | g + 1, f + 1, s, hf, hs => by
    have h16 := ho.2.1
    rw [fX8_count_109, h.2.1, if_neg (nI_ge (by omega) (by omega)), zmopen h ho (by omega) hN, zbnd_some, znm_eq, nI_add, nI_1]
    exact zmopens h ho hN g f (s + 1) (by omega) (by omega)
theorem zmlost {N : Nat} {a : zA} {ρ : zSt} (h : zMN ρ a) (ho : zOk a) (hN : 600000 ≤ N) : ∀ (g f n : Nat), g < f → n + g = a 0 0 → fX8_count_135 N f (nI (fb_ct (fun n => zkd a n == 5) n)) (nI n) ρ = some (nI (fb_ct (fun n => zkd a n == 5) (a 0 0)), ρ)
  | 0, f + 1, n, _, hs => by
    have h20 := ho.1
    rw [fX8_count_135, h.1, if_pos (nI_le (by omega) (by omega)), show n = a 0 0 by omega]
  | g + 1, f + 1, n, hf, hs => by
    have h20 := ho.1
    have hk := zkd_lt (a := a) (n := n)
    have ih := zmlost (N := N) h ho hN g f (n + 1) (by omega) (by omega)
    rw [fb_ct_succ] at ih
    rw [fX8_count_135, h.1, if_neg (nI_ge (by omega) (by omega)), zmkind h ho (by omega) hN, zbnd_some]
    by_cases q : zkd a n = 5
    · have : (zkd a n == 5) = true := by rw [q]; rfl
      rw [this, if_pos rfl] at ih
      rw [if_pos (show nI (zkd a n) = (5 : Int32) by rw [q]; rfl), fX8_count_158, znm_eq, nI_1, nI_1]
      exact ih
    · have : (zkd a n == 5) = false := by simp; exact q
      rw [this, if_neg (by decide)] at ih
      rw [if_neg (show ¬ nI (zkd a n) = (5 : Int32) from fun z => q ((nI_eq (b := 5) (by omega) (by omega)).mp z)), fX8_count_158, znm_eq, show (0 : Int32) = nI 0 from rfl, nI_add, nI_1]
      exact ih
theorem zS_all {m : Nat} (h : m ≤ 20) : zS (fun n => decide (n < m)) = 2 ^ m - 1 := by
  refine Nat.eq_of_testBit_eq (fun i => ?_)
  rw [zset_bit, Nat.testBit_two_pow_sub_one]
  by_cases z : i < m
  · rw [decide_eq_true z, decide_eq_true (by omega)]; rfl
  · rw [decide_eq_false z, Bool.and_false]
theorem zclost {N : Nat} {a : zA} {σ : zSt} (h : zCN σ a) (ho : zOk a) (hN : 600000 ≤ N) : zbnd (fX2_grounds N σ) (fun (b14 : Int32) (σ15 : zSt) => zbnd (fX2_standing N σ15) (fun (b16 : Int32) (σ17 : zSt) => zbnd (fJ6_bitCount_0f7a4 N (b14 &&& (b16 ^^^ (-1 : Int32))) σ17) (fun (b18 : Int32) (σ19 : zSt) => some (b18, σ19)))) = some (nI (fb_ct (fun n => zkd a n == 5) (a 0 0)), σ) := by
  have h20 := ho.1
  have hp := Nat.two_pow_pos (a 0 0)
  have es : ((1 : Int32) <<< (nI (a 0 0) &&& 31)) - 1 = nI (zS (fun n => decide (n < a 0 0))) := by
    rw [zshl1 (by omega), zS_all h20, show (1 : Int32) = nI 1 from rfl, pk_sub (by omega)]
  unfold fX2_grounds
  rw [zcclaims h ho hN, zbnd_some, h.1, es, zS_andn, zbnd_some, zcstanding h ho hN, zbnd_some, zS_andn, zcbits, zbnd_some]
  have e : fb_ct (fun i => decide (i < a 0 0) && !zcl a i && !zsd a i) 20 = fb_ct (fun n => zkd a n == 5) (a 0 0) := by
    have s := fb_ct_split (fun i => decide (i < a 0 0) && !zcl a i && !zsd a i) (a 0 0) (20 - a 0 0)
    rw [show a 0 0 + (20 - a 0 0) = 20 by omega] at s
    have z0 : fb_ct (fun k => decide (a 0 0 + k < a 0 0) && !zcl a (a 0 0 + k) && !zsd a (a 0 0 + k)) (20 - a 0 0) = 0 := fb_ct_zero.mpr (fun k hk => by
      show (decide (a 0 0 + k < a 0 0) && !zcl a (a 0 0 + k) && !zsd a (a 0 0 + k)) = false
      rw [decide_eq_false (by omega)]; rfl)
    rw [s, z0, Nat.add_zero]
    refine fb_ct_cong (fun k hk => ?_)
    have o1 := (ho.2.2.2.1 k hk).1
    unfold zcl zsd zkd
    rw [decide_eq_true hk]
    by_cases q : a 1 k = 2
    · rw [q]
      by_cases w : zpn a k = 0
      · rw [w]; simp
      · rw [if_pos rfl, if_neg w]; simp
    · have q1 : (a 1 k == 2) = false := by simp; exact q
      rw [q1, if_neg q, decide_eq_true (show a 1 k < 2 by omega)]
      cases zst a k
      · simp
      · by_cases v : a 1 k = 1
        · rw [v]; simp
        · rw [if_pos rfl, if_neg v]; simp
  rw [e]
theorem zp_count {N : Nat} (hN : 600000 ≤ N) (x : Int32) : zP2 (fX7_count N x) (fX8_count N x) := by
  intro σ ρ hR
  have hR2 := zR_keep hR zKC_rfl (zKM_thr (σ := ρ))
  have hR' := hR2
  obtain ⟨a, ho, hc, hm, ⟨cnt, lo, hi, has, nd, w1, w2, w3⟩, hS, ⟨len, l1, l2, l3, l4⟩, -⟩ := hR'
  have h20 := ho.1
  have h16 := ho.2.1
  unfold fX7_count fX8_count
  rw [zpf_eq]
  rcases zw_ex (N := N) (n := 8) (x := x) (by decide) with ⟨w, hw, ew, -⟩ | ⟨hno, -⟩
  · rw [ew]
    rcases (show w = 0 ∨ w = 1 ∨ w = 2 ∨ w = 3 ∨ w = 4 ∨ w = 5 ∨ w = 6 ∨ w = 7 by omega) with z | z | z | z | z | z | z | z <;> subst z
    · obtain ⟨r, r1, r2⟩ := zlaid2 (N := N) hS 8 N N 0 0 (by omega) (by omega) (by omega)
      have r1 : fX3_laid N σ = some (r, σ) := r1
      have r2 : fX8_count_58 N N 0 0 (zsi ρ 0 0 0) = some (r, zsi ρ 0 0 0) := r2
      rw [if_pos (by decide), if_pos (by decide), r1, r2, zbnd_some]
      exact ⟨_, _, _, rfl, rfl, hR2⟩
    · rw [if_neg (by decide), if_pos (by decide), if_neg (by decide), if_pos (by decide), hc.1, hm.1]
      exact ⟨_, _, _, rfl, rfl, hR2⟩
    · rw [if_neg (by decide), if_neg (by decide), if_pos (by decide), if_neg (by decide), if_neg (by decide), if_pos (by decide), zcclaims hc ho hN, zmclaims hm ho hN, zbnd_some, zbnd_some, zcbits, zmbits hN, zbnd_some, zbnd_some]
      exact ⟨_, _, _, rfl, rfl, hR2⟩
    · rw [if_neg (by decide), if_neg (by decide), if_neg (by decide), if_pos (by decide), if_neg (by decide), if_neg (by decide), if_neg (by decide), if_pos (by decide), hc.2.1, hm.2.1]
      exact ⟨_, _, _, rfl, rfl, hR2⟩
    · have r1 := zctold (N := N) (how := 0) hc ho (by decide) hN
      have r1 : fX2_doubtsToldAs N 0 σ = _ := r1
      have r2 := zmopens (N := N) hm ho hN (a 0 1) N 0 (by omega) (by omega)
      have r2 : fX8_count_109 N N 0 0 (zsi ρ 0 0 0) = _ := r2
      rw [if_neg (by decide), if_neg (by decide), if_neg (by decide), if_neg (by decide), if_pos (by decide), if_neg (by decide), if_neg (by decide), if_neg (by decide), if_neg (by decide), if_pos (by decide), r1, zbnd_some, r2]
      exact ⟨_, _, _, rfl, rfl, hR2⟩
    · have r2 := zmlost (N := N) hm ho hN (a 0 0) N 0 (by omega) (by omega)
      have r2 : fX8_count_135 N N 0 0 (zsi ρ 0 0 0) = _ := r2
      rw [if_neg (by decide), if_neg (by decide), if_neg (by decide), if_neg (by decide), if_neg (by decide), if_pos (by decide), if_neg (by decide), if_neg (by decide), if_neg (by decide), if_neg (by decide), if_neg (by decide), if_pos (by decide), zclost hc ho hN, r2]
      exact ⟨_, _, _, rfl, rfl, hR2⟩
    · rw [if_neg (by decide), if_neg (by decide), if_neg (by decide), if_neg (by decide), if_neg (by decide), if_neg (by decide), if_pos (by decide), if_neg (by decide), if_neg (by decide), if_neg (by decide), if_neg (by decide), if_neg (by decide), if_neg (by decide), if_pos (by decide), w1.2.1, w2.2.1]
      exact ⟨_, _, _, rfl, rfl, hR2⟩
    · rw [if_neg (by decide), if_neg (by decide), if_neg (by decide), if_neg (by decide), if_neg (by decide), if_neg (by decide), if_neg (by decide), if_pos (by decide), if_neg (by decide), if_neg (by decide), if_neg (by decide), if_neg (by decide), if_neg (by decide), if_neg (by decide), if_neg (by decide), if_pos (by decide), l2, l3]
      exact ⟨_, _, _, rfl, rfl, hR2⟩
  · have nw : ∀ w, w < 8 → ¬ x = nI w := fun w hw ew => hno ⟨w, hw, ew⟩
    have n0 : ¬ x = (0 : Int32) := nw 0 (by decide)
    have n1 : ¬ x = (1 : Int32) := nw 1 (by decide)
    have n2 : ¬ x = (2 : Int32) := nw 2 (by decide)
    have n3 : ¬ x = (3 : Int32) := nw 3 (by decide)
    have n4 : ¬ x = (4 : Int32) := nw 4 (by decide)
    have n5 : ¬ x = (5 : Int32) := nw 5 (by decide)
    have n6 : ¬ x = (6 : Int32) := nw 6 (by decide)
    have n7 : ¬ x = (7 : Int32) := nw 7 (by decide)
    rw [if_neg n0, if_neg n1, if_neg n2, if_neg n3, if_neg n4, if_neg n5, if_neg n6, if_neg n7, if_neg n0, if_neg n1, if_neg n2, if_neg n3, if_neg n4, if_neg n5, if_neg n6, if_neg n7]
    exact ⟨_, _, _, rfl, rfl, hR2⟩
