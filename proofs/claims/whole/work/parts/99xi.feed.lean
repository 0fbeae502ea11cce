/-! ===== feed ===== -/
theorem zbyte (y : Int64) : ∃ b, b < 256 ∧ (y &&& (255 : Int64)).toInt32 = nI b ∧ vp_nar .byte y.toInt32.toInt8.toInt32 = (nI b).toInt8.toInt32 := by
  have e1 : (y &&& (255 : Int64)).toInt32 = y.toInt32 &&& 255 := by
    apply Int32.toBitVec_inj.1
    apply BitVec.eq_of_getLsbD_eq
    intro i hi
    simp [hi]
  have e2 : y.toInt32 = nI y.toInt32.toBitVec.toNat := by
    apply Int32.toBitVec_inj.1
    show _ = BitVec.ofNat 32 _
    simp
  refine ⟨y.toInt32.toBitVec.toNat % 256, Nat.mod_lt _ (by decide), ?_, ?_⟩
  · rw [e1]
    conv => lhs; rw [e2]
    exact fa_mask _ 8
  · have e3 : (nI (y.toInt32.toBitVec.toNat % 256)).toInt8 = y.toInt32.toInt8 := by
      have : nI (y.toInt32.toBitVec.toNat % 256) = y.toInt32 &&& 255 := by
        conv => rhs; rw [e2]
        exact (fa_mask _ 8).symm
      rw [this, fa_byte_low]
    rw [e3, pk_vb]
theorem zfeed_loop {N : Nat} {w : Int64} : ∀ (g f f' len : Nat) (σ ρ : zSt), g < f → g < f' → len + g ≤ 400 → σ.1 5 1 = nI len → ρ.1 0 20 = nI len → (∀ i, i < len → ∃ b, b < 256 ∧ ρ.1 14 i = nI b ∧ σ.1 6 i = (nI b).toInt8.toInt32) →
    ∃ τ υ, fX5_append_5 N f w (iI ((g : Int) - 1)) σ = some (nI (len + g), τ) ∧ fX8_feed_40 N f' w (iI ((g : Int) - 1)) ρ = some (nI (len + g), υ) ∧ (∀ k, k ≠ 5 → k ≠ 6 → τ.1 k = σ.1 k) ∧ (∀ k, k ≠ 0 → k ≠ 14 → υ.1 k = ρ.1 k) ∧ (∀ i, i ≠ 20 → υ.1 0 i = ρ.1 0 i) ∧ τ.1 5 1 = nI (len + g) ∧ υ.1 0 20 = nI (len + g) ∧ ∀ i, i < len + g → ∃ b, b < 256 ∧ υ.1 14 i = nI b ∧ τ.1 6 i = (nI b).toInt8.toInt32
  | 0, f + 1, f' + 1, len, σ, ρ, _, _, hl, h5, h20, hb => by
    have hneg : iI (((0 : Nat) : Int) - 1) < 0 := by decide
    rw [fX5_append_5, fX8_feed_40, if_pos hneg, if_pos hneg, h5, h20]
    exact ⟨σ, ρ, rfl, rfl, fun _ _ _ => rfl, fun _ _ _ => rfl, fun _ _ => rfl, h5, h20, hb⟩
  | g + 1, f + 1, f' + 1, len, σ, ρ, hf, hf', hl, h5, h20, hb => by
    have eg : iI (((g + 1 : Nat) : Int) - 1) = nI g := by
      rw [← iI_nat]
      congr 1
      omega
    have en : nI g + -1 = iI ((g : Int) - 1) := by
      rw [← iI_nat, show (-1 : Int32) = iI (-1) from rfl, iI_add]
      congr 1
    rw [eg, fX5_append_5, fX8_feed_40, if_neg (nI_pos (by omega)), if_neg (nI_pos (by omega)), h5, h20, if_neg (show ¬ (400 : Int32) ≤ nI len from nI_ge (b := 400) (by omega) (by omega)), zas_nI (by omega) (by omega), zas_nI (by omega) (by omega), zpf_eq, zpf_eq, en]
    obtain ⟨b, hb1, hb2, hb3⟩ := zbyte (w >>> (((8 : Int32) * nI g).toInt64 &&& 63))
    rw [hb2, hb3]
    have k1 : (zsi σ 6 len ((nI b).toInt8.toInt32)).1 5 1 = nI len := h5
    have k2 : (zsi ρ 14 len (nI b)).1 0 20 = nI len := h20
    rw [k1, k2, nI_1]
    obtain ⟨τ, υ, r1, r2, r3, r4, r5, r6, r7, r8⟩ := zfeed_loop (N := N) (w := w) g f f' (len + 1) (zsi (zsi σ 6 len ((nI b).toInt8.toInt32)) 5 1 (nI (len + 1))) (zsi (zsi ρ 14 len (nI b)) 0 20 (nI (len + 1))) (by omega) (by omega) (by omega) zsi_s zsi_s (fun i hi => by
      rw [zsi_c (a := 14) (k := 0) (by decide), zsi_c (a := 6) (k := 5) (by decide)]
      by_cases q : i = len
      · rw [q, zsi_s, zsi_s]
        exact ⟨b, hb1, rfl, rfl⟩
      · rw [zsi_o q, zsi_o q]
        exact hb i (by omega))
    rw [show len + (g + 1) = len + 1 + g by omega]
    exact ⟨τ, υ, r1, r2, fun k q1 q2 => (r3 k q1 q2).trans (by rw [zsi_c q1, zsi_c q2]), fun k q1 q2 => (r4 k q1 q2).trans (by rw [zsi_c q1, zsi_c q2]), fun i q => (r5 i q).trans (by rw [zsi_o q, zsi_c (by decide)]), r6, r7, r8⟩
theorem zp_feed {N : Nat} (hN : 600000 ≤ N) (w : Int64) (x : Int32) : zP2 (fX7_feed N w x) (fX8_feed N w x) := by
  intro σ ρ hR
  have hR2 := zR_keep hR zKC_rfl (zKM_thr (σ := ρ))
  have hR' := hR2
  obtain ⟨a, h1, h2, h3, ⟨cnt, lo, hi, has, nd, w1, w2, w3⟩, hS, ⟨len, l1, l2, l3, l4⟩, hF, hA⟩ := hR'
  have e1 : (1 : Int64) = (1 : Int32).toInt64 := by decide
  have e8 : (8 : Int64) = (8 : Int32).toInt64 := by decide
  unfold fX7_feed fX8_feed
  rw [zpf_eq, e8, e1, zinM]
  have win : (∃ n, 1 ≤ n ∧ n ≤ 8 ∧ x = nI n ∧ ∀ σ, fX7_isWithin N x 1 8 σ = some (1, σ)) ∨ ∀ σ, fX7_isWithin N x 1 8 σ = some (0, σ) := by
    unfold fX7_isWithin
    by_cases q1 : x < 1
    · exact Or.inr (fun σ => by rw [if_pos q1]; exact zrz_0)
    · by_cases q2 : (8 : Int32) < x
      · exact Or.inr (fun σ => by rw [if_neg q1, if_pos q2]; exact zrz_0)
      · obtain ⟨j, hj, ej⟩ := nI_of (x := x) (fun z => q1 (by rw [fa_lt] at *; have : (0 : Int32).toInt = 0 := by decide
                                                              have : (1 : Int32).toInt = 1 := by decide
                                                              omega))
        refine Or.inl ⟨j, ?_, ?_, ej, fun σ => by rw [if_neg q1, if_neg q2]; exact zrz_1⟩
        · rw [ej] at q1
          exact Nat.le_of_not_lt (fun z => q1 (nI_lt (b := 1) z (by omega)))
        · rw [ej] at q2
          exact Nat.le_of_not_lt (fun z => q2 (nI_lt (a := 8) z hj))
  rcases win with ⟨n, n1, n8, en, q⟩ | q
  · rw [q, q, zbnd_some, zbnd_some, if_neg (show ¬ (1 : Int32) = 0 by decide), if_neg (show ¬ (1 : Int32) = 0 by decide), en, l3, nI_add]
    unfold fX5_hasRoom fX5_append
    have es : (400 : Int32) - nI len = nI (400 - len) := by
      rw [show (400 : Int32) = iI 400 from rfl, ← iI_nat, iI_sub, ← iI_nat]
      congr 1
      omega
    rw [l2, es]
    by_cases v : len + n ≤ 400
    · have ex : nI n - 1 = iI ((n : Int) - 1) := by
        rw [← iI_nat, show (1 : Int32) = iI 1 from rfl, iI_sub]
      rw [if_neg (nI_nlt (by omega) (by omega)), zrz_1, zbnd_some, if_neg (show ¬ (1 : Int32) = 0 by decide), if_pos (show nI (len + n) ≤ (400 : Int32) from nI_le (b := 400) v (by omega)), znm_eq, znm_eq, ex]
      obtain ⟨τ, υ, r1, r2, r3, r4, r5, r6, r7, r8⟩ := zfeed_loop (N := N) (w := w) n N N len σ (zsi ρ 0 0 0) (by omega) (by omega) v l2 l3 l4
      rw [r1, r2, zbnd_some]
      refine ⟨_, _, _, rfl, rfl, ⟨a, h1, zCN_fr h2 (fun k q1 q2 => r3 k (by omega) (by omega)), zMN_fr h3 (fun k q1 q2 => r4 k (by omega) (by omega)) (r5 5 (by decide)) (r5 6 (by decide)) (r5 29 (by decide)), ⟨cnt, lo, hi, has, nd, ?_, ?_, fun k hk => ?_⟩, ?_, ⟨len + n, v, r6, r7, r8⟩, ?_, ?_⟩⟩
      · obtain ⟨y1, y2, y3, y4, y5⟩ := w1
        refine ⟨y1, ?_, fun k hk => ?_, fun j hj => ?_, y5⟩
        · rw [r3 23 (by decide) (by decide)]; exact y2
        · rw [r3 25 (by decide) (by decide), r3 26 (by decide) (by decide)]; exact y3 k hk
        · rw [r3 27 (by decide) (by decide), r3 28 (by decide) (by decide)]; exact y4 j hj
      · obtain ⟨y1, y2, y3⟩ := w2
        refine ⟨y1, ?_, fun k hk => ?_⟩
        · rw [r5 31 (by decide)]; exact y2
        · rw [r4 16 (by decide) (by decide), r4 17 (by decide) (by decide), r4 18 (by decide) (by decide)]; exact y3 k hk
      · rw [r3 24 (by decide) (by decide), r4 15 (by decide) (by decide)]; exact w3 k hk
      · unfold zRS
        rw [r3 2 (by decide) (by decide), r3 3 (by decide) (by decide), r3 4 (by decide) (by decide), r4 1 (by decide) (by decide), r4 2 (by decide) (by decide), r4 3 (by decide) (by decide)]
        exact hS
      · unfold zRF
        rw [r3 0 (by decide) (by decide), r5 21 (by decide), r5 1 (by decide)]
        exact hF
      · unfold zRA
        rw [r3 33 (by decide) (by decide), r3 34 (by decide) (by decide), r5 45 (by decide), r4 22 (by decide) (by decide)]
        exact hA
    · rw [if_pos (nI_lt (by omega) (by omega)), zrz_0, zbnd_some, if_pos rfl, if_neg (show ¬ nI (len + n) ≤ (400 : Int32) from nI_ge (a := 400) (by omega) (by omega))]
      exact ⟨_, _, _, rfl, rfl, hR2⟩
  · rw [q, q, zbnd_some, zbnd_some, if_pos rfl, if_pos rfl]
    exact ⟨_, _, _, rfl, rfl, hR2⟩
