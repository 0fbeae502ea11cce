/-! ===== the relation of both stores ===== -/
def zRW (σ ρ : zSt) (a : zA) : Prop := ∃ (cnt : Nat) (lo hi : Nat → Nat) (has : Nat → Bool) (nd : Nat → Nat), zWC σ cnt lo hi ∧ zWM ρ cnt lo hi has ∧ ∀ k, k < cnt → σ.1 24 k = nI (nd k) ∧ ρ.1 15 k = nI (nd k) ∧ nd k < a 0 0 ∧ has k = true
def zRS (σ ρ : zSt) : Prop := (∀ s, s < 8 → (σ.1 4 s = -1 ∧ ρ.1 1 s = -1) ∨ ∃ l n, l ≤ 2 ∧ n ≤ 40 ∧ σ.1 3 s = nI l ∧ ρ.1 1 s = nI l ∧ σ.1 4 s = nI n ∧ ρ.1 2 s = nI n) ∧ ∀ i, i < 320 → σ.1 2 i = ρ.1 3 i
def zRT (σ ρ : zSt) : Prop := ∃ len, len ≤ 400 ∧ σ.1 5 1 = nI len ∧ ρ.1 0 20 = nI len ∧ ∀ i, i < len → ∃ b, b < 256 ∧ ρ.1 14 i = nI b ∧ σ.1 6 i = (nI b).toInt8.toInt32
def zRF (σ ρ : zSt) : Prop := σ.1 0 6 = ρ.1 0 21 ∧ σ.1 0 7 = ρ.1 0 1
def zRA (σ ρ : zSt) : Prop := ∃ t, t ≤ 16 ∧ σ.1 33 1 = nI t ∧ ρ.1 0 45 = nI t ∧ ∀ i, i < t → σ.1 34 i = ρ.1 22 i
def zR (σ ρ : zSt) : Prop := ∃ a, zOk a ∧ zCN σ a ∧ zMN ρ a ∧ zRW σ ρ a ∧ zRS σ ρ ∧ zRT σ ρ ∧ zRF σ ρ ∧ zRA σ ρ
def zKC (σ τ : zSt) : Prop := (∀ k, k ≠ 5 → k ≠ 20 → k ≠ 21 → k ≠ 22 → k ≠ 29 → k ≠ 31 → k ≠ 32 → k ≠ 33 → τ.1 k = σ.1 k) ∧ τ.1 5 1 = σ.1 5 1 ∧ τ.1 33 1 = σ.1 33 1
def zKM (ρ υ : zSt) : Prop := (∀ k, k ≠ 0 → k ≠ 20 → k ≠ 21 → υ.1 k = ρ.1 k) ∧ ∀ i, (i = 1 ∨ i = 5 ∨ i = 6 ∨ i = 20 ∨ i = 21 ∨ i = 29 ∨ i = 31 ∨ i = 45) → υ.1 0 i = ρ.1 0 i
theorem zKC_rfl {σ : zSt} : zKC σ σ := ⟨fun _ _ _ _ _ _ _ _ _ => rfl, rfl, rfl⟩
theorem zKM_rfl {σ : zSt} : zKM σ σ := ⟨fun _ _ _ _ => rfl, fun _ _ => rfl⟩
theorem zKC_trans {σ τ υ : zSt} (h : zKC σ τ) (h' : zKC τ υ) : zKC σ υ := ⟨fun k a b c d e f g i => (h'.1 k a b c d e f g i).trans (h.1 k a b c d e f g i), h'.2.1.trans h.2.1, h'.2.2.trans h.2.2⟩
theorem zKM_trans {σ τ υ : zSt} (h : zKM σ τ) (h' : zKM τ υ) : zKM σ υ := ⟨fun k a b c => (h'.1 k a b c).trans (h.1 k a b c), fun i hi => (h'.2 i hi).trans (h.2 i hi)⟩
theorem zKC_re {σ τ : zSt} (h : ∀ k, k ≠ 29 → k ≠ 31 → k ≠ 32 → τ.1 k = σ.1 k) : zKC σ τ := ⟨fun k _ _ _ _ a b c _ => h k a b c, by rw [h 5 (by decide) (by decide) (by decide)], by rw [h 33 (by decide) (by decide) (by decide)]⟩
theorem zKM_ff {σ τ : zSt} (h : zFF σ τ) : zKM σ τ := ⟨fun k a b c => h.1 k b c a, fun i hi => h.2 i (by omega) (by omega)⟩
theorem zKM_30 {σ τ : zSt} (h : zF30 σ τ) : zKM σ τ := ⟨fun k a _ _ => h.1 k a, fun i hi => h.2 i (by omega)⟩
theorem zKM_thr {σ : zSt} : zKM σ (zsi σ 0 0 0) := ⟨fun k a _ _ => zsi_c a, fun i hi => zsi_o (by omega)⟩
theorem zKC_net {σ τ : zSt} {a : zA} (h : zCN σ a) (hk : zKC σ τ) : zCN τ a := zCN_fr h (fun k h1 h2 => hk.1 k (by omega) (by omega) (by omega) (by omega) (by omega) (by omega) (by omega) (by omega))
theorem zKM_net {σ τ : zSt} {a : zA} (h : zMN σ a) (hk : zKM σ τ) : zMN τ a := zMN_fr h (fun k h1 h2 => hk.1 k (by omega) (by omega) (by omega)) (hk.2 5 (by omega)) (hk.2 6 (by omega)) (hk.2 29 (by omega))
theorem zKC_w {σ τ : zSt} {cnt : Nat} {lo hi : Nat → Nat} (h : zWC σ cnt lo hi) (hk : zKC σ τ) : zWC τ cnt lo hi := by
  have c := fun k (h1 : 23 ≤ k) (h2 : k ≤ 28) => hk.1 k (by omega) (by omega) (by omega) (by omega) (by omega) (by omega) (by omega) (by omega)
  obtain ⟨h1, h2, h3, h4, h5⟩ := h
  refine ⟨h1, ?_, fun k hk => ?_, fun j hj => ?_, h5⟩
  · rw [c 23 (by decide) (by decide)]; exact h2
  · rw [c 25 (by decide) (by decide), c 26 (by decide) (by decide)]; exact h3 k hk
  · rw [c 27 (by decide) (by decide), c 28 (by decide) (by decide)]; exact h4 j hj
theorem zKM_w {σ τ : zSt} {cnt : Nat} {lo hi : Nat → Nat} {has : Nat → Bool} (h : zWM σ cnt lo hi has) (hk : zKM σ τ) : zWM τ cnt lo hi has := by
  obtain ⟨h1, h2, h3⟩ := h
  refine ⟨h1, ?_, fun k hk' => ?_⟩
  · rw [hk.2 31 (by omega)]; exact h2
  · rw [hk.1 16 (by decide) (by decide) (by decide), hk.1 17 (by decide) (by decide) (by decide), hk.1 18 (by decide) (by decide) (by decide)]
    exact h3 k hk'
theorem zRW_keep {σ ρ τ υ : zSt} {a : zA} (h : zRW σ ρ a) (hc : zKC σ τ) (hm : zKM ρ υ) : zRW τ υ a := by
  obtain ⟨cnt, lo, hi, has, nd, h1, h2, h3⟩ := h
  refine ⟨cnt, lo, hi, has, nd, zKC_w h1 hc, zKM_w h2 hm, fun k hk => ?_⟩
  rw [hc.1 24 (by decide) (by decide) (by decide) (by decide) (by decide) (by decide) (by decide) (by decide), hm.1 15 (by decide) (by decide) (by decide)]
  exact h3 k hk
theorem zR_keep {σ ρ τ υ : zSt} (h : zR σ ρ) (hc : zKC σ τ) (hm : zKM ρ υ) : zR τ υ := by
  obtain ⟨a, h1, h2, h3, h4, h5, h6, h7, h8⟩ := h
  have c := hc.1
  have m := hm.1
  have e := hm.2
  refine ⟨a, h1, zKC_net h2 hc, zKM_net h3 hm, zRW_keep h4 hc hm, ?_, ?_, ?_, ?_⟩
  · unfold zRS at *
    rw [c 2 (by decide) (by decide) (by decide) (by decide) (by decide) (by decide) (by decide) (by decide), c 3 (by decide) (by decide) (by decide) (by decide) (by decide) (by decide) (by decide) (by decide), c 4 (by decide) (by decide) (by decide) (by decide) (by decide) (by decide) (by decide) (by decide), m 1 (by decide) (by decide) (by decide), m 2 (by decide) (by decide) (by decide), m 3 (by decide) (by decide) (by decide)]
    exact h5
  · unfold zRT at *
    rw [hc.2.1, e 20 (by omega), m 14 (by decide) (by decide) (by decide), c 6 (by decide) (by decide) (by decide) (by decide) (by decide) (by decide) (by decide) (by decide)]
    exact h6
  · unfold zRF at *
    rw [c 0 (by decide) (by decide) (by decide) (by decide) (by decide) (by decide) (by decide) (by decide), e 21 (by omega), e 1 (by omega)]
    exact h7
  · unfold zRA at *
    rw [hc.2.2, e 45 (by omega), c 34 (by decide) (by decide) (by decide) (by decide) (by decide) (by decide) (by decide) (by decide), m 22 (by decide) (by decide) (by decide)]
    exact h8
/-- two functions answer alike -/
def zP2 (f g : zSt → Option (Int32 × zSt)) : Prop := ∀ σ ρ, zR σ ρ → ∃ r τ υ, f σ = some (r, τ) ∧ g ρ = some (r, υ) ∧ zR τ υ
/-! arguments -/
theorem zarg (x : Int32) (n : Nat) (hn : n < 2 ^ 31) : (∃ k, k < n ∧ x = nI k) ∨ (x < 0 ∨ nI n ≤ x) := by
  by_cases h : x < 0
  · exact Or.inr (Or.inl h)
  · obtain ⟨j, hj, e⟩ := nI_of h
    by_cases q : j < n
    · exact Or.inl ⟨j, q, e⟩
    · exact Or.inr (Or.inr (by rw [e]; exact nI_le (by omega) hj))
theorem zinM {N : Nat} {x lo hi : Int32} {σ : zSt} : fX8_in N x.toInt64 lo.toInt64 hi.toInt64 σ = fX7_isWithin N x lo hi σ := by
  unfold fX8_in fX7_isWithin
  by_cases q1 : x < lo
  · rw [if_pos q1, if_pos ((fa_wide_lt x lo).mpr q1)]
  · rw [if_neg q1, if_neg (fun z => q1 ((fa_wide_lt x lo).mp z))]
    by_cases q2 : hi < x
    · rw [if_pos q2, if_pos ((fa_wide_lt hi x).mpr q2)]
    · rw [if_neg q2, if_neg (fun z => q2 ((fa_wide_lt hi x).mp z))]
/-- within 0 and n - 1 -/
theorem zwith {N n : Nat} {x : Int32} {σ : zSt} (hn : n < 2 ^ 31) : (∃ k, k < n ∧ x = nI k ∧ fX7_isWithin N x 0 (nI n - 1) σ = some (1, σ)) ∨ ((x < 0 ∨ nI n ≤ x) ∧ fX7_isWithin N x 0 (nI n - 1) σ = some (0, σ)) := by
  have em : nI n - 1 = iI ((n : Int) - 1) := by rw [← iI_nat, show (1 : Int32) = iI 1 from rfl, iI_sub]
  unfold fX7_isWithin
  rcases zarg x n hn with ⟨k, hk, e⟩ | h
  · refine Or.inl ⟨k, hk, e, ?_⟩
    rw [e, if_neg (nI_pos (by omega)), em, if_neg (fun z => ?_)]
    · exact zrz_1
    · rw [← iI_nat, iI_lt (by omega) (by omega)] at z
      omega
  · refine Or.inr ⟨h, ?_⟩
    by_cases q : x < 0
    · rw [if_pos q]; exact zrz_0
    · rw [if_neg q]
      rcases h with h | h
      · exact absurd h q
      · obtain ⟨j, hj, e⟩ := nI_of q
        rw [e] at h ⊢
        rw [em, if_pos]
        · exact zrz_0
        · have := (nI_leI hn hj).mp h
          rw [← iI_nat, iI_lt (by omega) (by omega)]
          omega
theorem zhas {N n : Nat} {x : Int32} {σ : zSt} {y : Int32} (hy : y = nI n) (hn : n < 2 ^ 31) : (if x < 0 then zrz (0 : Int32) σ else if y ≤ x then zrz (0 : Int32) σ else zrz (1 : Int32) σ) = fX7_isWithin N x 0 (nI n - 1) σ := by
  rcases zwith (N := N) (n := n) (x := x) (σ := σ) hn with ⟨k, hk, e, w⟩ | ⟨h, w⟩
  · rw [w, hy, e, if_neg (nI_pos (by omega)), if_neg (nI_ge hk hn)]; exact zrz_1
  · rw [w, hy]
    by_cases q : x < 0
    · rw [if_pos q]; exact zrz_0
    · rw [if_neg q, if_pos (h.resolve_left q)]; exact zrz_0
theorem znode2 {N : Nat} {a : zA} {σ ρ : zSt} {x : Int32} (hc : zCN σ a) (hm : zMN ρ a) (ho : zOk a) : (∃ k, k < a 0 0 ∧ x = nI k ∧ fX2_hasNode N x σ = some (1, σ) ∧ fX8_isNode N x ρ = some (1, ρ)) ∨ (fX2_hasNode N x σ = some (0, σ) ∧ fX8_isNode N x ρ = some (0, ρ)) := by
  have h20 := ho.1
  have e1 : fX2_hasNode N x σ = fX7_isWithin N x 0 (nI (a 0 0) - 1) σ := zhas hc.1 (by omega)
  have e2 : fX8_isNode N x ρ = zbnd (fX7_isWithin N x 0 (nI (a 0 0) - 1) ρ) (fun b1 σ2 => zrz b1 σ2) := by
    unfold fX8_isNode
    rw [hm.1]
    have : (0 : Int64) = (0 : Int32).toInt64 := by decide
    rw [this, zinM]
  rw [e1, e2]
  rcases zwith (N := N) (n := a 0 0) (x := x) (σ := σ) (by omega) with ⟨k, hk, e, w⟩ | ⟨h, w⟩
  · rcases zwith (N := N) (n := a 0 0) (x := x) (σ := ρ) (by omega) with ⟨k', hk', e', w'⟩ | ⟨h', w'⟩
    · exact Or.inl ⟨k, hk, e, w, by rw [w', zbnd_some]; exact zrz_1⟩
    · rw [e] at h'
      rcases h' with h' | h'
      · exact absurd h' (nI_pos (by omega))
      · exact absurd h' (nI_ge hk (by omega))
  · rcases zwith (N := N) (n := a 0 0) (x := x) (σ := ρ) (by omega) with ⟨k', hk', e', w'⟩ | ⟨h', w'⟩
    · rw [e'] at h
      rcases h with h | h
      · exact absurd h (nI_pos (by omega))
      · exact absurd h (nI_ge hk' (by omega))
    · exact Or.inr ⟨w, by rw [w', zbnd_some]; exact zrz_0⟩
theorem zstep2 {N : Nat} {a : zA} {σ ρ : zSt} {x : Int32} (hc : zCN σ a) (hm : zMN ρ a) (ho : zOk a) : (∃ k, k < a 0 1 ∧ x = nI k ∧ fX2_hasStep N x σ = some (1, σ) ∧ fX8_isStep N x ρ = some (1, ρ)) ∨ (fX2_hasStep N x σ = some (0, σ) ∧ fX8_isStep N x ρ = some (0, ρ)) := by
  have h16 := ho.2.1
  have e1 : fX2_hasStep N x σ = fX7_isWithin N x 0 (nI (a 0 1) - 1) σ := zhas hc.2.1 (by omega)
  have e2 : fX8_isStep N x ρ = zbnd (fX7_isWithin N x 0 (nI (a 0 1) - 1) ρ) (fun b1 σ2 => zrz b1 σ2) := by
    unfold fX8_isStep
    rw [hm.2.1]
    have : (0 : Int64) = (0 : Int32).toInt64 := by decide
    rw [this, zinM]
  rw [e1, e2]
  rcases zwith (N := N) (n := a 0 1) (x := x) (σ := σ) (by omega) with ⟨k, hk, e, w⟩ | ⟨h, w⟩
  · rcases zwith (N := N) (n := a 0 1) (x := x) (σ := ρ) (by omega) with ⟨k', hk', e', w'⟩ | ⟨h', w'⟩
    · exact Or.inl ⟨k, hk, e, w, by rw [w', zbnd_some]; exact zrz_1⟩
    · rw [e] at h'
      rcases h' with h' | h'
      · exact absurd h' (nI_pos (by omega))
      · exact absurd h' (nI_ge hk (by omega))
  · rcases zwith (N := N) (n := a 0 1) (x := x) (σ := ρ) (by omega) with ⟨k', hk', e', w'⟩ | ⟨h', w'⟩
    · rw [e'] at h
      rcases h with h | h
      · exact absurd h (nI_pos (by omega))
      · exact absurd h (nI_ge hk' (by omega))
    · exact Or.inr ⟨w, by rw [w', zbnd_some]; exact zrz_0⟩
theorem zclaim2 {N : Nat} {a : zA} {σ ρ : zSt} {x : Int32} (hc : zCN σ a) (hm : zMN ρ a) (ho : zOk a) : (∃ k, k < a 0 0 ∧ a 1 k = 2 ∧ x = nI k ∧ fX2_isClaim N x σ = some (1, σ) ∧ fX8_isClaim N x ρ = some (1, ρ)) ∨ (fX2_isClaim N x σ = some (0, σ) ∧ fX8_isClaim N x ρ = some (0, ρ)) := by
  have h20 := ho.1
  unfold fX2_isClaim fX8_isClaim
  rcases znode2 (N := N) (x := x) hc hm ho with ⟨k, hk, e, w1, w2⟩ | ⟨w1, w2⟩
  · have o1 := (ho.2.2.2.1 k hk).1
    rw [w1, w2, zbnd_some, zbnd_some, if_neg (show ¬ (1 : Int32) = 0 by decide), if_neg (show ¬ (1 : Int32) = 0 by decide), e, zag_nI (by omega) (by omega), zag_nI (by omega) (by omega), (hc.2.2.2.1 k hk).1, (hm.2.2.2.1 k hk).1]
    by_cases q : a 1 k = 2
    · refine Or.inl ⟨k, hk, q, rfl, ?_, ?_⟩
      · rw [if_pos (show nI (a 1 k) = (2 : Int32) by rw [q]; rfl)]; exact zrz_1
      · rw [if_pos (show nI (a 1 k) = (2 : Int32) by rw [q]; rfl)]; exact zrz_1
    · have : ¬ nI (a 1 k) = (2 : Int32) := fun z => q ((nI_eq (b := 2) (by omega) (by omega)).mp z)
      exact Or.inr ⟨by rw [if_neg this]; exact zrz_0, by rw [if_neg this]; exact zrz_0⟩
  · rw [w1, w2, zbnd_some, zbnd_some, if_pos rfl, if_pos rfl]
    exact Or.inr ⟨zrz_0, zrz_0⟩
theorem zground2 {N : Nat} {a : zA} {σ ρ : zSt} {x : Int32} (hc : zCN σ a) (hm : zMN ρ a) (ho : zOk a) : (∃ k, k < a 0 0 ∧ a 1 k < 2 ∧ x = nI k ∧ fX2_isGround N x σ = some (1, σ) ∧ fX8_isLeaf N x ρ = some (1, ρ)) ∨ (fX2_isGround N x σ = some (0, σ) ∧ fX8_isLeaf N x ρ = some (0, ρ)) := by
  have h20 := ho.1
  unfold fX2_isGround fX8_isLeaf
  rcases znode2 (N := N) (x := x) hc hm ho with ⟨k, hk, e, w1, w2⟩ | ⟨w1, w2⟩
  · have o1 := (ho.2.2.2.1 k hk).1
    rw [w1, w2, zbnd_some, zbnd_some, if_neg (show ¬ (1 : Int32) = 0 by decide), if_neg (show ¬ (1 : Int32) = 0 by decide), e, zag_nI (by omega) (by omega), zag_nI (by omega) (by omega), (hc.2.2.2.1 k hk).1, (hm.2.2.2.1 k hk).1]
    by_cases q : a 1 k = 2
    · refine Or.inr ⟨?_, ?_⟩
      · rw [if_pos (show nI (a 1 k) = (2 : Int32) by rw [q]; rfl)]; exact zrz_0
      · rw [if_pos (show (2 : Int32) ≤ nI (a 1 k) by rw [q]; decide)]; exact zrz_0
    · have h1 : ¬ nI (a 1 k) = (2 : Int32) := fun z => q ((nI_eq (b := 2) (by omega) (by omega)).mp z)
      have h2 : ¬ (2 : Int32) ≤ nI (a 1 k) := nI_ge (b := 2) (by omega) (by omega)
      exact Or.inl ⟨k, hk, by omega, rfl, by rw [if_neg h1]; exact zrz_1, by rw [if_neg h2]; exact zrz_1⟩
  · rw [w1, w2, zbnd_some, zbnd_some, if_pos rfl, if_pos rfl]
    exact Or.inr ⟨zrz_0, zrz_0⟩
