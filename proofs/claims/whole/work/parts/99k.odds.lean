/-! ===== both finds say the same ===== -/
theorem zeqA {v d v' d' D D' S S' : Int} (hd : 0 < d) (hd' : 0 < d') (hD : 0 < D) (hD' : 0 < D') (e : S * d = v * D) (e' : S' * d' = v' * D') (a1 : v * D' ≤ S' * d) (a2 : v' * D ≤ S * d') : v * d' = v' * d := by
  have b1 : v * d' * D' ≤ v' * d * D' := by
    have h1 := Int.mul_le_mul_of_nonneg_right a1 (show 0 ≤ d' by omega)
    have h2 : S' * d * d' = S' * d' * d := by grind
    have h3 : v * D' * d' = v * d' * D' := by grind
    have h4 : v' * D' * d = v' * d * D' := by grind
    rw [h2, e', h3, h4] at h1
    exact h1
  have b2 : v' * d * D ≤ v * d' * D := by
    have h1 := Int.mul_le_mul_of_nonneg_right a2 (show 0 ≤ d by omega)
    have h2 : S * d' * d = S * d * d' := by grind
    have h3 : v * D * d' = v * d' * D := by grind
    have h4 : v' * D * d = v' * d * D := by grind
    rw [h2, e, h3, h4] at h1
    exact h1
  have c1 := Int.le_of_mul_le_mul_right b1 hD'
  have c2 := Int.le_of_mul_le_mul_right b2 hD
  omega
theorem zMin_eq {cnt u : Nat} {lo hi : Nat → Nat} {v d v' d' : Int} (h : zMin cnt lo hi u v d) (h' : zMin cnt lo hi u v' d') : v * d' = v' * d := by
  obtain ⟨hd, ⟨y, D, hy, e⟩, ha⟩ := h
  obtain ⟨hd', ⟨y', D', hy', e'⟩, ha'⟩ := h'
  exact zeqA hd hd' hy.1 hy'.1 e e' (ha y' D' hy') (ha' y D hy)
theorem zMax_eq {cnt u : Nat} {lo hi : Nat → Nat} {v d v' d' : Int} (h : zMax cnt lo hi u v d) (h' : zMax cnt lo hi u v' d') : v * d' = v' * d := by
  obtain ⟨hd, ⟨y, D, hy, e⟩, ha⟩ := h
  obtain ⟨hd', ⟨y', D', hy', e'⟩, ha'⟩ := h'
  have n : ∀ a b : Int, -a * b = -(a * b) := fun a b => Int.neg_mul a b
  have := zeqA (v := -v) (v' := -v') (S := -(zSu (2 ^ cnt) u y)) (S' := -(zSu (2 ^ cnt) u y')) hd hd' hy.1 hy'.1 (by rw [n, n, e]) (by rw [n, n, e']) (by rw [n, n]; have := ha y' D' hy'; omega) (by rw [n, n]; have := ha' y D hy; omega)
  rw [n, n] at this
  omega
theorem zSu_comp {n u w : Nat} {y : Nat → Int} (h : ∀ c, c < n → w.testBit c = !u.testBit c) : zSu n w y = fb_si y n - zSu n u y := by
  unfold zSu
  rw [← fb_si_sub]
  refine fb_si_cong (fun c hc => ?_)
  rw [h c hc]
  cases u.testBit c
  · show (1 : Int) * y c = y c - 0 * y c; omega
  · show (0 : Int) * y c = y c - 1 * y c; omega
theorem zMin_comp {cnt u w : Nat} {lo hi : Nat → Nat} {v d : Int} (h : zMin cnt lo hi w v d) (hw : ∀ c, c < 2 ^ cnt → w.testBit c = !u.testBit c) : zMax cnt lo hi u (100 * d - v) d := by
  obtain ⟨hd, ⟨y, D, hy, e⟩, ha⟩ := h
  refine ⟨hd, ⟨y, D, hy, ?_⟩, fun y D hy => ?_⟩
  · rw [zSu_comp hw, hy.2.2.1] at e
    grind
  · have := ha y D hy
    rw [zSu_comp hw, hy.2.2.1] at this
    grind
theorem zfrac {a b a' b' : Nat} (hb : 0 < b) (hb' : 0 < b') (h : a * b' = a' * b) : a / Nat.gcd b a = a' / Nat.gcd b' a' ∧ b / Nat.gcd b a = b' / Nat.gcd b' a' := by
  have g0 : 0 < Nat.gcd b a := Nat.gcd_pos_of_pos_left _ hb
  have g0' : 0 < Nat.gcd b' a' := Nat.gcd_pos_of_pos_left _ hb'
  have ea : Nat.gcd b a * (a / Nat.gcd b a) = a := Nat.mul_div_cancel' (Nat.gcd_dvd_right b a)
  have eb : Nat.gcd b a * (b / Nat.gcd b a) = b := Nat.mul_div_cancel' (Nat.gcd_dvd_left b a)
  have ea' : Nat.gcd b' a' * (a' / Nat.gcd b' a') = a' := Nat.mul_div_cancel' (Nat.gcd_dvd_right b' a')
  have eb' : Nat.gcd b' a' * (b' / Nat.gcd b' a') = b' := Nat.mul_div_cancel' (Nat.gcd_dvd_left b' a')
  have cop : Nat.Coprime (b / Nat.gcd b a) (a / Nat.gcd b a) := Nat.coprime_div_gcd_div_gcd g0
  have cop' : Nat.Coprime (b' / Nat.gcd b' a') (a' / Nat.gcd b' a') := Nat.coprime_div_gcd_div_gcd g0'
  have hx : a / Nat.gcd b a * (b' / Nat.gcd b' a') = a' / Nat.gcd b' a' * (b / Nat.gcd b a) := by
    have : Nat.gcd b a * Nat.gcd b' a' * (a / Nat.gcd b a * (b' / Nat.gcd b' a')) = Nat.gcd b a * Nat.gcd b' a' * (a' / Nat.gcd b' a' * (b / Nat.gcd b a)) := by
      have l : Nat.gcd b a * Nat.gcd b' a' * (a / Nat.gcd b a * (b' / Nat.gcd b' a')) = (Nat.gcd b a * (a / Nat.gcd b a)) * (Nat.gcd b' a' * (b' / Nat.gcd b' a')) := by ac_rfl
      have r : Nat.gcd b a * Nat.gcd b' a' * (a' / Nat.gcd b' a' * (b / Nat.gcd b a)) = (Nat.gcd b' a' * (a' / Nat.gcd b' a')) * (Nat.gcd b a * (b / Nat.gcd b a)) := by ac_rfl
      rw [l, r, ea, eb, ea', eb', h]
    exact Nat.eq_of_mul_eq_mul_left (Nat.mul_pos g0 g0') this
  have d1 : b / Nat.gcd b a ∣ b' / Nat.gcd b' a' := by
    refine cop.dvd_of_dvd_mul_left (m := a / Nat.gcd b a) ?_
    rw [hx]
    exact Nat.dvd_mul_left _ _
  have d2 : b' / Nat.gcd b' a' ∣ b / Nat.gcd b a := by
    refine cop'.dvd_of_dvd_mul_left (m := a' / Nat.gcd b' a') ?_
    rw [← hx]
    exact Nat.dvd_mul_left _ _
  have e := Nat.dvd_antisymm d1 d2
  refine ⟨?_, e⟩
  have hbp : 0 < b / Nat.gcd b a := Nat.div_pos (Nat.gcd_le_left _ hb) g0
  rw [← e] at hx
  exact Nat.eq_of_mul_eq_mul_right hbp hx
theorem zgcd_sub {a b : Nat} (h : a ≤ b) : Nat.gcd b (b - a) = Nat.gcd b a := by
  refine Nat.dvd_antisymm (Nat.dvd_gcd (Nat.gcd_dvd_left _ _) ?_) (Nat.dvd_gcd (Nat.gcd_dvd_left _ _) ?_)
  · have d1 := Nat.gcd_dvd_left b (b - a)
    have d2 := Nat.gcd_dvd_right b (b - a)
    have := Nat.dvd_sub d1 d2
    rwa [show b - (b - a) = a by omega] at this
  · exact Nat.dvd_sub (Nat.gcd_dvd_left b a) (Nat.gcd_dvd_right b a)
theorem iL_toI {v : Nat} : (iL (v : Int)).toInt32 = nI v := Int64.toInt32_ofInt
/-- worlds and their rest -/
theorem zrest : ∀ cnt, cnt < 4 → ∀ u, u < 256 → nI (zAll cnt) &&& (nI u ^^^ (-1 : Int32)) = nI (zAll cnt &&& (255 - u)) := by decide +kernel
theorem zrest_bit {cnt u : Nat} (hc : cnt ≤ 3) (hu : u < 256) : ∀ c, c < 2 ^ cnt → (zAll cnt &&& (255 - u)).testBit c = !u.testBit c := by
  intro c h
  have h8 := zpow8 hc
  have key : ∀ u, u < 256 → ∀ c, c < 8 → (255 - u).testBit c = !u.testBit c := by decide +kernel
  rw [Nat.testBit_and, zAll_bit h, key u hu c (by omega), Bool.true_and]
theorem zfindMost {N u cnt : Nat} {lo hi : Nat → Nat} {σ : zSt} (hw : zWC σ cnt lo hi) (hu : u < 256) (hN : 600000 ≤ N) :
    ∃ b τ, fX6_findMost N (nI u) σ = some (b, τ) ∧ (∀ k, k ≠ 29 → k ≠ 31 → k ≠ 32 → τ.1 k = σ.1 k) ∧ ((b = 0 ∧ ∀ y D, ¬ zShare cnt lo hi y D) ∨ (b = 1 ∧ ∃ v d : Nat, 0 < d ∧ d ≤ 40320 ∧ v ≤ 100 * d ∧ zMax cnt lo hi u v d ∧ τ.2 23 7 = iL ((v / Nat.gcd (100 * d) v : Nat) : Int) ∧ τ.2 23 8 = iL ((100 * d / Nat.gcd (100 * d) v : Nat) : Int))) := by
  have hc := hw.1
  unfold fX6_findMost
  rw [zallWorlds hw, zbnd_some, zrest cnt (by omega) u hu]
  have hlt : zAll cnt &&& (255 - u) < 2 ^ 31 := Nat.lt_of_le_of_lt Nat.and_le_left (by have := zAll_lt hc; omega)
  obtain ⟨b, τ, e, f, q⟩ := zfindLeast (N := N) hw hlt hN
  rw [e, zbnd_some]
  rcases q with ⟨eb, hno⟩ | ⟨eb, v, d, hd, hd2, hv, hm, h7, h8⟩
  · rw [eb, if_pos rfl]
    exact ⟨0, τ, zrz_0, f, Or.inl ⟨rfl, hno⟩⟩
  · rw [eb, if_neg (by decide), zpfL_eq, h7, h8]
    have hx := zMin_comp (u := u) hm (zrest_bit hc hu)
    have hvd : v ≤ 100 * d := by
      obtain ⟨-, ⟨y, D, hy, e1⟩, -⟩ := hm
      have s1 := zSu_le (u := zAll cnt &&& (255 - u)) hy.2.1
      rw [hy.2.2.1] at s1
      have hD := hy.1
      have s2 : zSu (2 ^ cnt) (zAll cnt &&& (255 - u)) y * (d : Int) ≤ 100 * D * (d : Int) := Int.mul_le_mul_of_nonneg_right s1 (by omega)
      have s3 : (v : Int) * D ≤ 100 * (d : Int) * D := by grind
      have := Int.le_of_mul_le_mul_right s3 hD
      omega
    refine ⟨1, _, zrz_1, fun k a b c => (by rw [zsl_1]; exact f k a b c), Or.inr ⟨rfl, 100 * d - v, d, hd, hd2, by omega, ?_, ?_, ?_⟩⟩
    · have : ((100 * d - v : Nat) : Int) = 100 * (d : Int) - (v : Int) := by omega
      rw [this]
      exact hx
    · rw [zsl_s, iL_sub, zgcd_sub hvd]
      congr 1
      have g0 : 0 < Nat.gcd (100 * d) v := Nat.gcd_pos_of_pos_left _ (by omega)
      have e1 : Nat.gcd (100 * d) v * (v / Nat.gcd (100 * d) v) = v := Nat.mul_div_cancel' (Nat.gcd_dvd_right _ _)
      have e2 : Nat.gcd (100 * d) v * (100 * d / Nat.gcd (100 * d) v) = 100 * d := Nat.mul_div_cancel' (Nat.gcd_dvd_left _ _)
      have e3 : 100 * d - v = Nat.gcd (100 * d) v * (100 * d / Nat.gcd (100 * d) v - v / Nat.gcd (100 * d) v) := by rw [Nat.mul_sub, e1, e2]
      have e4 : (100 * d - v) / Nat.gcd (100 * d) v = 100 * d / Nat.gcd (100 * d) v - v / Nat.gcd (100 * d) v := by
        rw [e3]
        exact Nat.mul_div_cancel_left _ g0
      have e5 : v / Nat.gcd (100 * d) v ≤ 100 * d / Nat.gcd (100 * d) v := Nat.div_le_div_right hvd
      rw [e4]
      omega
    · rw [zsl_o (by decide), h8, zgcd_sub hvd]
/-! the reference's divisor -/
theorem zmgcd_loop {N : Nat} {x2 : Int32} {y3 : Int64} : ∀ (k f a b : Nat) (σ : zSt), b < 2 ^ k → k ≤ 40 → a < 2 ^ 60 → 2 * k + 1 ≤ f → fX8_odds_73 N f x2 y3 (iL (a : Int)) (iL (b : Int)) σ = zrm x2 (2 : Int32) (fun (v1 : Int32) => if v1 = 0 then fX8_odds_112 N (iL (Nat.gcd a b : Nat)) (σ.2 0 42) σ else fX8_odds_112 N (iL (Nat.gcd a b : Nat)) y3 σ)
  | 0, f + 1, a, b, σ, hb, hk, ha, hf => by
    have b0 : b = 0 := by omega
    rw [fX8_odds_73, b0, if_pos (show iL ((0 : Nat) : Int) = 0 from rfl), Nat.gcd_zero_right]
  | k + 1, f + 2, a, b, σ, hb, hk, ha, hf => by
    have hpow : (2 : Nat) ^ (k + 1) = 2 * 2 ^ k := by rw [Nat.pow_succ]; omega
    have hp40 : (2 : Nat) ^ (k + 1) ≤ 2 ^ 40 := Nat.pow_le_pow_right (by decide) (by omega)
    have hb60 : b < 2 ^ 60 := by omega
    rw [fX8_odds_73]
    by_cases b0 : b = 0
    · rw [b0, if_pos (show iL ((0 : Nat) : Int) = 0 from rfl), Nat.gcd_zero_right]
    · rw [if_neg (iL_ne0 (by omega) hb60), zrmL_eq (by omega) ha hb60]
      have hr := Nat.mod_lt a (show 0 < b by omega)
      rw [fX8_odds_73]
      have g1 : Nat.gcd a b = Nat.gcd b (a % b) := by rw [Nat.gcd_comm a b, Nat.gcd_rec b a, Nat.gcd_comm]
      by_cases r0 : a % b = 0
      · rw [r0, if_pos (show iL ((0 : Nat) : Int) = 0 from rfl), g1, r0, Nat.gcd_zero_right]
      · rw [if_neg (iL_ne0 (by omega) (by omega)), zrmL_eq (by omega) hb60 (by omega)]
        have g2 : Nat.gcd b (a % b) = Nat.gcd (a % b) (b % (a % b)) := by rw [Nat.gcd_comm b, Nat.gcd_rec (a % b) b, Nat.gcd_comm]
        rw [g1, g2]
        have hr2 := Nat.mod_lt b (show 0 < a % b by omega)
        have hr3 : 2 * (b % (a % b)) < b := by
          have h := Nat.div_add_mod b (a % b)
          have : 1 ≤ b / (a % b) := Nat.div_pos (by omega) (by omega)
          have : (a % b) * 1 ≤ (a % b) * (b / (a % b)) := Nat.mul_le_mul_left _ this
          omega
        exact zmgcd_loop k f (a % b) (b % (a % b)) σ (by omega) (by omega) (by omega) (by omega)
theorem zm112 {N a g : Nat} {σ : zSt} (hg : 0 < g) (hg2 : g < 2 ^ 60) (ha : a < 2 ^ 60) : fX8_odds_112 N (iL (g : Int)) (iL (a : Int)) σ = some (nI (a / g), σ) := by
  unfold fX8_odds_112
  rw [zdvL_eq (iL_ne0 hg hg2), iL_div (by unfold zB62; omega) (by unfold zB62; omega), ← Int.ofNat_tdiv, iL_toI]
/-- an answer of odds, once the worlds are known -/
theorem zodds_eq {N u cnt w : Nat} {lo hi : Nat → Nat} {has : Nat → Bool} {σ ρ : zSt} (hc : zWC σ cnt lo hi) (hm : zWM ρ cnt lo hi has) (hu : u < 256) (hw : w < 4) (hN : 600000 ≤ N) :
    ∃ a τ υ, (if (2 : Int32) ≤ nI w then zbnd (fX6_findMost N (nI u) σ) (fun (b7 : Int32) (σ8 : zSt) => fX7_odds_60 N (nI w) b7 σ8) else zbnd (fX6_findLeast N (nI u) σ) (fun (b9 : Int32) (σ10 : zSt) => fX7_odds_60 N (nI w) b9 σ10)) = some (a, τ) ∧ (if (2 : Int32) ≤ nI w then fX8_odds_44 N (nI w) (1 : Int32) (nI u) ρ else fX8_odds_44 N (nI w) (-1 : Int32) (nI u) ρ) = some (a, υ) ∧ (∀ k, k ≠ 29 → k ≠ 31 → k ≠ 32 → τ.1 k = σ.1 k) ∧ zFF ρ υ := by
  have hll : ∀ k, k < 6 → has k = true → lo k = if nI k = (-1000000 : Int32) then hi k else lo k := fun k hk _ => by rw [if_neg (zNone_ne (by omega))]
  have hll0 : ∀ k, k < 6 → has k = false → lo k = 0 := fun k hk q => ((hm.2.2 k hk).2.2.1 q).1
  have odd : ∀ {β : Type} (k : Int32 → Option β), zrm (nI w) 2 k = k (nI (w % 2)) := fun k => by
    have e : ∀ w, w < 4 → nI w - nI w / 2 * 2 = nI (w % 2) := by decide
    unfold zrm
    rw [if_neg (by decide), e w hw]
  -- the common end
  have fin : ∀ (v d v' d' : Nat) (τ υ : zSt), 0 < d → 0 < d' → d ≤ 40320 → d' ≤ 40320 → v < 2 ^ 30 → v' ≤ 100 * d' → (v : Int) * d' = v' * d → τ.2 23 7 = iL ((v / Nat.gcd (100 * d) v : Nat) : Int) → τ.2 23 8 = iL ((100 * d / Nat.gcd (100 * d) v : Nat) : Int) → υ.2 0 42 = iL (v' : Int) → υ.2 0 43 = iL (d' : Int) →
      ∃ a, fX7_odds_60 N (nI w) 1 τ = some (a, τ) ∧ znm ((100 : Int64) * (υ.2 0 43)) (fun (v3 : Int64) => znm (υ.2 0 42) (fun (v4 : Int64) => fX8_odds_73 N N (nI w) v3 v4 v3 υ)) = some (a, υ) := by
    intro v d v' d' τ υ hd hd' hdb hdb' hv hv' heq h7 h8 h42 h43
    have heq' : v * d' = v' * d := by exact_mod_cast heq
    obtain ⟨q1, q2⟩ := zfrac (a := v) (b := 100 * d) (a' := v') (b' := 100 * d') (by omega) (by omega) (by
      have a1 : v * (100 * d') = 100 * (v * d') := by ac_rfl
      have a2 : v' * (100 * d) = 100 * (v' * d) := by ac_rfl
      rw [a1, a2, heq'])
    have g0 : 0 < Nat.gcd (100 * d') v' := Nat.gcd_pos_of_pos_left _ (by omega)
    have gl : Nat.gcd (100 * d') v' ≤ 100 * d' := Nat.gcd_le_left _ (by omega)
    have e100 : (100 : Int64) * iL (d' : Int) = iL ((100 * d' : Nat) : Int) := by
      rw [show (100 : Int64) = iL 100 from rfl, iL_mul]
      congr 1
    rw [znm_eq, znm_eq, h42, h43, e100, zmgcd_loop 30 N v' (100 * d') υ (by omega) (by omega) (by omega) (by omega), odd, h42, Nat.gcd_comm v', zm112 g0 (by omega) (by omega), zm112 g0 (by omega) (by omega)]
    unfold fX7_odds_60
    rw [if_neg (by decide), odd, h7, h8, iL_toI, iL_toI, q1, q2]
    by_cases z : nI (w % 2) = 0
    · rw [if_pos z, if_pos z]
      exact ⟨_, rfl, rfl⟩
    · rw [if_neg z, if_neg z]
      exact ⟨_, rfl, rfl⟩
  have no : ∀ τ : zSt, fX7_odds_60 N (nI w) 0 τ = some (-1000002, τ) := fun τ => by
    unfold fX7_odds_60
    rw [if_pos rfl]
  by_cases hw2 : (2 : Int32) ≤ nI w
  · rw [if_pos hw2, if_pos hw2]
    obtain ⟨b, τ, e, f, q⟩ := zfindMost (N := N) hc hu hN
    obtain ⟨b', υ, e', f', q'⟩ := zmfind (N := N) (sg := 1) (x3 := -1000000) (ll := lo) hm (show u < 2 ^ 31 by omega) (Or.inl rfl) hN hll hll0
    have e' : fX8_find N (nI u) 1 (-1000000) ρ = some (b', υ) := e'
    unfold fX8_odds_44
    rw [e, e', zbnd_some, zbnd_some]
    rcases q with ⟨eb, hno⟩ | ⟨eb, v, d, hd, hd2, hv, hmm, h7, h8⟩
    · rcases q' with ⟨eb', -⟩ | ⟨eb', v', d', hd', hd2', hv', -, hmx, h42, h43⟩
      · rw [eb, eb', if_pos rfl, no]
        exact ⟨_, _, _, rfl, rfl, f, f'⟩
      · obtain ⟨-, ⟨y, D, hy, -⟩, -⟩ := hmx rfl
        exact absurd hy (hno y D)
    · rcases q' with ⟨eb', hno'⟩ | ⟨eb', v', d', hd', hd2', hv', -, hmx, h42, h43⟩
      · obtain ⟨-, ⟨y, D, hy, -⟩, -⟩ := hmm
        exact absurd hy (hno' y D)
      · rw [eb, eb', if_neg (by decide)]
        obtain ⟨a, r1, r2⟩ := fin v d v' d' τ υ hd hd' hd2 hd2' (by omega) hv' (zMax_eq hmm (hmx rfl)) h7 h8 h42 h43
        exact ⟨a, τ, υ, r1, r2, f, f'⟩
  · rw [if_neg hw2, if_neg hw2]
    obtain ⟨b, τ, e, f, q⟩ := zfindLeast (N := N) hc (show u < 2 ^ 31 by omega) hN
    obtain ⟨b', υ, e', f', q'⟩ := zmfind (N := N) (sg := -1) (x3 := -1000000) (ll := lo) hm (show u < 2 ^ 31 by omega) (Or.inr rfl) hN hll hll0
    have e' : fX8_find N (nI u) (-1) (-1000000) ρ = some (b', υ) := e'
    unfold fX8_odds_44
    rw [e, e', zbnd_some, zbnd_some]
    rcases q with ⟨eb, hno⟩ | ⟨eb, v, d, hd, hd2, hv, hmm, h7, h8⟩
    · rcases q' with ⟨eb', -⟩ | ⟨eb', v', d', hd', hd2', hv', hmn, -, h42, h43⟩
      · rw [eb, eb', if_pos rfl, no]
        exact ⟨_, _, _, rfl, rfl, f, f'⟩
      · obtain ⟨-, ⟨y, D, hy, -⟩, -⟩ := hmn rfl
        exact absurd hy (hno y D)
    · rcases q' with ⟨eb', hno'⟩ | ⟨eb', v', d', hd', hd2', hv', hmn, -, h42, h43⟩
      · obtain ⟨-, ⟨y, D, hy, -⟩, -⟩ := hmm
        exact absurd hy (hno' y D)
      · rw [eb, eb', if_neg (by decide)]
        obtain ⟨a, r1, r2⟩ := fin v d v' d' τ υ hd hd' hd2 hd2' (by omega) hv' (zMin_eq hmm (hmn rfl)) h7 h8 h42 h43
        exact ⟨a, τ, υ, r1, r2, f, f'⟩
/-- agree -/
theorem zagree_eq {N cnt : Nat} {lo hi : Nat → Nat} {has : Nat → Bool} {σ ρ : zSt} (hc : zWC σ cnt lo hi) (hm : zWM ρ cnt lo hi has) (hN : 600000 ≤ N) :
    ∃ b τ υ, fX6_findLeast N 0 σ = some (b, τ) ∧ fX8_find N 0 1 (-1000000) ρ = some (b, υ) ∧ (∀ k, k ≠ 29 → k ≠ 31 → k ≠ 32 → τ.1 k = σ.1 k) ∧ zFF ρ υ := by
  have hll : ∀ k, k < 6 → has k = true → lo k = if nI k = (-1000000 : Int32) then hi k else lo k := fun k hk _ => by rw [if_neg (zNone_ne (by omega))]
  have hll0 : ∀ k, k < 6 → has k = false → lo k = 0 := fun k hk q => ((hm.2.2 k hk).2.2.1 q).1
  obtain ⟨b, τ, e, f, q⟩ := zfindLeast (N := N) (u := 0) hc (by decide) hN
  obtain ⟨b', υ, e', f', q'⟩ := zmfind (N := N) (u := 0) (sg := 1) (x3 := -1000000) (ll := lo) hm (by decide) (Or.inl rfl) hN hll hll0
  have e : fX6_findLeast N 0 σ = some (b, τ) := e
  have e' : fX8_find N 0 1 (-1000000) ρ = some (b', υ) := e'
  have : b = b' := by
    rcases q with ⟨eb, hno⟩ | ⟨eb, v, d, hd, hd2, hv, hmm, -⟩
    · rcases q' with ⟨eb', -⟩ | ⟨eb', v', d', hd', hd2', hv', -, hmx, -⟩
      · rw [eb, eb']
      · obtain ⟨-, ⟨y, D, hy, -⟩, -⟩ := hmx rfl
        exact absurd hy (hno y D)
    · rcases q' with ⟨eb', hno'⟩ | ⟨eb', -⟩
      · obtain ⟨-, ⟨y, D, hy, -⟩, -⟩ := hmm
        exact absurd hy (hno' y D)
      · rw [eb, eb']
  subst this
  exact ⟨b, τ, υ, e, e', f, f'⟩
