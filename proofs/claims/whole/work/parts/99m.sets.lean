/-! ===== sets of nodes: bits of a number ===== -/
def zset (P : Nat → Bool) : Nat → Nat
  | 0 => 0
  | n + 1 => zset P n ||| (if P n then 2 ^ n else 0)
theorem zset_bit (P : Nat → Bool) (i : Nat) : ∀ n, (zset P n).testBit i = (decide (i < n) && P i)
  | 0 => by rw [zset, Nat.zero_testBit]; simp
  | n + 1 => by
    rw [zset, Nat.testBit_or, zset_bit P i n]
    by_cases q : i = n
    · subst q
      have e1 : decide (i < i) = false := by simp
      have e2 : decide (i < i + 1) = true := by simp
      rw [e1, e2]
      cases h : P i
      · simp
      · rw [if_pos rfl, Nat.testBit_two_pow_self]; rfl
    · have e1 : (if P n = true then 2 ^ n else 0).testBit i = false := by
        split
        · exact Nat.testBit_two_pow_of_ne (fun e => q e.symm)
        · exact Nat.zero_testBit i
      rw [e1, Bool.or_false]
      have : decide (i < n) = decide (i < n + 1) := by
        by_cases z : i < n
        · rw [decide_eq_true z, decide_eq_true (by omega)]
        · rw [decide_eq_false z, decide_eq_false (by omega)]
      rw [this]
theorem zset_lt (P : Nat → Bool) : ∀ n, zset P n < 2 ^ n
  | 0 => Nat.one_pos
  | n + 1 => by
    rw [zset]
    refine Nat.or_lt_two_pow ?_ ?_
    · have := zset_lt P n
      have h2 : (2 : Nat) ^ (n + 1) = 2 * 2 ^ n := by rw [Nat.pow_succ]; omega
      omega
    · have h2 : (2 : Nat) ^ (n + 1) = 2 * 2 ^ n := by rw [Nat.pow_succ]; omega
      have := Nat.two_pow_pos n
      split <;> omega
theorem zset_cong {P Q : Nat → Bool} {n : Nat} (h : ∀ i, i < n → P i = Q i) : zset P n = zset Q n := by
  refine Nat.eq_of_testBit_eq (fun i => ?_)
  rw [zset_bit, zset_bit]
  by_cases z : i < n
  · rw [h i z]
  · rw [decide_eq_false z]; rfl
/-- a set of nodes -/
abbrev zS (P : Nat → Bool) : Nat := zset P 20
theorem zS_bit {P : Nat → Bool} {i : Nat} (h : i < 20) : (zS P).testBit i = P i := by rw [zset_bit, decide_eq_true h, Bool.true_and]
theorem zS_lt {P : Nat → Bool} : zS P < 2 ^ 20 := zset_lt P 20
theorem zS_of {x : Nat} (h : x < 2 ^ 20) : zS (fun i => x.testBit i) = x := by
  refine Nat.eq_of_testBit_eq (fun i => ?_)
  rw [zset_bit]
  by_cases z : i < 20
  · rw [decide_eq_true z, Bool.true_and]
  · rw [decide_eq_false z, Bool.false_and, Nat.testBit_lt_two_pow (Nat.lt_of_lt_of_le h (Nat.pow_le_pow_right (by decide) (by omega)))]
theorem zS_eq {P Q : Nat → Bool} : nI (zS P) = nI (zS Q) ↔ ∀ i, i < 20 → P i = Q i := by
  have a := zS_lt (P := P)
  have b := zS_lt (P := Q)
  rw [nI_eq (by omega) (by omega)]
  refine ⟨fun h i hi => ?_, fun h => zset_cong h⟩
  rw [← zS_bit (P := P) hi, ← zS_bit (P := Q) hi, h]
theorem zS_and {P Q : Nat → Bool} : nI (zS P) &&& nI (zS Q) = nI (zS (fun i => P i && Q i)) := by
  rw [fa_and]
  congr 1
  refine Nat.eq_of_testBit_eq (fun i => ?_)
  rw [Nat.testBit_and, zset_bit, zset_bit, zset_bit]
  cases decide (i < 20) <;> simp
theorem zS_or {P Q : Nat → Bool} : nI (zS P) ||| nI (zS Q) = nI (zS (fun i => P i || Q i)) := by
  rw [fa_or]
  congr 1
  refine Nat.eq_of_testBit_eq (fun i => ?_)
  rw [Nat.testBit_or, zset_bit, zset_bit, zset_bit]
  cases decide (i < 20) <;> simp
theorem zS_one {k : Nat} (h : k < 20) : zS (fun i => i == k) = 2 ^ k := by
  refine Nat.eq_of_testBit_eq (fun i => ?_)
  rw [zset_bit]
  by_cases z : i = k
  · subst z
    rw [Nat.testBit_two_pow_self, decide_eq_true h]; simp
  · rw [Nat.testBit_two_pow_of_ne (fun e => z e.symm)]
    simp [z]
theorem zS_0 : zS (fun _ => false) = 0 := by decide
theorem fa_xor (a b : Nat) : nI a ^^^ nI b = nI (a ^^^ b) := by
  apply Int32.toBitVec_inj.1
  show BitVec.ofNat 32 a ^^^ BitVec.ofNat 32 b = BitVec.ofNat 32 (a ^^^ b)
  apply BitVec.eq_of_getLsbD_eq
  intro i hi
  simp [hi]
theorem zandn_w (x y : Int32) : x &&& (y ^^^ (-1 : Int32)) = x &&& (x ^^^ y) := by
  apply Int32.toBitVec_inj.1
  show x.toBitVec &&& (y.toBitVec ^^^ (-1 : Int32).toBitVec) = x.toBitVec &&& (x.toBitVec ^^^ y.toBitVec)
  have h1 : (-1 : Int32).toBitVec = BitVec.allOnes 32 := by decide
  rw [h1]
  apply BitVec.eq_of_getLsbD_eq
  intro i hi
  rw [BitVec.getLsbD_and, BitVec.getLsbD_and, BitVec.getLsbD_xor, BitVec.getLsbD_xor, BitVec.getLsbD_allOnes, decide_eq_true hi]
  cases x.toBitVec.getLsbD i <;> cases y.toBitVec.getLsbD i <;> rfl
theorem zS_andn {P Q : Nat → Bool} : nI (zS P) &&& (nI (zS Q) ^^^ (-1 : Int32)) = nI (zS (fun i => P i && !Q i)) := by
  rw [zandn_w, fa_xor, fa_and]
  congr 1
  refine Nat.eq_of_testBit_eq (fun i => ?_)
  rw [Nat.testBit_and, Nat.testBit_xor, zset_bit, zset_bit, zset_bit]
  cases decide (i < 20) <;> cases P i <;> cases Q i <;> rfl
theorem zS_shl {k : Nat} (h : k < 20) : (1 : Int32) <<< (nI k &&& 31) = nI (zS (fun i => i == k)) := by rw [zshl1 (by omega), zS_one h]
theorem zS_at {P : Nat → Bool} {k : Nat} (h : k < 20) : (nI (zS P) >>> (nI k &&& 31)) &&& 1 = nI (if P k then 1 else 0) := by
  have := zS_lt (P := P)
  rw [zbit (by omega) (by omega), zS_bit h]
theorem zbitAt {N k : Nat} {P : Nat → Bool} {σ : zSt} (h : k < 20) : fX7_bitAt N (nI (zS P)) (nI k) σ = some (nI (if P k then 1 else 0), σ) := by
  unfold fX7_bitAt
  rw [zS_at h]
/-! the count of bits, as the library counts them -/
theorem zushr {x k : Nat} (hx : x < 2 ^ 31) (hk : k < 32) : ((nI x).toUInt32 >>> ((nI k).toUInt32 &&& Int32.toUInt32 31)).toInt32 = nI (x / 2 ^ k) := by
  have hk2 : ((nI k).toUInt32 &&& Int32.toUInt32 31) = UInt32.ofNat k := by
    have : ∀ k, k < 32 → ((nI k).toUInt32 &&& Int32.toUInt32 31) = UInt32.ofNat k := by decide
    exact this k hk
  rw [hk2]
  have e1 : (nI x).toUInt32 = UInt32.ofNat x := rfl
  rw [e1]
  have e2 : UInt32.ofNat x >>> UInt32.ofNat k = UInt32.ofNat (x / 2 ^ k) := by
    apply UInt32.toNat_inj.mp
    have hd : x / 2 ^ k ≤ x := Nat.div_le_self _ _
    rw [UInt32.toNat_shiftRight, UInt32.toNat_ofNat_of_lt' (by show x < 4294967296; omega), UInt32.toNat_ofNat_of_lt' (by show k < 4294967296; omega), UInt32.toNat_ofNat_of_lt' (by show x / 2 ^ k < 4294967296; omega), Nat.shiftRight_eq_div_pow, Nat.mod_eq_of_lt hk]
  rw [e2]
  rfl
theorem zand8 {y lo M m : Nat} (hl : lo < 256) (hm : m < 256) : (256 * y + lo) &&& (256 * M + m) = 256 * (y &&& M) + (lo &&& m) := by
  have h8 : (256 : Nat) = 2 ^ 8 := by decide
  have hlm : lo &&& m < 2 ^ 8 := Nat.lt_of_le_of_lt Nat.and_le_left hl
  refine Nat.eq_of_testBit_eq (fun i => ?_)
  rw [Nat.testBit_and, h8, Nat.testBit_two_pow_mul_add _ hl, Nat.testBit_two_pow_mul_add _ hm, Nat.testBit_two_pow_mul_add _ hlm]
  split
  · rw [Nat.testBit_and]
  · rw [Nat.testBit_and]
def zs1 (y : Nat) : Nat := y - ((y / 2) &&& 5592405)
def zs2 (y : Nat) : Nat := (zs1 y &&& 3355443) + ((zs1 y / 4) &&& 3355443)
def zs3 (y : Nat) : Nat := (zs2 y + zs2 y / 16) &&& 986895
theorem zhi_ok : ∀ a, a < 16 → ∀ b, b < 256 → ((16 * b + a) / 2 &&& 5592405) ≤ 16 * b + a ∧ zs2 (16 * b + a) % 16 ≤ 4 ∧ zs3 (16 * b + a) % 256 ≤ 8 ∧ zs3 (16 * b + a) / 256 ≤ 4 ∧ zs3 (16 * b + a) % 256 + zs3 (16 * b + a) / 256 = fb_ct (fun i => (16 * b + a).testBit i) 12 ∧ zs2 (16 * b + a) < 65536 ∧ zs1 (16 * b + a) < 65536 := by decide +kernel
def zt1 (x : Nat) : Nat := x - ((x / 2) &&& 85)
def zt2 (x : Nat) : Nat := (zt1 x &&& 51) + ((zt1 x / 4) &&& 51)
theorem zlo_ok : ∀ x, x < 256 → ((x / 2) &&& 85) ≤ x ∧ zt1 x < 256 ∧ zt2 x + 64 + zt2 x / 16 < 256 ∧ (∀ r, r < 5 → (zt2 x + 16 * r + zt2 x / 16) &&& 15 = fb_ct (fun i => x.testBit i) 8) ∧ (∀ r, r < 2 → (128 * r + x / 2) &&& 85 = (x / 2) &&& 85) ∧ (∀ r, r < 4 → (64 * r + zt1 x / 4) &&& 51 = (zt1 x / 4) &&& 51) ∧ fb_ct (fun i => x.testBit i) 8 ≤ 8 := by decide +kernel
theorem zbitCount {N x : Nat} {σ : zSt} (hx : x < 2 ^ 20) : fJ6_bitCount_0f7a4 N (nI x) σ = some (nI (fb_ct (fun i => x.testBit i) 20), σ) := by
  obtain ⟨y, lo, hxe, hlo, hy⟩ : ∃ y lo, x = 256 * y + lo ∧ lo < 256 ∧ y < 4096 := ⟨x / 256, x % 256, by omega, by omega, by omega⟩
  obtain ⟨b, a, hye, ha, hb⟩ : ∃ b a, y = 16 * b + a ∧ a < 16 ∧ b < 256 := ⟨y / 16, y % 16, by omega, by omega, by omega⟩
  have hh := zhi_ok a ha b hb
  rw [← hye] at hh
  obtain ⟨h1, h2, h3, h4, h5, h6, h6b⟩ := hh
  obtain ⟨l1, l2, l3, l4, l5, l6, l7⟩ := zlo_ok lo hlo
  -- step 1
  have s1 : x - ((x / 2) &&& 1431655765) = 256 * zs1 y + zt1 lo := by
    have e : x / 2 = 256 * (y / 2) + (128 * (y % 2) + lo / 2) := by omega
    rw [e, show (1431655765 : Nat) = 256 * 5592405 + 85 by decide, zand8 (by omega) (by decide), l5 (y % 2) (by omega)]
    unfold zs1 zt1
    omega
  have s2 : ((256 * zs1 y + zt1 lo) &&& 858993459) + (((256 * zs1 y + zt1 lo) / 4) &&& 858993459) = 256 * zs2 y + zt2 lo := by
    have e : (256 * zs1 y + zt1 lo) / 4 = 256 * (zs1 y / 4) + (64 * (zs1 y % 4) + zt1 lo / 4) := by omega
    rw [e, show (858993459 : Nat) = 256 * 3355443 + 51 by decide, zand8 l2 (by decide), zand8 (by omega) (by decide), l6 (zs1 y % 4) (by omega)]
    unfold zs2 zt2
    omega
  have s3 : ((256 * zs2 y + zt2 lo) + (256 * zs2 y + zt2 lo) / 16) &&& 252645135 = 256 * zs3 y + fb_ct (fun i => lo.testBit i) 8 := by
    have e : (256 * zs2 y + zt2 lo) + (256 * zs2 y + zt2 lo) / 16 = 256 * (zs2 y + zs2 y / 16) + (zt2 lo + 16 * (zs2 y % 16) + zt2 lo / 16) := by omega
    rw [e, show (252645135 : Nat) = 256 * 986895 + 15 by decide, zand8 (by omega) (by decide), l4 (zs2 y % 16) (by omega)]
    rfl
  have hc : fb_ct (fun i => x.testBit i) 20 = fb_ct (fun i => lo.testBit i) 8 + (zs3 y % 256 + zs3 y / 256) := by
    rw [h5, show (20 : Nat) = 8 + 12 by decide, fb_ct_split]
    congr 1
    · refine fb_ct_cong (fun k hk => ?_)
      rw [hxe, show (256 : Nat) = 2 ^ 8 by decide, Nat.testBit_two_pow_mul_add _ hlo, if_pos hk]
    · refine fb_ct_cong (fun k hk => ?_)
      rw [hxe, show (256 : Nat) = 2 ^ 8 by decide, Nat.testBit_two_pow_mul_add _ hlo, if_neg (by omega)]
      congr 1
      omega
  have z1 := zs1
  unfold fJ6_bitCount_0f7a4
  have u1 : nI x - (((nI x).toUInt32 >>> ((1 : Int32).toUInt32 &&& Int32.toUInt32 31)).toInt32 &&& (1431655765 : Int32)) = nI (256 * zs1 y + zt1 lo) := by
    have e := zushr (x := x) (k := 1) (by omega) (by decide)
    have e : ((nI x).toUInt32 >>> ((1 : Int32).toUInt32 &&& Int32.toUInt32 31)).toInt32 = nI (x / 2 ^ 1) := e
    have hle : (x / 2) &&& 1431655765 ≤ x := Nat.le_trans Nat.and_le_left (Nat.div_le_self _ _)
    rw [e, show (1431655765 : Int32) = nI 1431655765 from rfl, fa_and, ← s1, show x / 2 ^ 1 = x / 2 from rfl]
    rw [← iI_nat, ← iI_nat, ← iI_nat, iI_sub]
    congr 1
    omega
  have b1 : 256 * zs1 y + zt1 lo < 2 ^ 31 := by omega
  have u2 : (nI (256 * zs1 y + zt1 lo) &&& (858993459 : Int32)) + (((nI (256 * zs1 y + zt1 lo)).toUInt32 >>> ((2 : Int32).toUInt32 &&& Int32.toUInt32 31)).toInt32 &&& (858993459 : Int32)) = nI (256 * zs2 y + zt2 lo) := by
    have e := zushr (x := 256 * zs1 y + zt1 lo) (k := 2) b1 (by decide)
    have e : ((nI (256 * zs1 y + zt1 lo)).toUInt32 >>> ((2 : Int32).toUInt32 &&& Int32.toUInt32 31)).toInt32 = nI ((256 * zs1 y + zt1 lo) / 2 ^ 2) := e
    rw [e, show (858993459 : Int32) = nI 858993459 from rfl, fa_and, fa_and, nI_add, show (256 * zs1 y + zt1 lo) / 2 ^ 2 = (256 * zs1 y + zt1 lo) / 4 from rfl, s2]
  have b2 : 256 * zs2 y + zt2 lo < 2 ^ 31 := by omega
  have u3 : (nI (256 * zs2 y + zt2 lo) + ((nI (256 * zs2 y + zt2 lo)).toUInt32 >>> ((4 : Int32).toUInt32 &&& Int32.toUInt32 31)).toInt32) &&& (252645135 : Int32) = nI (256 * zs3 y + fb_ct (fun i => lo.testBit i) 8) := by
    have e := zushr (x := 256 * zs2 y + zt2 lo) (k := 4) b2 (by decide)
    have e : ((nI (256 * zs2 y + zt2 lo)).toUInt32 >>> ((4 : Int32).toUInt32 &&& Int32.toUInt32 31)).toInt32 = nI ((256 * zs2 y + zt2 lo) / 2 ^ 4) := e
    rw [e, show (252645135 : Int32) = nI 252645135 from rfl, nI_add, fa_and, show (256 * zs2 y + zt2 lo) / 2 ^ 4 = (256 * zs2 y + zt2 lo) / 16 from rfl, s3]
  have b3 : zs3 y < 4 * 256 + 256 := by omega
  rw [znm_eq, u1, znm_eq, u2, znm_eq, u3]
  generalize hp : fb_ct (fun i => lo.testBit i) 8 = p at *
  have e8 := zushr (x := 256 * zs3 y + p) (k := 8) (by omega) (by decide)
  have e8 : ((nI (256 * zs3 y + p)).toUInt32 >>> ((8 : Int32).toUInt32 &&& Int32.toUInt32 31)).toInt32 = nI ((256 * zs3 y + p) / 2 ^ 8) := e8
  rw [znm_eq, e8, nI_add]
  have e16 := zushr (x := 256 * zs3 y + p + (256 * zs3 y + p) / 2 ^ 8) (k := 16) (by omega) (by decide)
  have e16 : ((nI (256 * zs3 y + p + (256 * zs3 y + p) / 2 ^ 8)).toUInt32 >>> ((16 : Int32).toUInt32 &&& Int32.toUInt32 31)).toInt32 = nI ((256 * zs3 y + p + (256 * zs3 y + p) / 2 ^ 8) / 2 ^ 16) := e16
  rw [znm_eq, e16, nI_add, show (63 : Int32) = nI (2 ^ 6 - 1) from rfl, fa_mask, hc]
  have fin : ∀ z p : Nat, p ≤ 8 → z % 256 ≤ 8 → z / 256 ≤ 4 → (256 * z + p + (256 * z + p) / 2 ^ 8 + (256 * z + p + (256 * z + p) / 2 ^ 8) / 2 ^ 16) % 2 ^ 6 = p + (z % 256 + z / 256) := by
    intro z p hp hz1 hz2
    have q1 : (256 * z + p) / 2 ^ 8 = z := by omega
    rw [q1]
    have q2 : (256 * z + p + z) / 2 ^ 16 = z / 256 := by omega
    rw [q2]
    omega
  rw [fin _ _ l7 h3 h4]
