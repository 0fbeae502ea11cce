/-! ===== words, numbers, faults ===== -/
def zwl (w : Nat) : Nat := ([4, 5, 5, 4, 3, 3, 4, 4] : List Nat).getD w 0
def zwc (w i : Nat) : Nat := (([[108, 101, 97, 102], [103, 105, 118, 101, 110], [99, 108, 97, 105, 109], [115, 116, 101, 112], [97, 108, 108], [97, 110, 121], [109, 111, 115, 116], [108, 105, 107, 101]] : List (List Nat)).getD w []).getD i 0
theorem zclen {N w : Nat} {σ : zSt} (hw : w < 8) : fJ0_length_8abf5 N w σ = some (nI (zwl w), σ) := by
  rcases (show w = 0 ∨ w = 1 ∨ w = 2 ∨ w = 3 ∨ w = 4 ∨ w = 5 ∨ w = 6 ∨ w = 7 by omega) with e | e | e | e | e | e | e | e <;> subst e <;> rfl
theorem zwl_b : ∀ w, w < 8 → 3 ≤ zwl w ∧ zwl w ≤ 5 := by decide
theorem zwc_b : ∀ w, w < 8 → ∀ i, i < zwl w → 1 ≤ zwc w i ∧ zwc w i < 128 := by decide
theorem zcchar {N w i : Nat} {σ : zSt} (hw : w < 8) (hi : i < zwl w) : fJ0_charAt_5068e N w (nI i) σ = some (nI (zwc w i), σ) := by
  have hl := zwl_b w hw
  have h5 : i = 0 ∨ i = 1 ∨ i = 2 ∨ i = 3 ∨ i = 4 := by omega
  rcases (show w = 0 ∨ w = 1 ∨ w = 2 ∨ w = 3 ∨ w = 4 ∨ w = 5 ∨ w = 6 ∨ w = 7 by omega) with e | e | e | e | e | e | e | e <;> subst e <;> rcases h5 with z | z | z | z | z <;> subst z <;> first | rfl | exact absurd hi (by decide)
def zal (p : Nat → Bool) : Nat → Bool
  | 0 => true
  | n + 1 => zal p n && p n
theorem zal_iff {p : Nat → Bool} : ∀ {n : Nat}, zal p n = true ↔ ∀ j, j < n → p j = true
  | 0 => ⟨fun _ j hj => absurd hj (Nat.not_lt_zero j), fun _ => rfl⟩
  | n + 1 => by
    rw [zal, Bool.and_eq_true, zal_iff]
    refine ⟨fun h j hj => ?_, fun h => ⟨fun j hj => h j (by omega), h n (by omega)⟩⟩
    by_cases q : j = n
    · rw [q]; exact h.2
    · exact h.1 j (by omega)
/-- the token is word w -/
def zwd (t : Nat → Nat) (q e k w : Nat) : Bool := (k == 1) && ((e - q == zwl w) && zal (fun i => t (q + i) == zwc w i) (zwl w))
theorem zwd_iff {t : Nat → Nat} {q e k w : Nat} : zwd t q e k w = true ↔ k = 1 ∧ e - q = zwl w ∧ ∀ i, i < zwl w → t (q + i) = zwc w i := by
  unfold zwd
  rw [Bool.and_eq_true, Bool.and_eq_true, zal_iff, beq_iff_eq, beq_iff_eq]
  refine and_congr_right (fun _ => and_congr_right (fun _ => ⟨fun h i hi => by have := h i hi; rwa [beq_iff_eq] at this, fun h i hi => by rw [beq_iff_eq]; exact h i hi⟩))
theorem zcword_loop {N q e w len : Nat} {t : Nat → Nat} {σ ρ : zSt} (hT : zTp σ ρ t len) (hw : w < 8) (he : e ≤ len) (hqe : q + zwl w = e) (hd : ∀ i, q ≤ i → i < e → 97 ≤ t i ∧ t i ≤ 122) (h2 : σ.1 5 2 = nI q) : ∀ (g f i : Nat), g < f → i + g = zwl w → (∀ j, j < i → t (q + j) = zwc w j) → fX5_isWord_28 N f w (nI i) σ = some (nI (if zwd t q e 1 w then 1 else 0), σ)
  | 0, f + 1, i, _, hi, hm => by
    have hl := hT.1
    have hb := zwl_b w hw
    have : zwd t q e 1 w = true := zwd_iff.mpr ⟨rfl, by omega, fun j hj => hm j (by omega)⟩
    rw [fX5_isWord_28, zclen hw, zbnd_some, if_pos (nI_le (by omega) (by omega)), this]
    exact zrz_1
  | g + 1, f + 1, i, hf, hi, hm => by
    have hl := hT.1
    have hb := zwl_b w hw
    have hc := zwc_b w hw i (by omega)
    have hdi := hd (q + i) (by omega) (by omega)
    have hv : σ.1 6 (q + i) = nI (t (q + i)) := by
      rw [hT.2.2.2.1 (q + i) (by omega)]
      exact fa_byte_small (by omega)
    rw [fX5_isWord_28, zclen hw, zbnd_some, if_neg (nI_ge (by omega) (by omega)), h2, nI_add, zag_nI (by omega) (by omega), hv, zcchar hw (by omega), zbnd_some]
    by_cases v : t (q + i) = zwc w i
    · rw [if_pos (by rw [v]), nI_1]
      exact zcword_loop hT hw he hqe hd h2 g f (i + 1) (by omega) (by omega) (fun j hj => by
        by_cases z : j = i
        · rw [z]; exact v
        · exact hm j (by omega))
    · have : zwd t q e 1 w = false := by
        cases hz : zwd t q e 1 w
        · rfl
        · exact absurd ((zwd_iff.mp hz).2.2 i (by omega)) v
      rw [if_neg (fun z => v ((nI_eq (by omega) (by omega)).mp z)), this]
      exact zrz_0
theorem zcword {N q e k w len : Nat} {t : Nat → Nat} {σ ρ : zSt} (hP : zPT σ ρ t len q e k) (hw : w < 8) (hN : 600000 ≤ N) : fX5_isWord N w σ = some (nI (if zwd t q e k w then 1 else 0), σ) := by
  obtain ⟨hT, hk, h2, h3, h4, -⟩ := hP
  have hl := hT.1
  have hb := zwl_b w hw
  have hqe := hk.1
  have he := hk.2.1
  unfold fX5_isWord
  rw [h4]
  by_cases q1 : k = 1
  · subst q1
    have hd : ∀ i, q ≤ i → i < e → 97 ≤ t i ∧ t i ≤ 122 := by
      rcases hk.2.2 with z | z | z | z | z
      · omega
      · exact z.2.2
      · omega
      · omega
      · omega
    rw [if_pos (show nI 1 = (1 : Int32) from rfl), zclen hw, zbnd_some, h2, h3, pk_sub hqe]
    by_cases v : e - q = zwl w
    · rw [if_pos (by rw [v])]
      exact zcword_loop hT hw he (by omega) hd h2 (zwl w) N 0 (by omega) (by omega) (fun j hj => absurd hj (Nat.not_lt_zero j))
    · have : zwd t q e 1 w = false := by
        cases hz : zwd t q e 1 w
        · rfl
        · exact absurd (zwd_iff.mp hz).2.1 v
      rw [if_neg (fun z => v ((nI_eq (by omega) (by omega)).mp z)), this]
      exact zrz_0
  · have : zwd t q e k w = false := by
      cases hz : zwd t q e k w
      · rfl
      · exact absurd (zwd_iff.mp hz).1 q1
    have k5 : k ≤ 5 := by rcases hk.2.2 with z | z | z | z | z <;> omega
    rw [if_neg (show ¬ nI k = (1 : Int32) from fun z => q1 ((nI_eq (b := 1) (by omega) (by omega)).mp z)), this]
    exact zrz_0
/-! a word as one number -/
def zpk (g : Nat → Nat) : Nat → Nat
  | 0 => 0
  | n + 1 => 256 * zpk g n + g n
theorem zpk_lt {g : Nat → Nat} : ∀ (n : Nat), (∀ i, i < n → g i < 256) → zpk g n < 256 ^ n
  | 0, _ => by show 0 < 1; omega
  | n + 1, h => by
    have ih := zpk_lt n (fun i hi => h i (by omega))
    have := h n (by omega)
    rw [zpk, Nat.pow_succ]
    omega
theorem zpk_inj {g h : Nat → Nat} : ∀ (n m : Nat), (∀ i, i < n → 1 ≤ g i ∧ g i < 256) → (∀ i, i < m → 1 ≤ h i ∧ h i < 256) → zpk g n = zpk h m → n = m ∧ ∀ i, i < n → g i = h i
  | 0, 0, _, _, _ => ⟨rfl, fun i hi => absurd hi (Nat.not_lt_zero i)⟩
  | 0, m + 1, _, hh, e => by
    have := hh m (by omega)
    have e : 0 = 256 * zpk h m + h m := e
    omega
  | n + 1, 0, hg, _, e => by
    have := hg n (by omega)
    have e : 256 * zpk g n + g n = 0 := e
    omega
  | n + 1, m + 1, hg, hh, e => by
    have a1 := hg n (by omega)
    have a2 := hh m (by omega)
    have e : 256 * zpk g n + g n = 256 * zpk h m + h m := e
    obtain ⟨r1, r2⟩ := zpk_inj n m (fun i hi => hg i (by omega)) (fun i hi => hh i (by omega)) (by omega)
    refine ⟨by omega, fun i hi => ?_⟩
    by_cases q : i = n
    · rw [q]
      have : g n = h m := by omega
      rw [this, r1]
    · exact r2 i (by omega)
def zwv (t : Nat → Nat) (q e k : Nat) : Nat := if k = 1 ∧ e - q < 8 then zpk (fun j => t (q + j)) (e - q) else 0
theorem zshl8 (y : Nat) : lN y <<< ((8 : Int32).toInt64 &&& 63) = lN (256 * y) := by
  have h8 : ((8 : Int32).toInt64 &&& 63) = (8 : Int64) := by decide
  rw [h8]
  apply Int64.toBitVec_inj.1
  rw [Int64.toBitVec_shiftLeft]
  have e8 : (8 : Int64).toBitVec.smod 64 = 8#64 := by decide
  rw [e8]
  show BitVec.ofNat 64 y <<< 8#64 = BitVec.ofNat 64 (256 * y)
  apply BitVec.eq_of_toNat_eq
  simp [BitVec.toNat_shiftLeft, Nat.shiftLeft_eq, Nat.mul_comm]
theorem zmword_loop {N q e len : Nat} {t : Nat → Nat} {σ ρ : zSt} (hT : zTp σ ρ t len) (he : e ≤ len) (hqe : q ≤ e) (h8 : e - q < 8) (h24 : ρ.1 0 24 = nI 2) (h25 : ρ.1 0 25 = nI q) (h26 : ρ.1 0 26 = nI e) : ∀ (g f i : Nat), g < f → i + g = e - q → fX8_word_7 N f (lN (zpk (fun j => t (q + j)) i)) (nI (q + i)) ρ = some (lN (zpk (fun j => t (q + j)) (e - q)), ρ)
  | 0, f + 1, i, _, hi => by
    have hl := hT.1
    rw [fX8_word_7, h26, if_pos (nI_le (by omega) (by omega)), show i = e - q by omega]
  | g + 1, f + 1, i, hf, hi => by
    have hl := hT.1
    have hb := hT.2.1 (q + i) (by omega)
    rw [fX8_word_7, h26, if_neg (nI_ge (by omega) (by omega)), h24, if_pos (show nI 2 = (2 : Int32) from rfl), h25, pk_sub hqe, if_neg (show ¬ (8 : Int32) ≤ nI (e - q) from nI_ge (b := 8) (by omega) (by omega)), zag_nI (by omega) (by omega), hT.2.2.2.2.2 (q + i) (by omega), znm_eq, zshl8, nI_l (by omega), nI_1]
    have eo : lN (256 * zpk (fun j => t (q + j)) i) ||| lN (t (q + i)) = lN (zpk (fun j => t (q + j)) (i + 1)) := fb_or_sumL (k := 8) _ (by omega)
    rw [eo]
    exact zmword_loop hT he hqe h8 h24 h25 h26 g f (i + 1) (by omega) (by omega)
theorem zrt_2 {k : Nat} (hk : k ≤ 5) : zrt k = 2 ↔ k = 1 := by
  rcases (show k = 0 ∨ k = 1 ∨ k = 2 ∨ k = 3 ∨ k = 4 ∨ k = 5 by omega) with e | e | e | e | e | e <;> subst e <;> decide
theorem zrt_3 {k : Nat} (hk : k ≤ 5) : zrt k = 3 ↔ k = 2 := by
  rcases (show k = 0 ∨ k = 1 ∨ k = 2 ∨ k = 3 ∨ k = 4 ∨ k = 5 by omega) with e | e | e | e | e | e <;> subst e <;> decide
theorem zrt_4 {k : Nat} (hk : k ≤ 5) : zrt k = 4 ↔ k = 3 := by
  rcases (show k = 0 ∨ k = 1 ∨ k = 2 ∨ k = 3 ∨ k = 4 ∨ k = 5 by omega) with e | e | e | e | e | e <;> subst e <;> decide
theorem zrt_1 {k : Nat} (hk : k ≤ 5) : zrt k = 1 ↔ k = 0 := by
  rcases (show k = 0 ∨ k = 1 ∨ k = 2 ∨ k = 3 ∨ k = 4 ∨ k = 5 by omega) with e | e | e | e | e | e <;> subst e <;> decide
theorem zrt_lt {k : Nat} (hk : k ≤ 5) : zrt k ≤ 4 := by
  rcases (show k = 0 ∨ k = 1 ∨ k = 2 ∨ k = 3 ∨ k = 4 ∨ k = 5 by omega) with e | e | e | e | e | e <;> subst e <;> decide
theorem zTk_5 {t : Nat → Nat} {len q e k : Nat} (h : zTk t len q e k) : k ≤ 5 := by rcases h.2.2 with z | z | z | z | z <;> omega
theorem zmword {N q e k len : Nat} {t : Nat → Nat} {σ ρ : zSt} (hP : zPT σ ρ t len q e k) (hN : 600000 ≤ N) : fX8_word N ρ = some (lN (zwv t q e k), ρ) := by
  obtain ⟨hT, hk, -, -, -, -, -, h24, h25, h26⟩ := hP
  have hl := hT.1
  have hqe := hk.1
  have he := hk.2.1
  have k5 := zTk_5 hk
  have z4 := zrt_lt k5
  unfold fX8_word zwv
  rw [znm_eq, h25]
  by_cases q1 : k = 1
  · subst q1
    have hlt : q < e := by rcases hk.2.2 with z | z | z | z | z <;> omega
    by_cases v : e - q < 8
    · rw [if_pos ⟨rfl, v⟩]
      exact zmword_loop hT he hqe v h24 h25 h26 (e - q) N 0 (by omega) (by omega)
    · rw [if_neg (by omega)]
      have : ∀ f, 1 ≤ f → fX8_word_7 N f 0 (nI q) ρ = some (lN 0, ρ) := by
        intro f hf
        obtain ⟨f, rfl⟩ : ∃ f', f = f' + 1 := ⟨f - 1, by omega⟩
        rw [fX8_word_7, h26, if_neg (nI_ge (by omega) (by omega)), h24, if_pos (show nI (zrt 1) = (2 : Int32) from rfl), h25, pk_sub hqe, if_pos (show (8 : Int32) ≤ nI (e - q) from nI_le (a := 8) (by omega) (by omega))]
        rfl
      exact this N (by omega)
  · rw [if_neg (fun z => q1 z.1)]
    have : ∀ f, 1 ≤ f → fX8_word_7 N f 0 (nI q) ρ = some (lN 0, ρ) := by
      intro f hf
      obtain ⟨f, rfl⟩ : ∃ f', f = f' + 1 := ⟨f - 1, by omega⟩
      rw [fX8_word_7, h26]
      by_cases v : e ≤ q
      · rw [if_pos (nI_le v (by omega))]
        rfl
      · rw [if_neg (nI_ge (by omega) (by omega)), h24, if_neg (show ¬ nI (zrt k) = (2 : Int32) from fun z => q1 ((zrt_2 k5).mp ((nI_eq (b := 2) (by omega) (by omega)).mp z)))]
        rfl
    exact this N (by omega)
theorem zwv_iff {q e k w len : Nat} {t : Nat → Nat} (hk : zTk t len q e k) (hw : w < 8) : lN (zwv t q e k) = lN (zpk (zwc w) (zwl w)) ↔ zwd t q e k w = true := by
  have hb := zwl_b w hw
  have hc := zwc_b w hw
  have b2 : zpk (zwc w) (zwl w) < 256 ^ 7 := by
    have := zpk_lt (g := zwc w) (zwl w) (fun i hi => by have := hc i hi; omega)
    have h2 : (256 : Nat) ^ zwl w ≤ 256 ^ 7 := Nat.pow_le_pow_right (by decide) (by omega)
    omega
  have p7 : (256 : Nat) ^ 7 < 2 ^ 63 := by decide
  unfold zwv
  by_cases v : k = 1 ∧ e - q < 8
  · have hd : ∀ i, i < e - q → 1 ≤ t (q + i) ∧ t (q + i) < 256 := by
      intro i hi
      rcases hk.2.2 with z | z | z | z | z
      · omega
      · have := z.2.2 (q + i) (by omega) (by omega)
        omega
      · omega
      · omega
      · omega
    have b1 : zpk (fun j => t (q + j)) (e - q) < 256 ^ 7 := by
      have := zpk_lt (g := fun j => t (q + j)) (e - q) (fun i hi => by have := hd i hi; omega)
      have h2 : (256 : Nat) ^ (e - q) ≤ 256 ^ 7 := Nat.pow_le_pow_right (by decide) (by omega)
      omega
    rw [if_pos v, fb_lN_inj (by omega) (by omega), zwd_iff]
    constructor
    · intro h
      obtain ⟨r1, r2⟩ := zpk_inj (e - q) (zwl w) hd (fun i hi => by have := hc i hi; omega) h
      exact ⟨v.1, r1, fun i hi => r2 i (by omega)⟩
    · rintro ⟨-, r1, r2⟩
      rw [r1]
      have : ∀ n, n ≤ zwl w → zpk (fun j => t (q + j)) n = zpk (zwc w) n := by
        intro n
        induction n with
        | zero => intro _; rfl
        | succ n ih =>
          intro hn
          rw [zpk, zpk, ih (by omega), r2 n (by omega)]
      exact this _ (Nat.le_refl _)
  · rw [if_neg v, fb_lN_inj (by decide) (by omega), zwd_iff]
    constructor
    · intro h
      have h0 : ∀ n, 1 ≤ n → n ≤ zwl w → 0 < zpk (zwc w) n := by
        intro n h1 h2
        obtain ⟨n, rfl⟩ : ∃ f', n = f' + 1 := ⟨n - 1, by omega⟩
        have := hc n (by omega)
        rw [zpk]
        omega
      have := h0 (zwl w) (by omega) (Nat.le_refl _)
      omega
    · rintro ⟨r0, r1, -⟩
      exact absurd ⟨r0, by omega⟩ v
theorem zmnum {N q e k len : Nat} {t : Nat → Nat} {σ ρ : zSt} (hP : zPT σ ρ t len q e k) (hN : 600000 ≤ N) : fX8_numberHere N ρ = some (nI (if k = 2 then znu t q (e - q) else 0), ρ) := by
  obtain ⟨hT, hk, -, -, -, -, -, h24, h25, h26⟩ := hP
  have hl := hT.1
  have hqe := hk.1
  have he := hk.2.1
  have k5 := zTk_5 hk
  have z4 := zrt_lt k5
  unfold fX8_numberHere
  rw [znm_eq, h25]
  by_cases q2 : k = 2
  · subst q2
    have hd : ∀ i, q ≤ i → i < e → 48 ≤ t i ∧ t i ≤ 57 := by
      rcases hk.2.2 with z | z | z | z | z
      · omega
      · omega
      · exact z.2.2.2
      · omega
      · omega
    have lp : ∀ (g f i : Nat), g < f → i + g = e - q → fX8_numberHere_7 N f (nI (znu t q i)) (nI (q + i)) ρ = some (nI (znu t q (e - q)), ρ) := by
      intro g
      induction g with
      | zero =>
        intro f i hf hi
        obtain ⟨f, rfl⟩ : ∃ f', f = f' + 1 := ⟨f - 1, by omega⟩
        rw [fX8_numberHere_7, h26, if_pos (nI_le (by omega) (by omega)), show i = e - q by omega]
      | succ g ih =>
        intro f i hf hi
        obtain ⟨f, rfl⟩ : ∃ f', f = f' + 1 := ⟨f - 1, by omega⟩
        have hdi := hd (q + i) (by omega) (by omega)
        have ev : (10 : Int32) * nI (znu t q i) + nI (t (q + i)) - 48 = nI (znu t q (i + 1)) := by
          have : (10 : Int32) * nI (znu t q i) = nI (10 * znu t q i) := pk_mul 10 _
          rw [this, nI_add, show (48 : Int32) = nI 48 from rfl, pk_sub (by omega)]
          rfl
        rw [fX8_numberHere_7, h26, if_neg (nI_ge (by omega) (by omega)), h24, if_pos (show nI (zrt 2) = (3 : Int32) from rfl), zag_nI (by omega) (by omega), hT.2.2.2.2.2 (q + i) (by omega), znm_eq, ev, nI_1]
        exact ih f (i + 1) (by omega) (by omega)
    rw [if_pos rfl]
    exact lp (e - q) N 0 (by omega) (by omega)
  · have : ∀ f, 1 ≤ f → fX8_numberHere_7 N f 0 (nI q) ρ = some (nI 0, ρ) := by
      intro f hf
      obtain ⟨f, rfl⟩ : ∃ f', f = f' + 1 := ⟨f - 1, by omega⟩
      rw [fX8_numberHere_7, h26]
      by_cases v : e ≤ q
      · rw [if_pos (nI_le v (by omega))]
        rfl
      · rw [if_neg (nI_ge (by omega) (by omega)), h24, if_neg (show ¬ nI (zrt k) = (3 : Int32) from fun z => q2 ((zrt_3 k5).mp ((nI_eq (b := 3) (by omega) (by omega)).mp z)))]
        rfl
    rw [if_neg q2]
    exact this N (by omega)
theorem znu_b {t : Nat → Nat} {len q e : Nat} (hk : zTk t len q e 2) : znu t q (e - q) < 10000 := by
  have hd : e ≤ q + 4 ∧ ∀ i, q ≤ i → i < e → 48 ≤ t i ∧ t i ≤ 57 := by
    rcases hk.2.2 with z | z | z | z | z
    · omega
    · omega
    · exact z.2.2
    · omega
    · omega
  have := znu_lt (t := t) (q := q) (e - q) (fun i hi => hd.2 (q + i) (by omega) (by omega))
  have h2 : (10 : Nat) ^ (e - q) ≤ 10 ^ 4 := Nat.pow_le_pow_right (by decide) (by omega)
  omega
/-! faults -/
theorem zbad0 {N : Nat} {ρ : zSt} {x v : Int32} (h27 : ρ.1 0 27 = 0) (h25 : ρ.1 0 25 = v) : fX8_bad N x ρ = some ((), zsi (zsi ρ 0 27 x) 0 28 v) := by
  unfold fX8_bad
  rw [if_pos h27, zpf_eq, zpf_eq, show (zsi ρ 0 27 x).1 0 25 = v from (zsi_o (by decide)).trans h25]
theorem zbad1 {N : Nat} {ρ : zSt} {x : Int32} (h27 : ¬ ρ.1 0 27 = 0) : fX8_bad N x ρ = some ((), ρ) := by
  unfold fX8_bad
  rw [if_neg h27]
theorem zmust1 {N : Nat} {ρ : zSt} {x : Int32} (h27 : ¬ ρ.1 0 27 = 0) : fX8_must N x ρ = some ((), ρ) := by
  unfold fX8_must fX8_must_9
  by_cases q : x = 0
  · rw [if_pos q, zbad1 h27, zbnd_some, if_neg h27]
  · rw [if_neg q, if_neg h27]
theorem zmust0 {N : Nat} {ρ : zSt} {v : Int32} (h27 : ρ.1 0 27 = 0) (h25 : ρ.1 0 25 = v) : fX8_must N 0 ρ = some ((), zsi (zsi ρ 0 27 1) 0 28 v) := by
  have e : (zsi (zsi ρ 0 27 1) 0 28 v).1 0 27 = 1 := (zsi_o (by decide)).trans zsi_s
  unfold fX8_must fX8_must_9
  rw [if_pos rfl, zbad0 h27 h25, zbnd_some, e, if_neg (by decide)]
theorem zmustk {N : Nat} {ρ υ : zSt} (h27 : ρ.1 0 27 = 0) (hn : fX8_next N ρ = some ((), υ)) : fX8_must N 1 ρ = some ((), υ) := by
  unfold fX8_must fX8_must_9
  rw [if_neg (by decide), if_pos h27, hn, zbnd_some]
