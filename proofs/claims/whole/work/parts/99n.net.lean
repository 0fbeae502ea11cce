/-! ===== the net, as numbers ===== -/
abbrev zA : Type := Nat → Nat → Nat
def zdo (f : Nat) : Nat := ([2, 1, 2, 3] : List Nat).getD f 0
def zim (g : Nat → Nat) : Nat → Nat → Bool
  | 0, _ => false
  | c + 1, n => zim g c n || (g c == n)
theorem zim_iff {g : Nat → Nat} {n : Nat} : ∀ {c : Nat}, zim g c n = true ↔ ∃ j, j < c ∧ g j = n
  | 0 => ⟨fun h => absurd (show false = true from h) (by decide), fun ⟨j, hj, _⟩ => absurd hj (Nat.not_lt_zero j)⟩
  | c + 1 => by
    rw [zim, Bool.or_eq_true, zim_iff, beq_iff_eq]
    constructor
    · rintro (⟨j, hj, e⟩ | e)
      · exact ⟨j, by omega, e⟩
      · exact ⟨c, by omega, e⟩
    · rintro ⟨j, hj, e⟩
      by_cases q : j = c
      · exact Or.inr (q ▸ e)
      · exact Or.inl ⟨j, by omega, e⟩
theorem zct_one {P : Nat → Bool} {x : Nat} : ∀ {M : Nat}, x < M → fb_ct (fun n => (x == n) && P n) M = if P x then 1 else 0
  | 0, h => absurd h (Nat.not_lt_zero x)
  | M + 1, h => by
    rw [fb_ct_succ]
    by_cases q : x = M
    · subst q
      have : fb_ct (fun n => (x == n) && P n) x = 0 := fb_ct_zero.mpr (fun k hk => by
        have : (x == k) = false := by simp; omega
        rw [this]; rfl)
      rw [this]
      simp
    · rw [zct_one (M := M) (by omega)]
      have : ((x == M) && P M) = false := by
        have : (x == M) = false := by simp; exact q
        rw [this]; rfl
      rw [this]; simp
/-- a set told by different names has as many as names -/
theorem zim_ct {g : Nat → Nat} {P : Nat → Bool} {M : Nat} : ∀ {c : Nat}, (∀ j k, j < k → k < c → g j ≠ g k) → (∀ j, j < c → g j < M) → fb_ct (fun n => zim g c n && P n) M = fb_ct (fun j => P (g j)) c
  | 0, _, _ => fb_ct_zero.mpr (fun _ _ => rfl)
  | c + 1, h1, h2 => by
    have e : fb_ct (fun n => zim g (c + 1) n && P n) M = fb_ct (fun n => (zim g c n && P n) || ((g c == n) && P n)) M := fb_ct_cong (fun n _ => by
      rw [zim]
      cases zim g c n <;> cases (g c == n) <;> cases P n <;> rfl)
    have hdis : ∀ n, n < M → ¬ ((zim g c n && P n) = true ∧ ((g c == n) && P n) = true) := by
      rintro n - ⟨z1, z2⟩
      rw [Bool.and_eq_true] at z1 z2
      obtain ⟨j, hj, ej⟩ := zim_iff.mp z1.1
      exact h1 j c hj (by omega) (ej.trans (beq_iff_eq.mp z2.1).symm)
    rw [e, fb_ct_or hdis, zim_ct (c := c) (fun j k a b => h1 j k a (by omega)) (fun j a => h2 j (by omega)), zct_one (h2 c (by omega)), fb_ct_succ]
def zpt (a : zA) (s n : Nat) : Bool := zim (fun j => a 9 (6 * s + j)) (a 8 s) n
def zop (a : zA) (s : Nat) : Nat := fb_ct (fun k => a 10 (3 * s + k) == 0) (zdo (a 6 s))
def zOkS (a : zA) (s : Nat) : Prop := a 6 s ≤ 3 ∧ a 7 s < a 0 0 ∧ a 1 (a 7 s) = 2 ∧ 1 ≤ a 8 s ∧ a 8 s ≤ 6 ∧ (∀ j, j < a 8 s → a 9 (6 * s + j) < a 0 0) ∧ (∀ j k, j < k → k < a 8 s → a 9 (6 * s + j) ≠ a 9 (6 * s + k)) ∧ (∀ k, k < 3 → a 10 (3 * s + k) ≤ 11 ∧ (zdo (a 6 s) ≤ k → a 10 (3 * s + k) = 0))
def zOk (a : zA) : Prop := a 0 0 ≤ 20 ∧ a 0 1 ≤ 16 ∧ a 0 2 ≤ 9999 ∧ (∀ n, n < a 0 0 → a 1 n ≤ 2 ∧ a 2 n ≤ 9 ∧ a 3 n ≤ 9999 ∧ a 4 n ≤ 9999 ∧ a 5 n ≤ 1) ∧ (∀ s, s < a 0 1 → zOkS a s)
def zCS (σ : zSt) (a : zA) (s : Nat) : Prop := σ.1 13 s = nI (a 6 s) ∧ σ.1 14 s = nI (a 7 s) ∧ σ.1 15 s = nI (a 8 s) ∧ σ.1 16 s = nI (zS (zpt a s)) ∧ σ.1 18 s = nI (zop a s) ∧ (∀ j, j < a 8 s → σ.1 17 (6 * s + j) = nI (a 9 (6 * s + j))) ∧ (∀ k, k < 3 → σ.1 19 (3 * s + k) = nI (a 10 (3 * s + k)))
def zCNd (σ : zSt) (a : zA) (n : Nat) : Prop := σ.1 8 n = nI (a 1 n) ∧ σ.1 12 n = nI (a 5 n) ∧ (a 1 n < 2 → σ.1 9 n = nI (a 2 n) ∧ σ.1 10 n = nI (a 3 n) ∧ σ.1 11 n = nI (a 4 n))
def zCN (σ : zSt) (a : zA) : Prop := σ.1 7 0 = nI (a 0 0) ∧ σ.1 7 1 = nI (a 0 1) ∧ σ.1 7 2 = nI (a 0 2) ∧ (∀ n, n < a 0 0 → zCNd σ a n) ∧ (∀ s, s < a 0 1 → zCS σ a s)
def zMS (σ : zSt) (a : zA) (s : Nat) : Prop := σ.1 9 s = nI (a 6 s) ∧ σ.1 10 s = nI (a 7 s) ∧ σ.1 11 s = nI (a 8 s) ∧ (∀ j, j < a 8 s → σ.1 12 (6 * s + j) = nI (a 9 (6 * s + j))) ∧ (∀ k, k < 3 → σ.1 13 (3 * s + k) = nI (a 10 (3 * s + k)))
def zMNd (σ : zSt) (a : zA) (n : Nat) : Prop := σ.1 4 n = nI (a 1 n) ∧ σ.1 8 n = nI (a 5 n) ∧ (a 1 n < 2 → σ.1 5 n = nI (a 2 n) ∧ σ.1 6 n = nI (a 3 n) ∧ σ.1 7 n = nI (a 4 n)) ∧ (a 1 n = 2 → σ.1 5 n = -1000000 ∧ σ.1 6 n = -1000000 ∧ σ.1 7 n = -1000000)
def zMN (σ : zSt) (a : zA) : Prop := σ.1 0 5 = nI (a 0 0) ∧ σ.1 0 6 = nI (a 0 1) ∧ σ.1 0 29 = nI (a 0 2) ∧ (∀ n, n < a 0 0 → zMNd σ a n) ∧ (∀ s, s < a 0 1 → zMS σ a s)
theorem zCN_fr {σ τ : zSt} {a : zA} (h : zCN σ a) (hf : ∀ k, 7 ≤ k → k ≤ 19 → τ.1 k = σ.1 k) : zCN τ a := by
  unfold zCN zCNd zCS at *
  rw [hf 7 (by decide) (by decide), hf 8 (by decide) (by decide), hf 9 (by decide) (by decide), hf 10 (by decide) (by decide), hf 11 (by decide) (by decide), hf 12 (by decide) (by decide), hf 13 (by decide) (by decide), hf 14 (by decide) (by decide), hf 15 (by decide) (by decide), hf 16 (by decide) (by decide), hf 17 (by decide) (by decide), hf 18 (by decide) (by decide), hf 19 (by decide) (by decide)]
  exact h
theorem zMN_fr {σ τ : zSt} {a : zA} (h : zMN σ a) (hf : ∀ k, 4 ≤ k → k ≤ 13 → τ.1 k = σ.1 k) (h5 : τ.1 0 5 = σ.1 0 5) (h6 : τ.1 0 6 = σ.1 0 6) (h29 : τ.1 0 29 = σ.1 0 29) : zMN τ a := by
  unfold zMN zMNd zMS at *
  rw [h5, h6, h29, hf 4 (by decide) (by decide), hf 5 (by decide) (by decide), hf 6 (by decide) (by decide), hf 7 (by decide) (by decide), hf 8 (by decide) (by decide), hf 9 (by decide) (by decide), hf 10 (by decide) (by decide), hf 11 (by decide) (by decide), hf 12 (by decide) (by decide), hf 13 (by decide) (by decide)]
  exact h
/-! what is asked of it -/
def zst (a : zA) (n : Nat) : Bool := (a 5 n == 0) && decide (a 0 2 ≤ a 3 n + a 4 n)
def zsd (a : zA) (n : Nat) : Bool := decide (n < a 0 0) && (decide (a 1 n < 2) && zst a n)
def zcl (a : zA) (n : Nat) : Bool := decide (n < a 0 0) && (a 1 n == 2)
def zgh (a : zA) (h n : Nat) : Bool := decide (n < a 0 0) && (decide (a 1 n < 2) && (a 2 n == h))
def zbu (a : zA) (s : Nat) (P : Nat → Bool) : Bool :=
  if a 6 s = 0 then fb_ct (fun j => P (a 9 (6 * s + j))) (a 8 s) == a 8 s else if a 6 s = 1 then decide (0 < fb_ct (fun j => P (a 9 (6 * s + j))) (a 8 s)) else if a 6 s = 2 then decide (a 8 s < 2 * fb_ct (fun j => P (a 9 (6 * s + j))) (a 8 s)) else P (a 9 (6 * s))
/-! gathering bits -/
theorem zacc_0 {P : Nat → Bool} : (0 : Int32) = nI (zS (fun n => decide (n < 0) && P n)) := by
  have : zS (fun n => decide (n < 0) && P n) = zS (fun _ => false) := zset_cong (fun i _ => by simp)
  rw [this, zS_0]
  rfl
theorem zacc_yes {P : Nat → Bool} {i : Nat} (hi : i < 20) (h : P i = true) : nI (zS (fun n => decide (n < i) && P n)) ||| ((1 : Int32) <<< (nI i &&& 31)) = nI (zS (fun n => decide (n < i + 1) && P n)) := by
  rw [zS_shl hi, zS_or]
  refine zS_eq.mpr (fun n hn => ?_)
  by_cases q : n = i
  · subst q
    rw [h]; simp
  · have e1 : (n == i) = false := by simp; exact q
    have e2 : decide (n < i) = decide (n < i + 1) := by
      by_cases z : n < i
      · rw [decide_eq_true z, decide_eq_true (by omega)]
      · rw [decide_eq_false z, decide_eq_false (by omega)]
    rw [e1, e2, Bool.or_false]
theorem zacc_no {P : Nat → Bool} {i : Nat} (h : P i = false) : nI (zS (fun n => decide (n < i) && P n)) = nI (zS (fun n => decide (n < i + 1) && P n)) := by
  refine zS_eq.mpr (fun n hn => ?_)
  by_cases q : n = i
  · subst q
    rw [h]; simp
  · have e2 : decide (n < i) = decide (n < i + 1) := by
      by_cases z : n < i
      · rw [decide_eq_true z, decide_eq_true (by omega)]
      · rw [decide_eq_false z, decide_eq_false (by omega)]
    rw [e2]
theorem zor0 (x : Int32) : x ||| (0 : Int32) = x := Int32.or_zero
/-! the class -/
theorem zcstands {N n : Nat} {a : zA} {σ : zSt} (h : zCN σ a) (ho : zOk a) (hn : n < a 0 0) (hg : a 1 n < 2) : fX2_stands N (nI n) σ = some (nI (if zst a n then 1 else 0), σ) := by
  obtain ⟨c1, c2, c3⟩ := h.2.2.2.1 n hn
  obtain ⟨c4, c5, c6⟩ := c3 hg
  obtain ⟨o1, o2, o3, o4, o5⟩ := ho.2.2.2.1 n hn
  have hd := ho.2.2.1
  have h20 := ho.1
  unfold fX2_stands zst
  rw [zag_nI (by omega) (by omega), c2]
  by_cases q : a 5 n = 0
  · rw [if_pos (show nI (a 5 n) = 0 by rw [q]; rfl), zag_nI (by omega) (by omega), zag_nI (by omega) (by omega), c5, c6, h.2.2.1, nI_add]
    by_cases z : a 0 2 ≤ a 3 n + a 4 n
    · rw [if_neg (nI_nlt z (by omega)), q, decide_eq_true z]; exact zrz_1
    · rw [if_pos (nI_lt (by omega) (by omega)), decide_eq_false z, Bool.and_false]; exact zrz_0
  · rw [if_neg (nI_ne0 (by omega) (by omega))]
    have : (a 5 n == 0) = false := by simp; exact q
    rw [this]; exact zrz_0
theorem zcstanding_loop {N : Nat} {a : zA} {σ : zSt} (h : zCN σ a) (ho : zOk a) : ∀ (g f i : Nat), g < f → i + g = a 0 0 → fX2_standing_4 N f (nI (zS (fun n => decide (n < i) && (decide (a 1 n < 2) && zst a n)))) (nI i) σ = some (nI (zS (zsd a)), σ)
  | 0, f + 1, i, _, hi => by
    have h20 := ho.1
    rw [fX2_standing_4, h.1, if_pos (nI_le (by omega) (by omega)), show i = a 0 0 by omega]
    rfl
  | g + 1, f + 1, i, hf, hi => by
    have h20 := ho.1
    obtain ⟨c1, c2, c3⟩ := h.2.2.2.1 i (by omega)
    obtain ⟨o1, o2, o3, o4, o5⟩ := ho.2.2.2.1 i (by omega)
    rw [fX2_standing_4, h.1, if_neg (nI_ge (by omega) (by omega)), zag_nI (by omega) (by omega), c1]
    by_cases q : a 1 i = 2
    · rw [if_pos (by rw [q]; rfl), nI_1, zacc_no (by rw [q]; rfl)]
      exact zcstanding_loop h ho g f (i + 1) (by omega) (by omega)
    · rw [if_neg (show ¬ nI (a 1 i) = (2 : Int32) from fun e => q ((nI_eq (b := 2) (by omega) (by omega)).mp e)), zcstands h ho (by omega) (by omega), zbnd_some]
      by_cases z : zst a i = true
      · rw [z, if_pos rfl, if_neg (by decide), znm_eq, zacc_yes (by omega) (by rw [z, decide_eq_true (by omega)]; rfl), nI_1]
        exact zcstanding_loop h ho g f (i + 1) (by omega) (by omega)
      · rw [if_neg z, if_pos (by decide), nI_1, zacc_no (by simp at z; rw [z, Bool.and_false])]
        exact zcstanding_loop h ho g f (i + 1) (by omega) (by omega)
theorem zcstanding {N : Nat} {a : zA} {σ : zSt} (h : zCN σ a) (ho : zOk a) (hN : 600000 ≤ N) : fX2_standing N σ = some (nI (zS (zsd a)), σ) := by
  have h20 := ho.1
  have := zcstanding_loop (N := N) h ho (a 0 0) N 0 (by omega) (by omega)
  rw [← zacc_0] at this
  exact this
theorem zcclaims_loop {N : Nat} {a : zA} {σ : zSt} (h : zCN σ a) (ho : zOk a) : ∀ (g f i : Nat), g < f → i + g = a 0 0 → fX2_claims_4 N f (nI (zS (fun n => decide (n < i) && (a 1 n == 2)))) (nI i) σ = some (nI (zS (zcl a)), σ)
  | 0, f + 1, i, _, hi => by
    have h20 := ho.1
    rw [fX2_claims_4, h.1, if_pos (nI_le (by omega) (by omega)), show i = a 0 0 by omega]
    rfl
  | g + 1, f + 1, i, hf, hi => by
    have h20 := ho.1
    obtain ⟨c1, c2, c3⟩ := h.2.2.2.1 i (by omega)
    obtain ⟨o1, o2, o3, o4, o5⟩ := ho.2.2.2.1 i (by omega)
    rw [fX2_claims_4, h.1, if_neg (nI_ge (by omega) (by omega)), zag_nI (by omega) (by omega), c1]
    by_cases q : a 1 i = 2
    · rw [if_pos (by rw [q]; rfl), znm_eq, zacc_yes (by omega) (by rw [q]; rfl), nI_1]
      exact zcclaims_loop h ho g f (i + 1) (by omega) (by omega)
    · rw [if_neg (show ¬ nI (a 1 i) = (2 : Int32) from fun e => q ((nI_eq (b := 2) (by omega) (by omega)).mp e)), nI_1, zacc_no (by simp; exact q)]
      exact zcclaims_loop h ho g f (i + 1) (by omega) (by omega)
theorem zcclaims {N : Nat} {a : zA} {σ : zSt} (h : zCN σ a) (ho : zOk a) (hN : 600000 ≤ N) : fX2_claims N σ = some (nI (zS (zcl a)), σ) := by
  have h20 := ho.1
  have := zcclaims_loop (N := N) h ho (a 0 0) N 0 (by omega) (by omega)
  rw [← zacc_0] at this
  exact this
/-! the reference -/
theorem zmstands {N n : Nat} {a : zA} {σ : zSt} (h : zMN σ a) (ho : zOk a) (hn : n < a 0 0) (hg : a 1 n < 2) : fX8_stands N (nI n) σ = some (nI (if zst a n then 1 else 0), σ) := by
  obtain ⟨c1, c2, c3, -⟩ := h.2.2.2.1 n hn
  obtain ⟨c4, c5, c6⟩ := c3 hg
  obtain ⟨o1, o2, o3, o4, o5⟩ := ho.2.2.2.1 n hn
  have hd := ho.2.2.1
  have h20 := ho.1
  unfold fX8_stands zst
  rw [zag_nI (by omega) (by omega), c2]
  by_cases q : a 5 n = 0
  · rw [if_pos (show nI (a 5 n) = 0 by rw [q]; rfl), zag_nI (by omega) (by omega), zag_nI (by omega) (by omega), c5, c6, h.2.2.1, ← iI_nat, ← iI_nat, ← iI_nat, iI_sub]
    by_cases z : a 0 2 ≤ a 3 n + a 4 n
    · rw [if_neg (fun w => absurd ((iI_lt (by omega) (by omega)).mp w) (by omega)), q, decide_eq_true z]; exact zrz_1
    · rw [if_pos ((iI_lt (by omega) (by omega)).mpr (by omega)), decide_eq_false z, Bool.and_false]; exact zrz_0
  · rw [if_neg (nI_ne0 (by omega) (by omega))]
    have : (a 5 n == 0) = false := by simp; exact q
    rw [this]; exact zrz_0
theorem zmstanding_loop {N : Nat} {a : zA} {σ : zSt} (h : zMN σ a) (ho : zOk a) : ∀ (g f i : Nat), g < f → i + g = a 0 0 → fX8_standing_4 N f (nI (zS (fun n => decide (n < i) && (decide (a 1 n < 2) && zst a n)))) (nI i) σ = some (nI (zS (zsd a)), σ)
  | 0, f + 1, i, _, hi => by
    have h20 := ho.1
    rw [fX8_standing_4, h.1, if_pos (nI_le (by omega) (by omega)), show i = a 0 0 by omega]
    rfl
  | g + 1, f + 1, i, hf, hi => by
    have h20 := ho.1
    obtain ⟨c1, c2, c3, -⟩ := h.2.2.2.1 i (by omega)
    obtain ⟨o1, o2, o3, o4, o5⟩ := ho.2.2.2.1 i (by omega)
    rw [fX8_standing_4, h.1, if_neg (nI_ge (by omega) (by omega)), zag_nI (by omega) (by omega), c1]
    by_cases q : a 1 i = 2
    · rw [if_pos (by rw [q]; decide), fX8_standing_37, fX8_standing_38, znm_eq, zor0, nI_1, zacc_no (by rw [q]; rfl)]
      exact zmstanding_loop h ho g f (i + 1) (by omega) (by omega)
    · rw [if_neg (show ¬ (2 : Int32) ≤ nI (a 1 i) from nI_ge (b := 2) (by omega) (by omega)), zmstands h ho (by omega) (by omega), zbnd_some]
      by_cases z : zst a i = true
      · rw [z, if_pos rfl, if_neg (by decide), fX8_standing_38, znm_eq, zacc_yes (by omega) (by rw [z, decide_eq_true (by omega)]; rfl), nI_1]
        exact zmstanding_loop h ho g f (i + 1) (by omega) (by omega)
      · rw [if_neg z, if_pos (by decide), fX8_standing_37, fX8_standing_38, znm_eq, zor0, nI_1, zacc_no (by simp at z; rw [z, Bool.and_false])]
        exact zmstanding_loop h ho g f (i + 1) (by omega) (by omega)
theorem zmstanding {N : Nat} {a : zA} {σ : zSt} (h : zMN σ a) (ho : zOk a) (hN : 600000 ≤ N) : fX8_standing N σ = some (nI (zS (zsd a)), σ) := by
  have h20 := ho.1
  have := zmstanding_loop (N := N) h ho (a 0 0) N 0 (by omega) (by omega)
  rw [← zacc_0] at this
  exact this
theorem zmclaims_loop {N : Nat} {a : zA} {σ : zSt} (h : zMN σ a) (ho : zOk a) : ∀ (g f i : Nat), g < f → i + g = a 0 0 → fX8_claims_4 N f (nI (zS (fun n => decide (n < i) && (a 1 n == 2)))) (nI i) σ = some (nI (zS (zcl a)), σ)
  | 0, f + 1, i, _, hi => by
    have h20 := ho.1
    rw [fX8_claims_4, h.1, if_pos (nI_le (by omega) (by omega)), show i = a 0 0 by omega]
    rfl
  | g + 1, f + 1, i, hf, hi => by
    have h20 := ho.1
    obtain ⟨c1, c2, c3, -⟩ := h.2.2.2.1 i (by omega)
    obtain ⟨o1, o2, o3, o4, o5⟩ := ho.2.2.2.1 i (by omega)
    rw [fX8_claims_4, h.1, if_neg (nI_ge (by omega) (by omega)), zag_nI (by omega) (by omega), c1]
    by_cases q : a 1 i = 2
    · rw [if_pos (by rw [q]; rfl), fX8_claims_30, znm_eq, zacc_yes (by omega) (by rw [q]; rfl), nI_1]
      exact zmclaims_loop h ho g f (i + 1) (by omega) (by omega)
    · rw [if_neg (show ¬ nI (a 1 i) = (2 : Int32) from fun e => q ((nI_eq (b := 2) (by omega) (by omega)).mp e)), fX8_claims_30, znm_eq, zor0, nI_1, zacc_no (by simp; exact q)]
      exact zmclaims_loop h ho g f (i + 1) (by omega) (by omega)
theorem zmclaims {N : Nat} {a : zA} {σ : zSt} (h : zMN σ a) (ho : zOk a) (hN : 600000 ≤ N) : fX8_claims N σ = some (nI (zS (zcl a)), σ) := by
  have h20 := ho.1
  have := zmclaims_loop (N := N) h ho (a 0 0) N 0 (by omega) (by omega)
  rw [← zacc_0] at this
  exact this
