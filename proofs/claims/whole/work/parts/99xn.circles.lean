/-! ===== circles ===== -/
/-- m is held up by a step with part p -/
def zed (a : zA) (m p : Nat) : Bool := zex (fun s => (a 7 s == m) && zpt a s p) (a 0 1)
/-- p is reached from c -/
def zrch (a : zA) (c p : Nat) : Prop := ∀ S : Nat → Prop, (∀ q, zed a c q = true → S q) → (∀ m q, S m → zed a m q = true → S q) → S p
theorem zrch_1 {a : zA} {c p : Nat} (h : zed a c p = true) : zrch a c p := fun _ h1 _ => h1 p h
theorem zrch_e {a : zA} {c m p : Nat} (h : zrch a c m) (e : zed a m p = true) : zrch a c p := fun S h1 h2 => h2 m p (h S h1 h2) e
theorem zrch_t {a : zA} {c m p : Nat} (h : zrch a c m) (h' : zrch a m p) : zrch a c p := fun S h1 h2 => h' S (fun q e => h2 m q (h S h1 h2) e) h2
theorem zrch_out {a : zA} {c p : Nat} (h : zrch a c p) : ∃ q, zed a c q = true := h (fun _ => ∃ q, zed a c q = true) (fun q e => ⟨q, e⟩) (fun _ _ s _ => s)
theorem zed_ok {a : zA} {m p : Nat} (ho : zOk a) (h : zed a m p = true) : m < a 0 0 ∧ a 1 m = 2 ∧ p < a 0 0 := by
  obtain ⟨s, hs, e⟩ := zex_iff.mp h
  have e : ((a 7 s == m) && zpt a s p) = true := e
  rw [Bool.and_eq_true, beq_iff_eq] at e
  obtain ⟨o1, o2, o3, -⟩ := ho.2.2.2.2 s hs
  rw [e.1] at o2 o3
  exact ⟨o2, o3, zpt_lt ho hs e.2⟩
def zwk (R : Nat → Nat → Bool) (k n p : Nat) : Bool := R n p || (R n k && R k p)
def zwf (a : zA) : Nat → Nat → Nat → Bool
  | 0 => zed a
  | k + 1 => zwk (zwf a k) k
theorem zwf_sound {a : zA} : ∀ (k n p : Nat), zwf a k n p = true → zrch a n p
  | 0, _, _, h => zrch_1 h
  | k + 1, n, p, h => by
    have h : (zwf a k n p || (zwf a k n k && zwf a k k p)) = true := h
    rw [Bool.or_eq_true, Bool.and_eq_true] at h
    rcases h with h | ⟨h1, h2⟩
    · exact zwf_sound k n p h
    · exact zrch_t (zwf_sound k n k h1) (zwf_sound k k p h2)
theorem zwf_up {a : zA} {n p : Nat} : ∀ (k : Nat), zed a n p = true → zwf a k n p = true
  | 0, h => h
  | k + 1, h => by
    show (zwf a k n p || (zwf a k n k && zwf a k k p)) = true
    rw [zwf_up k h]; rfl
theorem zwf_tr {a : zA} : ∀ (k b : Nat), b < k → ∀ n p, zwf a k n b = true → zwf a k b p = true → zwf a k n p = true
  | 0, b, hb, _, _, _, _ => absurd hb (Nat.not_lt_zero b)
  | k + 1, b, hb, n, p, h1, h2 => by
    have h1 : (zwf a k n b || (zwf a k n k && zwf a k k b)) = true := h1
    have h2 : (zwf a k b p || (zwf a k b k && zwf a k k p)) = true := h2
    show (zwf a k n p || (zwf a k n k && zwf a k k p)) = true
    rw [Bool.or_eq_true, Bool.and_eq_true] at h1 h2 ⊢
    by_cases q : b = k
    · subst q
      rcases h1 with h1 | ⟨h1, -⟩ <;> rcases h2 with h2 | ⟨-, h2⟩ <;> exact Or.inr ⟨h1, h2⟩
    · have ih := zwf_tr (a := a) k b (by omega)
      rcases h1 with h1 | ⟨h1, h1'⟩ <;> rcases h2 with h2 | ⟨h2, h2'⟩
      · exact Or.inl (ih n p h1 h2)
      · exact Or.inr ⟨ih n k h1 h2, h2'⟩
      · exact Or.inr ⟨h1, ih k p h1' h2⟩
      · exact Or.inr ⟨h1, h2'⟩
theorem zwf_iff {a : zA} {n p : Nat} (ho : zOk a) : zwf a (a 0 0) n p = true ↔ zrch a n p := by
  refine ⟨zwf_sound _ n p, fun h => ?_⟩
  exact h (fun q => zwf a (a 0 0) n q = true) (fun q e => zwf_up _ e) (fun m q hm e => zwf_tr (a 0 0) m (zed_ok ho e).1 n q hm (zwf_up _ e))
/-! the class -/
theorem zcc_zero {N : Nat} {a : zA} (ho : zOk a) : ∀ (g f i : Nat) (σ : zSt), zCN σ a → g < f → i + g = a 0 0 → ∃ τ, fX2_circles_2 N f (nI i) σ = fX2_circles_25 N N 0 τ ∧ (∀ k, k ≠ 20 → τ.1 k = σ.1 k) ∧ ∀ n, n < a 0 0 → τ.1 20 n = if i ≤ n then 0 else σ.1 20 n
  | 0, f + 1, i, σ, h, _, hi => by
    have h20 := ho.1
    rw [fX2_circles_2, h.1, if_pos (nI_le (by omega) (by omega))]
    exact ⟨σ, rfl, fun _ _ => rfl, fun n h2 => by rw [if_neg (by omega)]⟩
  | g + 1, f + 1, i, σ, h, hf, hi => by
    have h20 := ho.1
    obtain ⟨τ, e1, e2, e3⟩ := zcc_zero (N := N) ho g f (i + 1) (zsi σ 20 i 0) (zCN_fr h (fun k q1 q2 => zsi_c (by omega))) (by omega) (by omega)
    rw [fX2_circles_2, h.1, if_neg (nI_ge (by omega) (by omega)), zas_nI (by omega) (by omega), nI_1]
    refine ⟨τ, e1, fun k hk => (e2 k hk).trans (zsi_c hk), fun n h2 => ?_⟩
    rw [e3 n h2]
    by_cases q : n = i
    · rw [if_neg (by omega), if_pos (by omega), q, zsi_s]
    · rw [zsi_o q]
      by_cases w : i ≤ n
      · rw [if_pos w, if_pos (by omega)]
      · rw [if_neg w, if_neg (by omega)]
theorem zcc_edges {N : Nat} {a : zA} (ho : zOk a) : ∀ (g f s : Nat) (σ : zSt), zCN σ a → g < f → s + g = a 0 1 → (∀ n, n < a 0 0 → σ.1 20 n = nI (zS (fun p => zex (fun s => (a 7 s == n) && zpt a s p) s))) → ∃ τ, fX2_circles_25 N f (nI s) σ = fX2_circles_61 N N 0 τ ∧ (∀ k, k ≠ 20 → τ.1 k = σ.1 k) ∧ ∀ n, n < a 0 0 → τ.1 20 n = nI (zS (zwf a 0 n))
  | 0, f + 1, s, σ, h, _, hs, hr => by
    have h16 := ho.2.1
    rw [fX2_circles_25, h.2.1, if_pos (nI_le (by omega) (by omega))]
    refine ⟨σ, rfl, fun _ _ => rfl, fun n hn => ?_⟩
    rw [hr n hn, show s = a 0 1 by omega]
    rfl
  | g + 1, f + 1, s, σ, h, hf, hs, hr => by
    have h16 := ho.2.1
    have h20 := ho.1
    obtain ⟨o1, o2, o3, -⟩ := ho.2.2.2.2 s (by omega)
    obtain ⟨c1, c2, c3, c4, -⟩ := h.2.2.2.2 s (by omega)
    rw [fX2_circles_25, h.2.1, if_neg (nI_ge (by omega) (by omega)), zag_nI (by omega) (by omega), c2, zag_nI (by omega) (by omega), hr _ o2, zag_nI (by omega) (by omega), c4, zas_nI (by omega) (by omega), zS_or, nI_1]
    obtain ⟨τ, e1, e2, e3⟩ := zcc_edges (N := N) ho g f (s + 1) (zsi σ 20 (a 7 s) (nI (zS (fun p => zex (fun s' => (a 7 s' == a 7 s) && zpt a s' p) s || zpt a s p)))) (zCN_fr h (fun k q1 q2 => zsi_c (by omega))) (by omega) (by omega) (fun n hn => by
      by_cases q : n = a 7 s
      · rw [q, zsi_s]
        refine zS_eq.mpr (fun p hp => ?_)
        rw [zex]
        simp
      · rw [zsi_o q, hr n hn]
        refine zS_eq.mpr (fun p hp => ?_)
        rw [zex]
        have : (a 7 s == n) = false := by simp; exact fun e => q e.symm
        rw [this]; simp)
    exact ⟨τ, e1, fun k hk => (e2 k hk).trans (zsi_c hk), e3⟩
theorem zwk_self {R : Nat → Nat → Bool} {k : Nat} : zwk R k k = R k := by
  funext p
  unfold zwk
  cases R k p <;> cases R k k <;> rfl
theorem zcc_in {N k : Nat} {a : zA} {R : Nat → Nat → Bool} {k61 : Int32 → zSt → Option (Int32 × zSt)} (ho : zOk a) (hk : k < a 0 0) : ∀ (g f i : Nat) (σ : zSt), zCN σ a → g < f → i + g = a 0 0 → (∀ n, n < a 0 0 → σ.1 20 n = nI (zS (if n < i then zwk R k n else R n))) → ∃ τ, fX2_circles_71 N k61 f (nI k) (nI i) σ = k61 (nI (k + 1)) τ ∧ (∀ k, k ≠ 20 → τ.1 k = σ.1 k) ∧ ∀ n, n < a 0 0 → τ.1 20 n = nI (zS (zwk R k n))
  | 0, f + 1, i, σ, h, _, hi, hr => by
    have h20 := ho.1
    rw [fX2_circles_71, h.1, if_pos (nI_le (by omega) (by omega)), nI_1]
    refine ⟨σ, rfl, fun _ _ => rfl, fun n hn => ?_⟩
    rw [hr n hn, if_pos (by omega)]
  | g + 1, f + 1, i, σ, h, hf, hi, hr => by
    have h20 := ho.1
    have ri : σ.1 20 i = nI (zS (R i)) := by
      have := hr i (by omega)
      rw [if_neg (by omega)] at this
      exact this
    have rk : σ.1 20 k = nI (zS (R k)) := by
      have := hr k hk
      by_cases q : k < i
      · rw [if_pos q, zwk_self] at this
        exact this
      · rw [if_neg q] at this
        exact this
    rw [fX2_circles_71, h.1, if_neg (nI_ge (by omega) (by omega)), zag_nI (by omega) (by omega), ri, zbitAt (by omega), zbnd_some]
    cases hz : R i k
    · rw [if_neg (show ¬ false = true by decide), if_neg (show ¬ nI 0 = (1 : Int32) by decide), nI_1]
      refine zcc_in (N := N) ho hk g f (i + 1) σ h (by omega) (by omega) (fun n hn => ?_)
      by_cases q : n = i
      · rw [q, if_pos (by omega), ri]
        refine zS_eq.mpr (fun p hp => ?_)
        unfold zwk
        rw [hz]; simp
      · rw [hr n hn]
        by_cases w : n < i
        · rw [if_pos w, if_pos (by omega)]
        · rw [if_neg w, if_neg (by omega)]
    · rw [if_pos rfl, if_pos (show nI 1 = (1 : Int32) from rfl), zag_nI (by omega) (by omega), ri, zag_nI (by omega) (by omega), rk, zas_nI (by omega) (by omega), zS_or, nI_1]
      obtain ⟨τ, e1, e2, e3⟩ := zcc_in (N := N) (R := R) (k61 := k61) ho hk g f (i + 1) (zsi σ 20 i (nI (zS (fun p => R i p || R k p)))) (zCN_fr h (fun k q1 q2 => zsi_c (by omega))) (by omega) (by omega) (fun n hn => by
        by_cases q : n = i
        · rw [q, if_pos (by omega), zsi_s]
          refine zS_eq.mpr (fun p hp => ?_)
          unfold zwk
          rw [hz]; simp
        · rw [zsi_o q, hr n hn]
          by_cases w : n < i
          · rw [if_pos w, if_pos (by omega)]
          · rw [if_neg w, if_neg (by omega)])
      exact ⟨τ, e1, fun k hk => (e2 k hk).trans (zsi_c hk), e3⟩
theorem zcc_out {N : Nat} {a : zA} (ho : zOk a) (hN : 600000 ≤ N) : ∀ (g f k : Nat) (σ : zSt), zCN σ a → g < f → k + g = a 0 0 → (∀ n, n < a 0 0 → σ.1 20 n = nI (zS (zwf a k n))) → ∃ τ, fX2_circles_61 N f (nI k) σ = fX2_circles_124 N N 0 0 τ ∧ (∀ k, k ≠ 20 → τ.1 k = σ.1 k) ∧ ∀ n, n < a 0 0 → τ.1 20 n = nI (zS (zwf a (a 0 0) n))
  | 0, f + 1, k, σ, h, _, hk, hr => by
    have h20 := ho.1
    rw [fX2_circles_61, h.1, if_pos (nI_le (by omega) (by omega))]
    refine ⟨σ, rfl, fun _ _ => rfl, fun n hn => ?_⟩
    rw [hr n hn, show k = a 0 0 by omega]
  | g + 1, f + 1, k, σ, h, hf, hk, hr => by
    have h20 := ho.1
    obtain ⟨τ, e1, e2, e3⟩ := zcc_in (N := N) (R := zwf a k) (k61 := fX2_circles_61 N f) ho (show k < a 0 0 by omega) (a 0 0) N 0 σ h (by omega) (by omega) (fun n hn => by rw [if_neg (by omega)]; exact hr n hn)
    have e1 : fX2_circles_71 N (fX2_circles_61 N f) N (nI k) 0 σ = _ := e1
    obtain ⟨υ, d1, d2, d3⟩ := zcc_out (N := N) ho hN g f (k + 1) τ (zCN_fr h (fun k q1 q2 => e2 k (by omega))) (by omega) (by omega) e3
    rw [fX2_circles_61, h.1, if_neg (nI_ge (by omega) (by omega)), e1, d1]
    exact ⟨υ, rfl, fun k hk => (d2 k hk).trans (e2 k hk), d3⟩
theorem zcc_end {N : Nat} {a : zA} {R : Nat → Nat → Bool} {σ : zSt} (ho : zOk a) (h : zCN σ a) (hr : ∀ n, n < a 0 0 → σ.1 20 n = nI (zS (R n))) : ∀ (g f i : Nat), g < f → i + g = a 0 0 → fX2_circles_124 N f (nI (zS (fun n => decide (n < i) && R n n))) (nI i) σ = some (nI (zS (fun n => decide (n < a 0 0) && R n n)), σ)
  | 0, f + 1, i, _, hi => by
    have h20 := ho.1
    rw [fX2_circles_124, h.1, if_pos (nI_le (by omega) (by omega)), show i = a 0 0 by omega]
  | g + 1, f + 1, i, hf, hi => by
    have h20 := ho.1
    rw [fX2_circles_124, h.1, if_neg (nI_ge (by omega) (by omega)), zag_nI (by omega) (by omega), hr i (by omega), znm_eq, zS_shl (by omega), zS_and, zS_or, nI_1]
    have e : nI (zS (fun n => decide (n < i) && R n n || R i n && n == i)) = nI (zS (fun n => decide (n < i + 1) && R n n)) := zS_eq.mpr (fun n hn => by
      by_cases q : n = i
      · subst q
        have e1 : decide (n < n) = false := by simp
        have e2 : decide (n < n + 1) = true := by simp
        rw [e1, e2]; simp
      · have e1 : (n == i) = false := by simp; exact q
        have e2 : decide (n < i) = decide (n < i + 1) := by
          by_cases z : n < i
          · rw [decide_eq_true z, decide_eq_true (by omega)]
          · rw [decide_eq_false z, decide_eq_false (by omega)]
        rw [e1, e2, Bool.and_false, Bool.or_false])
    rw [e]
    exact zcc_end ho h hr g f (i + 1) (by omega) (by omega)
theorem zccircles {N : Nat} {a : zA} {σ : zSt} (h : zCN σ a) (ho : zOk a) (hN : 600000 ≤ N) : ∃ τ, fX2_circles N σ = some (nI (zS (fun n => decide (n < a 0 0) && zwf a (a 0 0) n n)), τ) ∧ ∀ k, k ≠ 20 → τ.1 k = σ.1 k := by
  have h20 := ho.1
  have h16 := ho.2.1
  have keep : ∀ {τ υ : zSt}, zCN τ a → (∀ k, k ≠ 20 → υ.1 k = τ.1 k) → zCN υ a := fun h hk => zCN_fr h (fun k q1 q2 => hk k (by omega))
  obtain ⟨τ1, a1, a2, a3⟩ := zcc_zero (N := N) ho (a 0 0) N 0 σ h (by omega) (by omega)
  have a1 : fX2_circles N σ = _ := a1
  obtain ⟨τ2, b1, b2, b3⟩ := zcc_edges (N := N) ho (a 0 1) N 0 τ1 (keep h a2) (by omega) (by omega) (fun n hn => by
    rw [a3 n hn, if_pos (Nat.zero_le n)]
    have : zS (fun p => zex (fun s => (a 7 s == n) && zpt a s p) 0) = 0 := zS_0
    rw [this]; rfl)
  have b1 : fX2_circles_25 N N 0 τ1 = _ := b1
  obtain ⟨τ3, c1, c2, c3⟩ := zcc_out (N := N) ho hN (a 0 0) N 0 τ2 (keep (keep h a2) b2) (by omega) (by omega) b3
  have c1 : fX2_circles_61 N N 0 τ2 = _ := c1
  have d := zcc_end (N := N) ho (keep (keep (keep h a2) b2) c2) c3 (a 0 0) N 0 (by omega) (by omega)
  rw [← zacc_0] at d
  have d : fX2_circles_124 N N 0 0 τ3 = _ := d
  refine ⟨τ3, ?_, fun k hk => (c2 k hk).trans ((b2 k hk).trans (a2 k hk))⟩
  rw [a1, b1, c1, d]
/-! the reference -/
def zre (a : zA) (c : Nat) (P : Nat → Bool) (s n : Nat) : Bool := P n || zex (fun s => ((a 7 s == c) || P (a 7 s)) && zpt a s n) s
theorem zmre_in {N c s : Nat} {a : zA} {ρ : zSt} {P Q : Nat → Bool} {k4 : Int32 → Int32 → Int32 → zSt → Option (Int32 × zSt)} {k14 : Int32 → Int32 → Int32 → Int32 → zSt → Option (Int32 × zSt)} (h : zMN ρ a) (ho : zOk a) (hs : s < a 0 1) (hc : c < 20) : ∀ (g f k : Nat), g < f → k + g = a 8 s → fX8_reachedFrom_26 N k4 k14 f (nI c) (nI (zS P)) (nI (zS (fun n => Q n || (((a 7 s == c) || P (a 7 s)) && zim (fun j => a 9 (6 * s + j)) k n)))) (nI s) (nI k) ρ = k14 (nI c) (nI (zS P)) (nI (zS (fun n => Q n || (((a 7 s == c) || P (a 7 s)) && zpt a s n)))) (nI (s + 1)) ρ
  | 0, f + 1, k, _, hk => by
    have h16 := ho.2.1
    obtain ⟨o1, o2, o3, o4, o5, o6, -⟩ := ho.2.2.2.2 s hs
    obtain ⟨m1, m2, m3, m4, -⟩ := h.2.2.2.2 s hs
    rw [fX8_reachedFrom_26, zag_nI (by omega) (by omega), m3, if_pos (nI_le (by omega) (by omega)), nI_1, show k = a 8 s by omega]
    rfl
  | g + 1, f + 1, k, hf, hk => by
    have h16 := ho.2.1
    have h20 := ho.1
    obtain ⟨o1, o2, o3, o4, o5, o6, -⟩ := ho.2.2.2.2 s hs
    obtain ⟨m1, m2, m3, m4, -⟩ := h.2.2.2.2 s hs
    have o6k := o6 k (by omega)
    have ih := zmre_in (N := N) (P := P) (Q := Q) (k4 := k4) (k14 := k14) h ho hs hc g f (k + 1) (by omega) (by omega)
    have yes : ((a 7 s == c) || P (a 7 s)) = true → fX8_reachedFrom_66 N k4 k14 (fX8_reachedFrom_26 N k4 k14 f) (nI c) (nI (zS P)) (nI s) (nI k) (nI (zS (fun n => Q n || (((a 7 s == c) || P (a 7 s)) && zim (fun j => a 9 (6 * s + j)) k n)))) ρ = k14 (nI c) (nI (zS P)) (nI (zS (fun n => Q n || (((a 7 s == c) || P (a 7 s)) && zpt a s n)))) (nI (s + 1)) ρ := by
      intro ht
      rw [fX8_reachedFrom_66, z6, zag_nI (by omega) (by omega), m4 k (by omega), fX8_reachedFrom_85, znm_eq, zS_shl (by omega), zS_or, nI_1]
      have e : nI (zS (fun n => (Q n || (((a 7 s == c) || P (a 7 s)) && zim (fun j => a 9 (6 * s + j)) k n)) || n == a 9 (6 * s + k))) = nI (zS (fun n => Q n || (((a 7 s == c) || P (a 7 s)) && zim (fun j => a 9 (6 * s + j)) (k + 1) n))) := zS_eq.mpr (fun n hn => by
        rw [zim, ht]
        have : (n == a 9 (6 * s + k)) = (a 9 (6 * s + k) == n) := by
          by_cases q : n = a 9 (6 * s + k)
          · rw [q]
          · have q1 : (n == a 9 (6 * s + k)) = false := by simp; exact q
            have q2 : (a 9 (6 * s + k) == n) = false := by simp; exact fun e => q e.symm
            rw [q1, q2]
        rw [this]
        cases Q n <;> simp)
      rw [e]
      exact ih
    rw [fX8_reachedFrom_26, zag_nI (by omega) (by omega), m3, if_neg (nI_ge (by omega) (by omega)), zag_nI (by omega) (by omega), m2]
    by_cases q : a 7 s = c
    · rw [if_pos (by rw [q])]
      exact yes (by rw [q]; simp)
    · have q1 : (a 7 s == c) = false := by simp; exact q
      rw [if_neg (fun z => q ((nI_eq (by omega) (by omega)).mp z)), zag_nI (by omega) (by omega), m2, zS_at (by omega)]
      cases hz : P (a 7 s)
      · rw [if_neg (show ¬ false = true by decide), if_neg (show ¬ nI 0 = (1 : Int32) by decide), fX8_reachedFrom_85, znm_eq, zor0, nI_1]
        rw [q1, hz] at ih
        rw [q1]
        have e : ∀ k, nI (zS (fun n => Q n || ((false || false) && zim (fun j => a 9 (6 * s + j)) k n))) = nI (zS Q) := fun k => zS_eq.mpr (fun n hn => by simp)
        rw [e] at ih ⊢
        exact ih
      · rw [if_pos rfl, if_pos (show nI 1 = (1 : Int32) from rfl)]
        have y := yes (by rw [hz]; simp)
        rw [hz] at y
        exact y
theorem zmre_out {N c : Nat} {a : zA} {ρ : zSt} {P : Nat → Bool} {k4 : Int32 → Int32 → Int32 → zSt → Option (Int32 × zSt)} (h : zMN ρ a) (ho : zOk a) (hc : c < 20) (hN : 600000 ≤ N) : ∀ (g f s : Nat), g < f → s + g = a 0 1 → fX8_reachedFrom_14 N k4 f (nI c) (nI (zS P)) (nI (zS (zre a c P s))) (nI s) ρ = k4 (nI c) (nI (zS (zre a c P (a 0 1)))) (if zS (zre a c P (a 0 1)) = zS P then 0 else 1) ρ
  | 0, f + 1, s, _, hs => by
    have h16 := ho.2.1
    have b1 := zS_lt (P := zre a c P (a 0 1))
    have b2 := zS_lt (P := P)
    rw [fX8_reachedFrom_14, h.2.1, if_pos (nI_le (by omega) (by omega)), show s = a 0 1 by omega]
    by_cases q : zS (zre a c P (a 0 1)) = zS P
    · rw [if_pos (by rw [q]), if_pos q, fX8_reachedFrom_111]
    · rw [if_neg (fun z => q ((nI_eq (by omega) (by omega)).mp z)), if_neg q, fX8_reachedFrom_111]
  | g + 1, f + 1, s, hf, hs => by
    have h16 := ho.2.1
    obtain ⟨o1, o2, o3, o4, o5, -⟩ := ho.2.2.2.2 s (by omega)
    have e := zmre_in (N := N) (P := P) (Q := zre a c P s) (k4 := k4) (k14 := fX8_reachedFrom_14 N k4 f) h ho (show s < a 0 1 by omega) hc (a 8 s) N 0 (by omega) (by omega)
    have e0 : nI (zS (fun n => zre a c P s n || (((a 7 s == c) || P (a 7 s)) && zim (fun j => a 9 (6 * s + j)) 0 n))) = nI (zS (zre a c P s)) := zS_eq.mpr (fun n hn => by rw [zim]; simp)
    have e1 : nI (zS (fun n => zre a c P s n || (((a 7 s == c) || P (a 7 s)) && zpt a s n))) = nI (zS (zre a c P (s + 1))) := zS_eq.mpr (fun n hn => by
      unfold zre
      rw [zex, Bool.or_assoc])
    rw [e0, e1] at e
    have e : fX8_reachedFrom_26 N k4 (fX8_reachedFrom_14 N k4 f) N (nI c) (nI (zS P)) (nI (zS (zre a c P s))) (nI s) 0 ρ = _ := e
    rw [fX8_reachedFrom_14, h.2.1, if_neg (nI_ge (by omega) (by omega)), e]
    exact zmre_out h ho hc hN g f (s + 1) (by omega) (by omega)
theorem zre_grow {a : zA} {c : Nat} {P : Nat → Bool} (h : ¬ zqq (zre a c P (a 0 1)) P) : fb_ct P 20 + 1 ≤ fb_ct (zre a c P (a 0 1)) 20 := by
  have up : ∀ n, P n = true → zre a c P (a 0 1) n = true := fun n hn => by unfold zre; rw [hn]; rfl
  have hex : ∃ n, n < 20 ∧ zre a c P (a 0 1) n = true ∧ P n = false := by
    refine Classical.byContradiction (fun hno => h (fun n hn => ?_))
    cases hp : P n
    · cases hr : zre a c P (a 0 1) n
      · rfl
      · exact absurd ⟨n, hn, hr, hp⟩ hno
    · rw [up n hp]
  obtain ⟨n, hn, h1, h2⟩ := hex
  have e1 := fb_ct_upd P true hn
  rw [h2, if_neg (by decide), if_pos rfl] at e1
  have e2 : fb_ct (fun k => if k = n then true else P k) 20 ≤ fb_ct (zre a c P (a 0 1)) 20 := fb_ct_sub (fun k hk hk2 => by
    by_cases q : k = n
    · rw [q]; exact h1
    · rw [if_neg q] at hk2
      exact up k hk2)
  omega
theorem zre_sound {a : zA} {c : Nat} {P : Nat → Bool} (ho : zOk a) (h : ∀ n, n < 20 → P n = true → zrch a c n) : ∀ n, n < 20 → zre a c P (a 0 1) n = true → zrch a c n := by
  intro n hn hr
  have h20 := ho.1
  unfold zre at hr
  rw [Bool.or_eq_true] at hr
  rcases hr with hr | hr
  · exact h n hn hr
  · obtain ⟨s, hs, e⟩ := zex_iff.mp hr
    have o2 := (ho.2.2.2.2 s hs).2.1
    simp only [Bool.and_eq_true, Bool.or_eq_true, beq_iff_eq] at e
    have ed : zed a (a 7 s) n = true := zex_iff.mpr ⟨s, hs, by simp [e.2]⟩
    rcases e.1 with q | q
    · rw [q] at ed
      exact zrch_1 ed
    · exact zrch_e (h _ (by omega) q) ed
theorem zre_all {a : zA} {c : Nat} {P : Nat → Bool} (ho : zOk a) (h : zqq (zre a c P (a 0 1)) P) (n : Nat) (hr : zrch a c n) : P n = true := by
  have h20 := ho.1
  have key := hr (fun q => P q = true ∧ q < 20) (fun q e => ?_) (fun m q hm e => ?_)
  · exact key.1
  · have hq := (zed_ok ho e).2.2
    refine ⟨?_, by omega⟩
    obtain ⟨s, hs, e⟩ := zex_iff.mp e
    rw [← h q (by omega)]
    unfold zre
    rw [Bool.or_eq_true]
    refine Or.inr (zex_iff.mpr ⟨s, hs, ?_⟩)
    simp only [Bool.and_eq_true, Bool.or_eq_true, beq_iff_eq] at e ⊢
    exact ⟨Or.inl e.1, e.2⟩
  · have hq := (zed_ok ho e).2.2
    refine ⟨?_, by omega⟩
    obtain ⟨s, hs, e⟩ := zex_iff.mp e
    rw [← h q (by omega)]
    unfold zre
    rw [Bool.or_eq_true]
    refine Or.inr (zex_iff.mpr ⟨s, hs, ?_⟩)
    simp only [Bool.and_eq_true, Bool.or_eq_true, beq_iff_eq] at e ⊢
    exact ⟨Or.inr (by rw [e.1]; exact hm.1), e.2⟩
theorem zmre_loop {N c : Nat} {a : zA} {ρ : zSt} (h : zMN ρ a) (ho : zOk a) (hc : c < 20) (hN : 600000 ≤ N) : ∀ (g f : Nat) (P : Nat → Bool), 20 ≤ fb_ct P 20 + g → g + 2 ≤ f → (∀ n, n < 20 → P n = true → zrch a c n) → ∃ Q, fX8_reachedFrom_4 N f (nI c) (nI (zS P)) 1 ρ = some (nI (zS Q), ρ) ∧ ∀ n, n < 20 → (Q n = true ↔ zrch a c n) := by
  have h16 := ho.2.1
  have turn : ∀ (f : Nat) (P : Nat → Bool), fX8_reachedFrom_4 N (f + 1) (nI c) (nI (zS P)) 1 ρ = fX8_reachedFrom_4 N f (nI c) (nI (zS (zre a c P (a 0 1)))) (if zS (zre a c P (a 0 1)) = zS P then 0 else 1) ρ := by
    intro f P
    have e := zmre_out (N := N) (P := P) (k4 := fX8_reachedFrom_4 N f) h ho hc hN (a 0 1) N 0 (by omega) (by omega)
    have e0 : zS (zre a c P 0) = zS P := zset_cong (fun n _ => by unfold zre; rw [zex, Bool.or_false])
    rw [e0] at e
    have e : fX8_reachedFrom_14 N (fX8_reachedFrom_4 N f) N (nI c) (nI (zS P)) (nI (zS P)) 0 ρ = _ := e
    rw [fX8_reachedFrom_4, if_neg (by decide), e]
  have fixed : ∀ (f : Nat) (P : Nat → Bool), zS (zre a c P (a 0 1)) = zS P → (∀ n, n < 20 → P n = true → zrch a c n) → ∃ Q, fX8_reachedFrom_4 N (f + 2) (nI c) (nI (zS P)) 1 ρ = some (nI (zS Q), ρ) ∧ ∀ n, n < 20 → (Q n = true ↔ zrch a c n) := by
    intro f P q hs
    refine ⟨P, ?_, fun n hn => ⟨hs n hn, zre_all ho (zS_qq.mp q) n⟩⟩
    rw [turn, if_pos q, fX8_reachedFrom_4, if_pos rfl, q]
  intro g
  induction g with
  | zero =>
    intro f P hP hf hs
    obtain ⟨f', rfl⟩ : ∃ f', f = f' + 2 := ⟨f - 2, by omega⟩
    refine fixed f' P (zS_qq.mpr (Classical.byContradiction (fun hno => ?_))) hs
    have := zre_grow hno
    have := fb_ct_le (zre a c P (a 0 1)) 20
    omega
  | succ g ih =>
    intro f P hP hf hs
    obtain ⟨f', rfl⟩ : ∃ f', f = f' + 2 := ⟨f - 2, by omega⟩
    by_cases q : zS (zre a c P (a 0 1)) = zS P
    · exact fixed f' P q hs
    · have hg := zre_grow (fun z => q (zS_qq.mpr z))
      rw [turn, if_neg q]
      exact ih (f' + 1) (zre a c P (a 0 1)) (by omega) (by omega) (zre_sound ho hs)
theorem zmreach {N c : Nat} {a : zA} {ρ : zSt} (h : zMN ρ a) (ho : zOk a) (hc : c < 20) (hN : 600000 ≤ N) : ∃ Q, fX8_reachedFrom N (nI c) ρ = some (nI (zS Q), ρ) ∧ ∀ n, n < 20 → (Q n = true ↔ zrch a c n) := by
  obtain ⟨Q, q1, q2⟩ := zmre_loop (N := N) h ho hc hN 20 N (fun _ => false) (by omega) (by omega) (fun n _ hn => absurd hn (by decide))
  rw [zS_0] at q1
  exact ⟨Q, q1, q2⟩
theorem zmcirc {N : Nat} {a : zA} {ρ : zSt} (h : zMN ρ a) (ho : zOk a) (hN : 600000 ≤ N) : ∀ (g f i : Nat), g < f → i + g = a 0 0 → fX8_shown_53 N f (nI (zS (fun n => decide (n < i) && ((a 1 n == 2) && zwf a (a 0 0) n n)))) (nI i) ρ = some (nI (zS (fun n => decide (n < a 0 0) && ((a 1 n == 2) && zwf a (a 0 0) n n))), ρ)
  | 0, f + 1, i, _, hi => by
    have h20 := ho.1
    rw [fX8_shown_53, h.1, if_pos (nI_le (by omega) (by omega)), show i = a 0 0 by omega]
  | g + 1, f + 1, i, hf, hi => by
    have h20 := ho.1
    have o1 := (ho.2.2.2.1 i (by omega)).1
    have ih := zmcirc (N := N) h ho hN g f (i + 1) (by omega) (by omega)
    rw [fX8_shown_53, h.1, if_neg (nI_ge (by omega) (by omega)), zag_nI (by omega) (by omega), (h.2.2.2.1 i (by omega)).1]
    by_cases q : a 1 i = 2
    · obtain ⟨Q, q1, q2⟩ := zmreach (N := N) (c := i) h ho (by omega) hN
      rw [if_pos (show nI (a 1 i) = (2 : Int32) by rw [q]; rfl), q1, zbnd_some, zS_at (by omega)]
      have e : Q i = zwf a (a 0 0) i i := Bool.eq_iff_iff.mpr ((q2 i (by omega)).trans (zwf_iff ho).symm)
      cases hz : Q i
      · rw [if_neg (show ¬ false = true by decide), if_neg (show ¬ nI 0 = (1 : Int32) by decide), fX8_shown_96, fX8_shown_97, znm_eq, zor0, nI_1, zacc_no (by rw [← e, hz, Bool.and_false])]
        exact ih
      · rw [if_pos rfl, if_pos (show nI 1 = (1 : Int32) from rfl), fX8_shown_97, znm_eq, zacc_yes (by omega) (by rw [← e, hz, q]; rfl), nI_1]
        exact ih
    · have q1 : (a 1 i == 2) = false := by simp; exact q
      rw [if_neg (show ¬ nI (a 1 i) = (2 : Int32) from fun z => q ((nI_eq (b := 2) (by omega) (by omega)).mp z)), fX8_shown_96, fX8_shown_97, znm_eq, zor0, nI_1, zacc_no (by rw [q1, Bool.false_and])]
      exact ih
theorem zp_shown {N : Nat} (hN : 600000 ≤ N) (x : Int32) : zP2 (fX7_shown N x) (fX8_shown N x) := by
  intro σ ρ hR
  have hR2 := zR_keep hR zKC_rfl (zKM_thr (σ := ρ))
  have hR' := hR2
  obtain ⟨a, ho, hc, hm, -⟩ := hR'
  have h20 := ho.1
  have e2 : (2 : Int64) = (nI 3 - 1).toInt64 := by decide
  have e0 : (0 : Int64) = (0 : Int32).toInt64 := by decide
  unfold fX7_shown fX8_shown
  rw [zpf_eq, e2, e0, zinM]
  rcases zw_ex (N := N) (n := 3) (x := x) (by decide) with ⟨w, hw, ew, q⟩ | ⟨hno, q⟩
  · obtain ⟨υ, s1, s2, s3⟩ := zmshown (N := N) hm ho hN
    have hm2 := zMN_30 hm s3
    rw [q, zbnd_some, if_neg (show ¬ (1 : Int32) = 0 by decide), s1, zbnd_some, zmclaims hm2 ho hN, zbnd_some, znm_eq, zS_and, ew]
    rcases (show w = 0 ∨ w = 1 ∨ w = 2 by omega) with z | z | z <;> subst z
    · rw [if_pos (show nI 0 = (0 : Int32) from rfl), zcshown hc ho hN, zbnd_some, zcclaims hc ho hN, zbnd_some, zS_and, if_neg (show ¬ (2 : Int32) ≤ nI 0 by decide), if_pos (show nI 0 = (0 : Int32) from rfl)]
      exact ⟨_, _, _, rfl, rfl, zR_keep hR2 zKC_rfl (zKM_30 s3)⟩
    · rw [if_neg (show ¬ nI 1 = (0 : Int32) by decide), if_pos (show nI 1 = (1 : Int32) from rfl), zcrounds hc ho hN, zbnd_some, if_neg (show ¬ (2 : Int32) ≤ nI 1 by decide), if_neg (show ¬ nI 1 = (0 : Int32) by decide), s2]
      exact ⟨_, _, _, rfl, rfl, zR_keep hR2 zKC_rfl (zKM_30 s3)⟩
    · obtain ⟨τ, t1, t2⟩ := zccircles (N := N) hc ho hN
      have r := zmcirc (N := N) hm2 ho hN (a 0 0) N 0 (by omega) (by omega)
      rw [← zacc_0] at r
      have r : fX8_shown_53 N N 0 0 υ = _ := r
      have e : nI (zS (fun n => decide (n < a 0 0) && ((a 1 n == 2) && zwf a (a 0 0) n n))) = nI (zS (fun n => decide (n < a 0 0) && zwf a (a 0 0) n n)) := zS_eq.mpr (fun n hn => by
        cases hz : zwf a (a 0 0) n n
        · simp
        · obtain ⟨p, hp⟩ := zrch_out ((zwf_iff ho).mp hz)
          have := (zed_ok ho hp).2.1
          rw [this]; simp)
      rw [e] at r
      rw [if_neg (show ¬ nI 2 = (0 : Int32) by decide), if_neg (show ¬ nI 2 = (1 : Int32) by decide), if_pos (show nI 2 = (2 : Int32) from rfl), t1, zbnd_some, if_pos (show (2 : Int32) ≤ nI 2 by decide), r]
      exact ⟨_, _, _, rfl, rfl, zR_keep hR2 ⟨fun k _ q _ _ _ _ _ _ => t2 k q, by rw [t2 5 (by decide)], by rw [t2 33 (by decide)]⟩ (zKM_30 s3)⟩
  · have nw : ∀ w, w < 3 → ¬ x = nI w := fun w hw ew => hno ⟨w, hw, ew⟩
    rw [q, zbnd_some, if_pos rfl, if_neg (show ¬ x = (0 : Int32) from nw 0 (by decide)), if_neg (show ¬ x = (1 : Int32) from nw 1 (by decide)), if_neg (show ¬ x = (2 : Int32) from nw 2 (by decide))]
    exact ⟨_, _, _, rfl, rfl, hR2⟩
