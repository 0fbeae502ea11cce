/-! ===== determinants, as far as pivots need them ===== -/
theorem fb_si_0 (f : Nat → Int) : fb_si f 0 = 0 := rfl
theorem fb_si_zero {f : Nat → Int} : ∀ {n : Nat}, (∀ k, k < n → f k = 0) → fb_si f n = 0
  | 0, _ => rfl
  | n + 1, h => by rw [fb_si_succ, fb_si_zero (fun k hk => h k (by omega)), h n (by omega)]; rfl
theorem fb_si_one {f : Nat → Int} {i : Nat} : ∀ {n : Nat}, i < n → (∀ k, k < n → k ≠ i → f k = 0) → fb_si f n = f i
  | 0, h, _ => absurd h (Nat.not_lt_zero _)
  | n + 1, hi, h => by
    rw [fb_si_succ]
    by_cases e : i = n
    · subst e
      rw [fb_si_zero (fun k hk => h k (by omega) (by omega)), Int.zero_add]
    · rw [fb_si_one (by omega) (fun k hk hk2 => h k (by omega) hk2), h n (by omega) (fun q => e q.symm), Int.add_zero]
theorem fb_si_two {f : Nat → Int} {i j : Nat} : ∀ {n : Nat}, i < n → j < n → i ≠ j → (∀ k, k < n → k ≠ i → k ≠ j → f k = 0) → fb_si f n = f i + f j
  | 0, h, _, _, _ => absurd h (Nat.not_lt_zero _)
  | n + 1, hi, hj, hij, h => by
    rw [fb_si_succ]
    by_cases e : i = n
    · subst e
      rw [fb_si_one (i := j) (by omega) (fun k hk hk2 => h k (by omega) (by omega) hk2), Int.add_comm]
    · by_cases e2 : j = n
      · subst e2
        rw [fb_si_one (i := i) (by omega) (fun k hk hk2 => h k (by omega) hk2 (by omega))]
      · rw [fb_si_two (by omega) (by omega) hij (fun k hk h1 h2 => h k (by omega) h1 h2), h n (by omega) (fun q => e q.symm) (fun q => e2 q.symm), Int.add_zero]
theorem fb_si_lin (x y : Int) (f g : Nat → Int) (n : Nat) : fb_si (fun k => x * f k + y * g k) n = x * fb_si f n + y * fb_si g n := by
  rw [fb_si_add (fun k => x * f k) (fun k => y * g k), fb_si_mul, fb_si_mul]
theorem fb_si_nonneg {f : Nat → Int} : ∀ {n : Nat}, (∀ k, k < n → 0 ≤ f k) → 0 ≤ fb_si f n
  | 0, _ => Int.le_refl 0
  | n + 1, h => by
    rw [fb_si_succ]
    have := fb_si_nonneg (f := f) (n := n) (fun k hk => h k (by omega))
    have := h n (by omega)
    omega
theorem fb_si_le1 {f : Nat → Int} {i : Nat} : ∀ {n : Nat}, i < n → (∀ k, k < n → 0 ≤ f k) → f i ≤ fb_si f n
  | 0, h, _ => absurd h (Nat.not_lt_zero _)
  | n + 1, hi, h => by
    rw [fb_si_succ]
    by_cases e : i = n
    · subst e
      have := fb_si_nonneg (f := f) (n := i) (fun k hk => h k (by omega))
      omega
    · have := fb_si_le1 (f := f) (n := n) (i := i) (by omega) (fun k hk => h k (by omega))
      have := h n (by omega)
      omega
/-- row numbers without i -/
def zsk (i a : Nat) : Nat := if a < i then a else a + 1
/-- where row i is when l is out -/
def zix (l i : Nat) : Nat := if i < l then i else i - 1
def zsg (i : Nat) : Int := if i % 2 = 0 then 1 else -1
def zdet : Nat → (Nat → Nat → Int) → Int
  | 0, _ => 1
  | k + 1, M => fb_si (fun i => zsg i * M i 0 * zdet k (fun a b => M (zsk i a) (b + 1))) (k + 1)
/-- M with row i put to v -/
def zrw (M : Nat → Nat → Int) (i : Nat) (v : Nat → Int) : Nat → Nat → Int := fun a b => if a = i then v b else M a b
theorem zsk_ne (i a : Nat) : zsk i a ≠ i := by unfold zsk; split <;> omega
theorem zsk_eq {l i a : Nat} (h : i ≠ l) : zsk l a = i ↔ a = zix l i := by
  unfold zsk zix
  split <;> split <;> omega
theorem zrw_minor_ne {M : Nat → Nat → Int} {l i : Nat} {v : Nat → Int} (h : i ≠ l) : (fun a b => zrw M i v (zsk l a) (b + 1)) = zrw (fun a b => M (zsk l a) (b + 1)) (zix l i) (fun b => v (b + 1)) := by
  funext a b
  unfold zrw
  by_cases e : zsk l a = i
  · rw [if_pos e, if_pos ((zsk_eq h).mp e)]
  · rw [if_neg e, if_neg (fun q => e ((zsk_eq h).mpr q))]
theorem zrw_minor_eq {M : Nat → Nat → Int} {i : Nat} {v : Nat → Int} : (fun a b => zrw M i v (zsk i a) (b + 1)) = (fun a b => M (zsk i a) (b + 1)) := by
  funext a b
  unfold zrw
  rw [if_neg (zsk_ne i a)]
theorem zix_lt {l i k : Nat} (hi : i < k + 1) (hl : l < k + 1) (h : i ≠ l) : zix l i < k := by
  unfold zix
  split <;> omega
theorem zdet_lin : ∀ (k : Nat) (M : Nat → Nat → Int) (i : Nat) (v w : Nat → Int) (x y : Int), i < k → zdet k (zrw M i (fun b => x * v b + y * w b)) = x * zdet k (zrw M i v) + y * zdet k (zrw M i w)
  | 0, _, _, _, _, _, _, h => absurd h (Nat.not_lt_zero _)
  | k + 1, M, i, v, w, x, y, hi => by
    unfold zdet
    rw [← fb_si_lin]
    refine fb_si_cong (fun l hl => ?_)
    by_cases e : i = l
    · subst e
      rw [zrw_minor_eq, zrw_minor_eq, zrw_minor_eq]
      show zsg i * (if i = i then x * v 0 + y * w 0 else M i 0) * _ = x * (zsg i * (if i = i then v 0 else M i 0) * _) + y * (zsg i * (if i = i then w 0 else M i 0) * _)
      rw [if_pos rfl, if_pos rfl, if_pos rfl]
      generalize zdet k (fun a b => M (zsk i a) (b + 1)) = q
      generalize zsg i = s
      rw [Int.mul_add, Int.add_mul]
      congr 1
      · rw [Int.mul_left_comm s x (v 0), Int.mul_assoc x]
      · rw [Int.mul_left_comm s y (w 0), Int.mul_assoc y]
    · rw [zrw_minor_ne e, zrw_minor_ne e, zrw_minor_ne e]
      have hz : ∀ u : Nat → Int, zrw M i u l 0 = M l 0 := fun u => if_neg (fun q => e q.symm)
      rw [hz, hz, hz, zdet_lin k _ (zix l i) (fun b => v (b + 1)) (fun b => w (b + 1)) x y (zix_lt hi hl e)]
      generalize zdet k (zrw (fun a b => M (zsk l a) (b + 1)) (zix l i) fun b => v (b + 1)) = q1
      generalize zdet k (zrw (fun a b => M (zsk l a) (b + 1)) (zix l i) fun b => w (b + 1)) = q2
      generalize zsg l * M l 0 = s
      rw [Int.mul_add, Int.mul_left_comm s x, Int.mul_left_comm s y]
theorem zsg_succ (i : Nat) : zsg (i + 1) = - zsg i := by
  unfold zsg
  rcases Nat.mod_two_eq_zero_or_one i with h | h
  · rw [if_neg (by omega), if_pos h]
  · rw [if_pos (by omega), if_neg (by omega)]; rfl
/-- two rows beside each other alike -/
theorem zdet_adj : ∀ (k : Nat) (M : Nat → Nat → Int) (i : Nat), i + 1 < k → (∀ b, M i b = M (i + 1) b) → zdet k M = 0
  | 0, _, _, h, _ => absurd h (Nat.not_lt_zero _)
  | k + 1, M, i, hi, h => by
    unfold zdet
    rw [fb_si_two (i := i) (j := i + 1) (by omega) hi (by omega) (fun l hl h1 h2 => ?_)]
    · have e : (fun a b => M (zsk i a) (b + 1)) = (fun a b => M (zsk (i + 1) a) (b + 1)) := by
        funext a b
        by_cases ha : a = i
        · subst ha
          have e1 : zsk a a = a + 1 := by unfold zsk; rw [if_neg (by omega)]
          have e2 : zsk (a + 1) a = a := by unfold zsk; rw [if_pos (by omega)]
          rw [e1, e2, h]
        · have : zsk i a = zsk (i + 1) a := by unfold zsk; split <;> split <;> omega
          rw [this]
      rw [e, zsg_succ, h 0, Int.neg_mul, Int.neg_mul, Int.add_right_neg]
    · rw [zdet_adj k _ (zix l i) (by unfold zix; split <;> omega) (fun b => ?_), Int.mul_zero]
      have e1 : zsk l (zix l i) = i := (zsk_eq (fun q => h1 q.symm)).mpr rfl
      have e2 : zsk l (zix l i + 1) = i + 1 := by
        refine (zsk_eq (fun q => h2 q.symm)).mpr ?_
        unfold zix
        split <;> split <;> omega
      rw [e1, e2]
      exact h _
theorem zrw_self {M : Nat → Nat → Int} {i : Nat} : zrw M i (M i) = M := by
  funext a b
  unfold zrw
  split
  · next h => rw [h]
  · rfl
theorem zrw_comm {M : Nat → Nat → Int} {i j : Nat} {v w : Nat → Int} (h : i ≠ j) : zrw (zrw M i v) j w = zrw (zrw M j w) i v := by
  funext a b
  unfold zrw
  split
  · next h1 => subst h1; rw [if_neg (fun q => h q.symm)]
  · rfl
theorem zrw_rw {M : Nat → Nat → Int} {i : Nat} {v w : Nat → Int} : zrw (zrw M i v) i w = zrw M i w := by
  funext a b
  unfold zrw
  split <;> rfl
theorem zrw_at {M : Nat → Nat → Int} {i : Nat} {v : Nat → Int} : zrw M i v i = v := by funext b; exact if_pos rfl
theorem zrw_out {M : Nat → Nat → Int} {i j : Nat} {v : Nat → Int} (h : j ≠ i) : zrw M i v j = M j := by funext b; exact if_neg h
/-- if alike rows at i, j always give 0, then exchanged rows change the sign -/
theorem zdet_swap_of {k : Nat} {M : Nat → Nat → Int} {i j : Nat} (hi : i < k) (hj : j < k) (hij : i ≠ j) (hz : ∀ u : Nat → Int, zdet k (zrw (zrw M i u) j u) = 0) (v w : Nat → Int) : zdet k (zrw (zrw M i v) j w) = - zdet k (zrw (zrw M i w) j v) := by
  have l1 := fun (u : Nat → Int) => zdet_lin k (zrw M i u) j v w 1 1 hj
  have l2 := fun (u : Nat → Int) => zdet_lin k (zrw M j u) i v w 1 1 hi
  have hs := hz (fun b => 1 * v b + 1 * w b)
  rw [l1, zrw_comm hij, zrw_comm hij, l2, l2, zrw_comm (fun q => hij q.symm), zrw_comm (fun q => hij q.symm), zrw_comm (fun q => hij q.symm), zrw_comm (fun q => hij q.symm), hz v, hz w] at hs
  omega
/-- two rows alike -/
theorem zdet_eq : ∀ (g k : Nat) (M : Nat → Nat → Int) (i : Nat), i + 1 + g < k → (∀ b, M i b = M (i + 1 + g) b) → zdet k M = 0
  | 0, k, M, i, hi, h => zdet_adj k M i hi h
  | g + 1, k, M, i, hi, h => by
    have hz : ∀ u : Nat → Int, zdet k (zrw (zrw M (i + 1 + g) u) (i + 1 + g + 1) u) = 0 := fun u => zdet_adj k _ (i + 1 + g) (by omega) (fun b => by
      rw [zrw_at, zrw_out (by omega), zrw_at])
    have hs := zdet_swap_of (M := M) (i := i + 1 + g) (j := i + 1 + g + 1) (by omega) (by omega) (by omega) hz (M (i + 1 + g)) (M (i + 1 + g + 1))
    rw [zrw_self, zrw_self] at hs
    rw [hs, zdet_eq g k _ i (by omega) (fun b => ?_)]
    · rfl
    · rw [zrw_out (by omega), zrw_out (by omega), zrw_out (by omega), zrw_at]
      exact h b
theorem zdet_alike {k : Nat} {M : Nat → Nat → Int} {i j : Nat} (hi : i < k) (hj : j < k) (hij : i ≠ j) (h : ∀ b, M i b = M j b) : zdet k M = 0 := by
  rcases Nat.lt_or_gt_of_ne hij with q | q
  · exact zdet_eq (j - i - 1) k M i (by omega) (fun b => by rw [show i + 1 + (j - i - 1) = j by omega]; exact h b)
  · exact zdet_eq (i - j - 1) k M j (by omega) (fun b => by rw [show j + 1 + (i - j - 1) = i by omega]; exact (h b).symm)
theorem zdet_swap {k : Nat} {M : Nat → Nat → Int} {i j : Nat} (hi : i < k) (hj : j < k) (hij : i ≠ j) (v w : Nat → Int) : zdet k (zrw (zrw M i v) j w) = - zdet k (zrw (zrw M i w) j v) :=
  zdet_swap_of hi hj hij (fun u => zdet_alike hi hj hij (fun b => by rw [zrw_out hij, zrw_at, zrw_at])) v w
/-- a row that is a sum -/
theorem zdet_sum {k : Nat} {M : Nat → Nat → Int} {i : Nat} (hi : i < k) (f : Nat → Int) (g : Nat → Nat → Int) : ∀ n : Nat, zdet k (zrw M i (fun b => fb_si (fun a => f a * g a b) n)) = fb_si (fun a => f a * zdet k (zrw M i (g a))) n
  | 0 => by
    have h := zdet_lin k M i (fun _ => 0) (fun _ => 0) 0 0 hi
    have e : (fun b => fb_si (fun a => f a * g a b) 0) = (fun _ : Nat => (0 : Int) * 0 + 0 * 0) := by funext b; rfl
    rw [e, h]
    simp [fb_si_0]
  | n + 1 => by
    have h := zdet_lin k M i (fun b => fb_si (fun a => f a * g a b) n) (g n) 1 (f n) hi
    have e : (fun b => fb_si (fun a => f a * g a b) (n + 1)) = (fun b => 1 * fb_si (fun a => f a * g a b) n + f n * g n b) := by
      funext b
      rw [fb_si_succ, Int.one_mul]
    rw [e, h, zdet_sum hi f g n, fb_si_succ, Int.one_mul]
theorem zdet_scale {k : Nat} {M : Nat → Nat → Int} {i : Nat} (hi : i < k) (x : Int) (v : Nat → Int) : zdet k (zrw M i (fun b => x * v b)) = x * zdet k (zrw M i v) := by
  have h := zdet_lin k M i v v x 0 hi
  have e : (fun b => x * v b + 0 * v b) = (fun b => x * v b) := by funext b; omega
  rw [e] at h
  rw [h]
  omega
theorem zdet_cong : ∀ {k : Nat} {M M' : Nat → Nat → Int}, (∀ i b, i < k → b < k → M i b = M' i b) → zdet k M = zdet k M'
  | 0, _, _, _ => rfl
  | k + 1, M, M', h => by
    unfold zdet
    refine fb_si_cong (fun i hi => ?_)
    rw [h i 0 hi (by omega), zdet_cong (M' := fun a b => M' (zsk i a) (b + 1)) (fun a b ha hb => h _ _ (by unfold zsk; split <;> omega) (by omega))]
theorem zfact_pos : ∀ n : Nat, 0 < Nat.rec (motive := fun _ => Nat) 1 (fun k v => (k + 1) * v) n := by
  intro n
  induction n with
  | zero => exact Nat.one_pos
  | succ n ih => exact Nat.mul_pos (Nat.succ_pos n) ih
def zfac : Nat → Nat
  | 0 => 1
  | n + 1 => (n + 1) * zfac n
theorem zsg_abs (i : Nat) : zsg i = 1 ∨ zsg i = -1 := by unfold zsg; split <;> simp
/-- a determinant whose first numbers are at most B, the others at most 1 -/
theorem zdet_bound1 : ∀ (k : Nat) (M : Nat → Nat → Int), (∀ i b, i < k → b < k → -1 ≤ M i b ∧ M i b ≤ 1) → -(zfac k : Int) ≤ zdet k M ∧ zdet k M ≤ (zfac k : Int)
  | 0, _, _ => by unfold zdet zfac; decide
  | k + 1, M, h => by
    unfold zdet
    have key : ∀ i, i < k + 1 → -(zfac k : Int) ≤ zsg i * M i 0 * zdet k (fun a b => M (zsk i a) (b + 1)) ∧ zsg i * M i 0 * zdet k (fun a b => M (zsk i a) (b + 1)) ≤ (zfac k : Int) := by
      intro i hi
      have hb := zdet_bound1 k (fun a b => M (zsk i a) (b + 1)) (fun a b ha hb => h _ _ (by unfold zsk; split <;> omega) (by omega))
      generalize zdet k (fun a b => M (zsk i a) (b + 1)) = q at hb ⊢
      have hm := h i 0 hi (by omega)
      generalize M i 0 = x at hm ⊢
      rcases (show x = -1 ∨ x = 0 ∨ x = 1 by omega) with e | e | e <;> rcases zsg_abs i with s | s <;> rw [e, s] <;> omega
    have := fb_si_bound (c := (zfac k : Int)) (by omega) key
    unfold zfac
    constructor
    · have h1 := this.1
      push_cast at h1 ⊢
      exact h1
    · have h2 := this.2
      push_cast at h2 ⊢
      exact h2
