/-! ===== where a tableau begins, and how large its numbers are ===== -/
def zId (a b : Nat) : Int := if a = b then 1 else 0
theorem zdet_id : ∀ k : Nat, zdet k zId = 1
  | 0 => rfl
  | k + 1 => by
    unfold zdet
    rw [fb_si_one (i := 0) (by omega) (fun i hi h => by show zsg i * (if i = 0 then 1 else 0) * _ = 0; rw [if_neg h, Int.mul_zero, Int.zero_mul])]
    have e : (fun a b => zId (zsk 0 a) (b + 1)) = zId := by
      funext a b
      have e0 : zsk 0 a = a + 1 := by unfold zsk; exact if_neg (by omega)
      show zId (zsk 0 a) (b + 1) = zId a b
      rw [e0]
      unfold zId
      by_cases h : a = b
      · rw [if_pos (show a + 1 = b + 1 by omega), if_pos h]
      · rw [if_neg (show ¬ a + 1 = b + 1 by omega), if_neg h]
    rw [e, zdet_id k]
    rfl
theorem zdet_id_rw {k i : Nat} (hi : i < k) (v : Nat → Int) : zdet k (zrw zId i v) = v i := by
  have e : zdet k (zrw zId i v) = zdet k (zrw zId i (fun b => fb_si (fun a => v a * zId a b) k)) := by
    refine zdet_cong (fun a b ha hb => ?_)
    unfold zrw
    split
    · dsimp only
      rw [fb_si_one (i := b) hb (fun c hc h => by show v c * (if c = b then 1 else 0) = 0; rw [if_neg h, Int.mul_zero])]
      show v b = v b * (if b = b then 1 else 0)
      rw [if_pos rfl, Int.mul_one]
    · rfl
  rw [e, zdet_sum hi, fb_si_one (i := i) hi (fun c hc h => ?_)]
  · rw [zrw_self, zdet_id, Int.mul_one]
  · rw [zdet_alike (i := i) (j := c) hi hc (fun q => h q.symm) (fun b => by rw [zrw_at, zrw_out h]), Int.mul_zero]
theorem zTab_init {m n B : Nat} (hB : n ≤ B) (t0 : Nat → Nat → Int) : zTab m n B t0 t0 1 (fun r => B + r) (fun c => c) := by
  have hM : ∀ i b, i < n + 1 → zMn n B t0 (fun c => c) i b = zId i b := by
    intro i b hi
    unfold zMn zId zG
    dsimp only
    by_cases h0 : i = 0
    · subst h0
      rw [if_pos rfl]
      by_cases hb : b = 0
      · rw [if_pos hb, if_pos hb.symm]
      · rw [if_neg hb, if_neg (fun q => hb q.symm)]
    · rw [if_neg h0, if_pos (by omega)]
      by_cases hb : b = i - 1 + 1
      · rw [if_pos hb, if_pos (by omega)]
      · rw [if_neg hb, if_neg (by omega)]
  have hR : ∀ i v, i < n + 1 → zdet (n + 1) (zrw (zMn n B t0 (fun c => c)) i v) = v i := by
    intro i v hi
    rw [← zdet_id_rw hi v]
    refine zdet_cong (fun a b ha hb => ?_)
    unfold zrw
    split
    · rfl
    · exact hM a b ha
  refine ⟨by decide, fun x x0 => Iff.rfl, ⟨1, Or.inl rfl, ?_, fun r hr => ⟨fun c hc => ?_, ?_⟩⟩, ⟨fun a b _ _ e => by have e : B + a = B + b := e; omega, fun a b _ _ e => e, fun a b _ hb e => by have e : B + a = b := e; omega, fun a ha => Or.inr ⟨show B ≤ B + a by omega, show B + a < B + m by omega⟩, fun a ha => Or.inl ha, fun v hv => ?_⟩⟩
  · rw [zdet_cong (fun a b ha _ => hM a b ha), zdet_id]
    rfl
  · rw [hR _ _ (by omega)]
    unfold zG
    dsimp only
    rw [if_neg (show ¬ B + r < n by omega), if_neg (show ¬ c + 1 = 0 by omega), Nat.add_sub_cancel_left, Nat.add_sub_cancel]
    omega
  · rw [hR _ _ (by omega)]
    unfold zG
    dsimp only
    rw [if_neg (show ¬ B + r < n by omega), if_pos rfl, Nat.add_sub_cancel_left]
    omega
  · rcases hv with h | ⟨h1, h2⟩
    · exact Or.inl ⟨v, h, rfl⟩
    · exact Or.inr ⟨v - B, by omega, show B + (v - B) = v by omega⟩
theorem zdet_zrow {k : Nat} {M : Nat → Nat → Int} {i : Nat} (hi : i < k) (h : ∀ b, b < k → M i b = 0) : zdet k M = 0 := by
  have e : zdet k M = zdet k (zrw M i (fun b => 0 * M i b)) := by
    refine zdet_cong (fun a b ha hb => ?_)
    unfold zrw
    split
    · next q => dsimp only; rw [q, h b hb, Int.zero_mul]
    · rfl
  rw [e, zdet_scale hi, Int.zero_mul]
/-- with the first row that of the bounds alone -/
theorem zdet_bound0 {n : Nat} {M : Nat → Nat → Int} (h0 : ∀ b, M 0 b = if b = 0 then 1 else 0) (h : ∀ i b, i < n → b < n → -1 ≤ M (i + 1) (b + 1) ∧ M (i + 1) (b + 1) ≤ 1) : -(zfac n : Int) ≤ zdet (n + 1) M ∧ zdet (n + 1) M ≤ (zfac n : Int) := by
  have e : zdet (n + 1) M = zdet n (fun a b => M (a + 1) (b + 1)) := by
    show fb_si (fun i => zsg i * M i 0 * zdet n (fun a b => M (zsk i a) (b + 1))) (n + 1) = _
    rw [fb_si_one (i := 0) (by omega) (fun i hi hi0 => ?_)]
    · rw [h0 0, if_pos rfl]
      have e2 : (fun a b => M (zsk 0 a) (b + 1)) = (fun a b => M (a + 1) (b + 1)) := by
        funext a b
        unfold zsk
        rw [if_neg (by omega)]
      rw [e2]
      show 1 * 1 * _ = _
      omega
    · cases n with
      | zero => exact absurd hi (by omega)
      | succ n =>
        rw [zdet_zrow (i := 0) (by omega) (fun b hb => ?_), Int.mul_zero]
        have e3 : zsk i 0 = 0 := by unfold zsk; rw [if_pos (by omega)]
        show M (zsk i 0) (b + 1) = 0
        rw [e3, h0, if_neg (by omega)]
  rw [e]
  exact zdet_bound1 n _ h
theorem zdet_boundB {n : Nat} {M : Nat → Nat → Int} (h0 : ∀ i, i < n + 1 → -100 ≤ M i 0 ∧ M i 0 ≤ 100) (h : ∀ i b, i < n + 1 → b < n → -1 ≤ M i (b + 1) ∧ M i (b + 1) ≤ 1) : -((n + 1) * (100 * zfac n) : Int) ≤ zdet (n + 1) M ∧ zdet (n + 1) M ≤ ((n + 1) * (100 * zfac n) : Int) := by
  unfold zdet
  have key : ∀ i, i < n + 1 → -(100 * zfac n : Int) ≤ zsg i * M i 0 * zdet n (fun a b => M (zsk i a) (b + 1)) ∧ zsg i * M i 0 * zdet n (fun a b => M (zsk i a) (b + 1)) ≤ (100 * zfac n : Int) := by
    intro i hi
    have hb := zdet_bound1 n (fun a b => M (zsk i a) (b + 1)) (fun a b ha hb => h _ _ (by unfold zsk; split <;> omega) hb)
    generalize zdet n (fun a b => M (zsk i a) (b + 1)) = q at hb ⊢
    have hm := h0 i hi
    generalize M i 0 = x at hm ⊢
    have h1 : -100 ≤ zsg i * x ∧ zsg i * x ≤ 100 := by rcases zsg_abs i with s | s <;> rw [s] <;> omega
    generalize zsg i * x = y at h1 ⊢
    generalize (zfac n : Int) = F at hb ⊢
    have a1 : 0 ≤ (100 - y) * (F - q) := Int.mul_nonneg (by omega) (by omega)
    have a2 : 0 ≤ (100 + y) * (F + q) := Int.mul_nonneg (by omega) (by omega)
    have a3 : 0 ≤ (100 - y) * (F + q) := Int.mul_nonneg (by omega) (by omega)
    have a4 : 0 ≤ (100 + y) * (F - q) := Int.mul_nonneg (by omega) (by omega)
    constructor <;> grind
  have := fb_si_bound (c := (100 * zfac n : Int)) (by omega) key
  constructor
  · have h1 := this.1
    push_cast at h1 ⊢
    exact h1
  · have h2 := this.2
    push_cast at h2 ⊢
    exact h2
/-- the first tableau's numbers: 0, 1, -1; bounds up to 100 -/
def zSm (m n : Nat) (t0 : Nat → Nat → Int) : Prop := ∀ r, r < m → (∀ c, c < n → -1 ≤ t0 r c ∧ t0 r c ≤ 1) ∧ -100 ≤ t0 r n ∧ t0 r n ≤ 100
theorem zG_small {m n B : Nat} {t0 : Nat → Nat → Int} (h : zSm m n t0) {v : Nat} (hv : v < n ∨ (B ≤ v ∧ v < B + m)) (hB : n ≤ B) : (-100 ≤ zG n B t0 v 0 ∧ zG n B t0 v 0 ≤ 100) ∧ ∀ b, b < n → -1 ≤ zG n B t0 v (b + 1) ∧ zG n B t0 v (b + 1) ≤ 1 := by
  unfold zG
  rcases hv with hv | ⟨h1, h2⟩
  · rw [if_pos hv]
    refine ⟨by rw [if_neg (by omega)]; decide, fun b hb => ?_⟩
    rw [if_pos hv]
    split <;> decide
  · rw [if_neg (by omega), if_pos rfl]
    have := h (v - B) (by omega)
    refine ⟨this.2, fun b hb => ?_⟩
    rw [if_neg (by omega), if_neg (by omega), Nat.add_sub_cancel]
    have := this.1 b hb
    omega
theorem zTab_small {m n B : Nat} {t0 t : Nat → Nat → Int} {d : Int} {rn cn : Nat → Nat} (hB : n ≤ B) (h0 : zSm m n t0) (h : zTab m n B t0 t d rn cn) : d ≤ zfac n ∧ ∀ r, r < m → (∀ c, c < n → -(zfac n : Int) ≤ t r c ∧ t r c ≤ zfac n) ∧ -((n + 1) * (100 * zfac n) : Int) ≤ t r n ∧ t r n ≤ (n + 1) * (100 * zfac n) := by
  obtain ⟨σ, hσ, hd, hI⟩ := h.2.2.1
  have hN := h.2.2.2
  have hMn : ∀ i b, i < n → b < n → -1 ≤ zMn n B t0 cn (i + 1) (b + 1) ∧ zMn n B t0 cn (i + 1) (b + 1) ≤ 1 := by
    intro i b hi hb
    unfold zMn
    rw [if_neg (by omega), Nat.add_sub_cancel]
    exact (zG_small h0 (hN.2.2.2.2.1 i hi) hB).2 b hb
  have hM0 : ∀ b, zMn n B t0 cn 0 b = if b = 0 then 1 else 0 := fun b => if_pos rfl
  refine ⟨?_, fun r hr => ⟨fun c hc => ?_, ?_⟩⟩
  · have := zdet_bound0 hM0 hMn
    rcases hσ with e | e <;> rw [hd, e] <;> omega
  · have := (hI r hr).1 c hc
    have hb := zdet_bound0 (n := n) (M := zrw (zMn n B t0 cn) (c + 1) (zG n B t0 (rn r))) (fun b => by rw [zrw_out (by omega)]; exact hM0 b) (fun i b hi hb => by
      unfold zrw
      split
      · exact (zG_small h0 (hN.2.2.2.1 r hr) hB).2 b hb
      · exact hMn i b hi hb)
    rcases hσ with e | e <;> rw [e] at this <;> omega
  · have := (hI r hr).2
    have hb := zdet_boundB (n := n) (M := zrw (zMn n B t0 cn) 0 (zG n B t0 (rn r))) (fun i hi => by
      unfold zrw
      split
      · exact (zG_small h0 (hN.2.2.2.1 r hr) hB).1
      · unfold zMn
        rw [if_neg (by omega)]
        exact (zG_small h0 (hN.2.2.2.2.1 (i - 1) (by omega)) hB).1) (fun i b hi hb => by
      unfold zrw
      split
      · exact (zG_small h0 (hN.2.2.2.1 r hr) hB).2 b hb
      · next hi0 =>
        have := hMn (i - 1) b (by omega) hb
        rw [show i - 1 + 1 = i by omega] at this
        exact this)
    rcases hσ with e | e <;> rw [e] at this <;> omega
/-! ===== points that a tableau tells ===== -/
theorem zvec {m n B : Nat} {rn cn : Nat → Nat} (h : zNms m n B rn cn) (u w : Nat → Int) : ∃ x : Nat → Int, (∀ r, r < m → x (rn r) = u r) ∧ ∀ c, c < n → x (cn c) = w c := by
  refine ⟨fun v => fb_si (fun r => if rn r = v then u r else 0) m + fb_si (fun c => if cn c = v then w c else 0) n, fun r hr => ?_, fun c hc => ?_⟩
  · dsimp only
    rw [fb_si_one (i := r) hr (fun k hk hk2 => if_neg (fun q => hk2 (h.1 k r hk hr q))), fb_si_zero (fun k hk => if_neg (fun q => h.2.2.1 r k hr hk q.symm)), if_pos rfl, Int.add_zero]
  · dsimp only
    rw [fb_si_zero (fun k hk => if_neg (fun q => h.2.2.1 k c hk hc q)), fb_si_one (i := c) hc (fun k hk hk2 => if_neg (fun q => hk2 (h.2.1 k c hk hc q))), if_pos rfl, Int.zero_add]
/-- the point at which the columns are 0 -/
theorem zpoint {m n B : Nat} {t0 t : Nat → Nat → Int} {d : Int} {rn cn : Nat → Nat} (h : zTab m n B t0 t d rn cn) : ∃ x : Nat → Int, (∀ r, r < m → x (rn r) = t r n) ∧ (∀ c, c < n → x (cn c) = 0) ∧ zSol m n t0 1 (fun r => B + r) (fun c => c) x d := by
  obtain ⟨x, h1, h2⟩ := zvec h.2.2.2 (fun r => t r n) (fun _ => 0)
  refine ⟨x, h1, h2, (h.2.1 x d).mpr (fun r hr => ?_)⟩
  rw [h1 r hr, fb_si_zero (fun c hc => by rw [h2 c hc, Int.mul_zero]), Int.add_zero, Int.mul_comm]
/-- the way on which column s grows alone -/
theorem zway {m n B : Nat} {t0 t : Nat → Nat → Int} {d : Int} {rn cn : Nat → Nat} (h : zTab m n B t0 t d rn cn) {s : Nat} (hs : s < n) : ∃ x : Nat → Int, (∀ r, r < m → x (rn r) = -(t r s)) ∧ (∀ c, c < n → x (cn c) = if c = s then d else 0) ∧ zSol m n t0 1 (fun r => B + r) (fun c => c) x 0 := by
  obtain ⟨x, h1, h2⟩ := zvec h.2.2.2 (fun r => -(t r s)) (fun c => if c = s then d else 0)
  refine ⟨x, h1, h2, (h.2.1 x 0).mpr (fun r hr => ?_)⟩
  rw [h1 r hr, fb_si_one (i := s) hs (fun c hc hc2 => by rw [h2 c hc, if_neg hc2, Int.mul_zero]), h2 s hs, if_pos rfl]
  grind
theorem zpos_sum {f : Nat → Int} {n i : Nat} (hi : i < n) (h : ∀ k, k < n → 0 ≤ f k) (hp : 0 < f i) : 0 < fb_si f n := Int.lt_of_lt_of_le hp (fb_si_le1 hi h)

/-! ===== why no pivots come round: the greatest name that moves ===== -/
/-- the criss-cross rule, from a row that is below 0 -/
def zCCP (m n ob : Nat) (t : Nat → Nat → Int) (rn cn : Nat → Nat) (r s : Nat) : Prop :=
  r < m ∧ r ≠ ob ∧ s < n ∧ t r n < 0 ∧ t r s < 0 ∧ (∀ c, c < n → t r c < 0 → cn s ≤ cn c) ∧ (∀ i, i < m → i ≠ ob → t i n < 0 → rn r ≤ rn i) ∧ (∀ c, c < n → t ob c < 0 → rn r ≤ cn c)
/-- from a column whose cost is below 0 -/
def zCCD (m n ob : Nat) (t : Nat → Nat → Int) (rn cn : Nat → Nat) (r s : Nat) : Prop :=
  r < m ∧ r ≠ ob ∧ s < n ∧ t ob s < 0 ∧ 0 < t r s ∧ (∀ i, i < m → i ≠ ob → 0 < t i s → rn r ≤ rn i) ∧ (∀ c, c < n → t ob c < 0 → cn s ≤ cn c) ∧ (∀ i, i < m → i ≠ ob → t i n < 0 → cn s ≤ rn i)
/-- the dual simplex method, least names first -/
def zDS (m n ob : Nat) (t : Nat → Nat → Int) (rn cn : Nat → Nat) (r s : Nat) : Prop :=
  r < m ∧ r ≠ ob ∧ s < n ∧ t r n < 0 ∧ t r s < 0 ∧ (∀ c, c < n → 0 ≤ t ob c) ∧ (∀ i, i < m → i ≠ ob → t i n < 0 → rn r ≤ rn i) ∧ (∀ c, c < n → t r c < 0 → t ob s * -(t r c) ≤ t ob c * -(t r s) ∧ (t ob s * -(t r c) = t ob c * -(t r s) → cn s ≤ cn c))
section zKL
variable {m n B ob k : Nat} {t0 t1 t2 : Nat → Nat → Int} {d1 d2 : Int} {rn1 cn1 rn2 cn2 : Nat → Nat} {r1 s1 r2 s2 : Nat}
/-- what a point of the second tableau is at the names of the first one's columns -/
theorem zat (h1 : zTab m n B t0 t1 d1 rn1 cn1) (h2 : zTab m n B t0 t2 d2 rn2 cn2) (hob : ob < m) (ho : rn1 ob = rn2 ob) {c : Nat} (hc : c < n) : (∃ c', c' < n ∧ cn2 c' = cn1 c) ∨ (∃ i, i < m ∧ i ≠ ob ∧ rn2 i = cn1 c) := by
  rcases h2.2.2.2.2.2.2.2.2 (cn1 c) (h1.2.2.2.2.2.2.2.1 c hc) with h | ⟨i, hi, e⟩
  · exact Or.inl h
  · refine Or.inr ⟨i, hi, fun q => ?_, e⟩
    rw [q, ← ho] at e
    exact h1.2.2.2.2.2.1 ob c hob hc e
theorem zatr (h1 : zTab m n B t0 t1 d1 rn1 cn1) (h2 : zTab m n B t0 t2 d2 rn2 cn2) (hob : ob < m) (ho : rn1 ob = rn2 ob) {r : Nat} (hr : r < m) (hro : r ≠ ob) : (∃ c', c' < n ∧ cn2 c' = rn1 r) ∨ (∃ i, i < m ∧ i ≠ ob ∧ rn2 i = rn1 r) := by
  rcases h2.2.2.2.2.2.2.2.2 (rn1 r) (h1.2.2.2.2.2.2.1 r hr) with h | ⟨i, hi, e⟩
  · exact Or.inl h
  · refine Or.inr ⟨i, hi, fun q => ?_, e⟩
    rw [q, ← ho] at e
    exact hro (h1.2.2.2.1 ob r hob hr e).symm
/-- a row of the first tableau at a point x that is 0 or more below k, below 0 at k, 0 above k -/
theorem zrow_pos (h1 : zTab m n B t0 t1 d1 rn1 cn1) {x : Nat → Int} {r : Nat} (hs1 : s1 < n) (hk1 : cn1 s1 = k) (hx : x k < 0) (hlo : ∀ c, c < n → cn1 c < k → 0 ≤ t1 r c * x (cn1 c)) (hhi : ∀ c, c < n → k < cn1 c → x (cn1 c) = 0) (ht : t1 r s1 < 0) : 0 < fb_si (fun c => t1 r c * x (cn1 c)) n := by
  refine zpos_sum (i := s1) hs1 (fun c hc => ?_) ?_
  · rcases Nat.lt_trichotomy (cn1 c) k with q | q | q
    · exact hlo c hc q
    · have e : c = s1 := h1.2.2.2.2.1 c s1 hc hs1 (q.trans hk1.symm)
      subst e
      try dsimp only
      rw [q]
      exact Int.le_of_lt (Int.mul_pos_of_neg_of_neg ht hx)
    · try dsimp only
      rw [hhi c hc q, Int.mul_zero]
      exact Int.le_refl 0
  · try dsimp only
    rw [hk1]
    exact Int.mul_pos_of_neg_of_neg ht hx
theorem zrow_nonneg {x : Nat → Int} {r : Nat} (hlo : ∀ c, c < n → cn1 c < k → 0 ≤ t1 r c * x (cn1 c)) (hnk : ∀ c, c < n → cn1 c ≠ k) (hhi : ∀ c, c < n → k < cn1 c → x (cn1 c) = 0) : 0 ≤ fb_si (fun c => t1 r c * x (cn1 c)) n := by
  refine fb_si_nonneg (fun c hc => ?_)
  rcases Nat.lt_trichotomy (cn1 c) k with q | q | q
  · exact hlo c hc q
  · exact absurd q (hnk c hc)
  · try dsimp only
    rw [hhi c hc q, Int.mul_zero]
    exact Int.le_refl 0
/-- k can't come in at one tableau and go out at another, if no greater name has moved between them -/
theorem zKLcc (h1 : zTab m n B t0 t1 d1 rn1 cn1) (h2 : zTab m n B t0 t2 d2 rn2 cn2) (hob : ob < m) (ho : rn1 ob = rn2 ob)
    (e1 : zCCP m n ob t1 rn1 cn1 r1 s1 ∨ zCCD m n ob t1 rn1 cn1 r1 s1) (hk1 : cn1 s1 = k) (hm1 : rn1 r1 ≤ k)
    (e2 : zCCP m n ob t2 rn2 cn2 r2 s2 ∨ zCCD m n ob t2 rn2 cn2 r2 s2) (hk2 : rn2 r2 = k) (hm2 : cn2 s2 ≤ k)
    (hup : ∀ c, c < n → k < cn1 c → ∃ c', c' < n ∧ cn2 c' = cn1 c) (hup2 : ∀ c, c < n → k < cn2 c → ∃ c', c' < n ∧ cn1 c' = cn2 c) : False := by
  have hd1 := h1.1
  have hd2 := h2.1
  rcases e2 with ⟨hr2, hro2, hs2, hn2, hp2, hc2, hl2, hb2⟩ | ⟨hr2, hro2, hs2, hn2, hp2, hc2, hl2, hb2⟩
  · -- k goes out of the second as the least row below 0
    obtain ⟨x, hxr, hxc, hxs⟩ := zpoint h2
    have hxk : x k < 0 := by rw [← hk2, hxr r2 hr2]; exact hn2
    have hlow : ∀ c, c < n → cn1 c < k → 0 ≤ x (cn1 c) := by
      intro c hc hlt
      rcases zat h1 h2 hob ho hc with ⟨c', hc', e⟩ | ⟨i, hi, hio, e⟩
      · rw [← e, hxc c' hc']; exact Int.le_refl 0
      · rw [← e, hxr i hi]
        refine Int.not_lt.mp (fun q => ?_)
        have := hl2 i hi hio q
        omega
    have hhigh : ∀ c, c < n → k < cn1 c → x (cn1 c) = 0 := by
      intro c hc hlt
      obtain ⟨c', hc', e⟩ := hup c hc hlt
      rw [← e, hxc c' hc']
    have hx1 := (h1.2.1 x d2).mp hxs
    rcases e1 with ⟨hr1, hro1, hs1, hn1, hp1, hc1, hl1, hb1⟩ | ⟨hr1, hro1, hs1, hn1, hp1, hc1, hl1, hb1⟩
    · have hS := zrow_pos (x := x) (r := r1) h1 hs1 hk1 hxk (fun c hc hlt => Int.mul_nonneg (Int.not_lt.mp (fun q => by have := hc1 c hc q; omega)) (hlow c hc hlt)) hhigh hp1
      have hrow := hx1 r1 hr1
      have hxr1 : 0 ≤ x (rn1 r1) := by
        have hlt : rn1 r1 < k := Nat.lt_of_le_of_ne hm1 (fun q => h1.2.2.2.2.2.1 r1 s1 hr1 hs1 (q.trans hk1.symm))
        rcases zatr h1 h2 hob ho hr1 hro1 with ⟨c', hc', e⟩ | ⟨i, hi, hio, e⟩
        · rw [← e, hxc c' hc']; exact Int.le_refl 0
        · rw [← e, hxr i hi]
          refine Int.not_lt.mp (fun q => ?_)
          have := hl2 i hi hio q
          omega
      have a1 : 0 ≤ d1 * x (rn1 r1) := Int.mul_nonneg (by omega) hxr1
      have a2 : t1 r1 n * d2 < 0 := Int.mul_neg_of_neg_of_pos hn1 hd2
      omega
    · have hS := zrow_pos (x := x) (r := ob) h1 hs1 hk1 hxk (fun c hc hlt => Int.mul_nonneg (Int.not_lt.mp (fun q => by have := hl1 c hc q; omega)) (hlow c hc hlt)) hhigh hn1
      have hrow := hx1 ob hob
      rw [ho, hxr ob hob] at hrow
      obtain ⟨y, hyr, hyc, hys⟩ := zpoint h1
      have hy2 := (h2.2.1 y d1).mp hys ob hob
      rw [← ho, hyr ob hob] at hy2
      have hS2 := zrow_nonneg (n := n) (k := k) (t1 := t2) (cn1 := cn2) (x := y) (r := ob) (fun c hc hlt => by
          refine Int.mul_nonneg (Int.not_lt.mp (fun q => by have := hb2 c hc q; omega)) ?_
          rcases zat h2 h1 hob ho.symm hc with ⟨c', hc', e⟩ | ⟨i, hi, hio, e⟩
          · rw [← e, hyc c' hc']; exact Int.le_refl 0
          · rw [← e, hyr i hi]
            refine Int.not_lt.mp (fun q => ?_)
            have := hb1 i hi hio q
            omega) (fun c hc q => h2.2.2.2.2.2.1 r2 c hr2 hc (hk2.trans q.symm)) (fun c hc hlt => by
          obtain ⟨c', hc', e⟩ := hup2 c hc hlt
          rw [← e, hyc c' hc'])
      rw [Int.mul_comm d2] at hy2
      rw [Int.mul_comm d1] at hrow
      omega
  · -- k goes out of the second by a column
    obtain ⟨x, hxr, hxc, hxs⟩ := zway h2 hs2
    have hs2k : cn2 s2 < k := Nat.lt_of_le_of_ne hm2 (fun q => h2.2.2.2.2.2.1 r2 s2 hr2 hs2 (hk2.trans q.symm))
    have hxk : x k < 0 := by rw [← hk2, hxr r2 hr2]; omega
    have hval : ∀ v, v < k → ((∃ c', c' < n ∧ cn2 c' = v) ∨ (∃ i, i < m ∧ i ≠ ob ∧ rn2 i = v)) → 0 ≤ x v := by
      intro v hv hw
      rcases hw with ⟨c', hc', e⟩ | ⟨i, hi, hio, e⟩
      · rw [← e, hxc c' hc']
        split <;> omega
      · rw [← e, hxr i hi]
        have : ¬ 0 < t2 i s2 := fun q => by have := hc2 i hi hio q; omega
        omega
    have hhigh : ∀ c, c < n → k < cn1 c → x (cn1 c) = 0 := by
      intro c hc hlt
      obtain ⟨c', hc', e⟩ := hup c hc hlt
      rw [← e, hxc c' hc', if_neg (fun q => by rw [q] at e; omega)]
    have hx1 := (h1.2.1 x 0).mp hxs
    rcases e1 with ⟨hr1, hro1, hs1, hn1, hp1, hc1, hl1, hb1⟩ | ⟨hr1, hro1, hs1, hn1, hp1, hc1, hl1, hb1⟩
    · have hS := zrow_pos (x := x) (r := r1) h1 hs1 hk1 hxk (fun c hc hlt => Int.mul_nonneg (Int.not_lt.mp (fun q => by have := hc1 c hc q; omega)) (hval _ hlt (zat h1 h2 hob ho hc))) hhigh hp1
      have hrow := hx1 r1 hr1
      have hlt : rn1 r1 < k := Nat.lt_of_le_of_ne hm1 (fun q => h1.2.2.2.2.2.1 r1 s1 hr1 hs1 (q.trans hk1.symm))
      have a1 : 0 ≤ d1 * x (rn1 r1) := Int.mul_nonneg (by omega) (hval _ hlt (zatr h1 h2 hob ho hr1 hro1))
      rw [Int.mul_zero] at hrow
      omega
    · have hS := zrow_pos (x := x) (r := ob) h1 hs1 hk1 hxk (fun c hc hlt => Int.mul_nonneg (Int.not_lt.mp (fun q => by have := hl1 c hc q; omega)) (hval _ hlt (zat h1 h2 hob ho hc))) hhigh hn1
      have hrow := hx1 ob hob
      rw [ho, hxr ob hob, Int.mul_zero] at hrow
      have a1 : 0 < d1 * -(t2 ob s2) := Int.mul_pos hd1 (by omega)
      omega
/-- the same of the dual simplex method, while the cost stays -/
theorem zKLds (h1 : zTab m n B t0 t1 d1 rn1 cn1) (h2 : zTab m n B t0 t2 d2 rn2 cn2) (hob : ob < m) (ho : rn1 ob = rn2 ob)
    (e1 : zDS m n ob t1 rn1 cn1 r1 s1) (hk1 : cn1 s1 = k) (hm1 : rn1 r1 ≤ k) (e2 : zDS m n ob t2 rn2 cn2 r2 s2) (hk2 : rn2 r2 = k)
    (hz : t1 ob s1 = 0) (hq : d1 * t2 ob n = d2 * t1 ob n)
    (hup : ∀ c, c < n → k < cn1 c → ∃ c', c' < n ∧ cn2 c' = cn1 c) : False := by
  have hd1 := h1.1
  have hd2 := h2.1
  obtain ⟨hr2, hro2, hs2, hn2, hp2, hc2, hl2, hb2⟩ := e2
  obtain ⟨hr1, hro1, hs1, hn1, hp1, hc1, hl1, hb1⟩ := e1
  obtain ⟨x, hxr, hxc, hxs⟩ := zpoint h2
  have hxk : x k < 0 := by rw [← hk2, hxr r2 hr2]; exact hn2
  have hval : ∀ v, v < k → ((∃ c', c' < n ∧ cn2 c' = v) ∨ (∃ i, i < m ∧ i ≠ ob ∧ rn2 i = v)) → 0 ≤ x v := by
    intro v hv hw
    rcases hw with ⟨c', hc', e⟩ | ⟨i, hi, hio, e⟩
    · rw [← e, hxc c' hc']; exact Int.le_refl 0
    · rw [← e, hxr i hi]
      refine Int.not_lt.mp (fun q => ?_)
      have := hl2 i hi hio q
      omega
  have hhigh : ∀ c, c < n → k < cn1 c → x (cn1 c) = 0 := by
    intro c hc hlt
    obtain ⟨c', hc', e⟩ := hup c hc hlt
    rw [← e, hxc c' hc']
  have hx1 := (h1.2.1 x d2).mp hxs
  have hrowo := hx1 ob hob
  rw [ho, hxr ob hob, Int.mul_comm (t1 ob n)] at hrowo
  have hsum0 : fb_si (fun c => t1 ob c * x (cn1 c)) n = 0 := by omega
  have hterm : ∀ c, c < n → 0 ≤ t1 ob c * x (cn1 c) := by
    intro c hc
    rcases Nat.lt_trichotomy (cn1 c) k with q | q | q
    · exact Int.mul_nonneg (hc1 c hc) (hval _ q (zat h1 h2 hob ho hc))
    · have e : c = s1 := h1.2.2.2.2.1 c s1 hc hs1 (q.trans hk1.symm)
      rw [e, hz, Int.zero_mul]
      exact Int.le_refl 0
    · rw [hhigh c hc q, Int.mul_zero]
      exact Int.le_refl 0
  have hzero : ∀ c, c < n → t1 ob c * x (cn1 c) = 0 := fun c hc => by
    have a1 := fb_si_le1 (f := fun c => t1 ob c * x (cn1 c)) hc hterm
    have a2 := hterm c hc
    try dsimp only at a1
    omega
  have hS := zrow_pos (x := x) (r := r1) h1 hs1 hk1 hxk (fun c hc hlt => by
      rcases Int.lt_or_le (t1 r1 c) 0 with q | q
      · obtain ⟨a1, a2⟩ := hb1 c hc q
        rw [hz, Int.zero_mul] at a1 a2
        rcases Int.lt_or_le 0 (t1 ob c) with w | w
        · have a3 := hzero c hc
          have : x (cn1 c) = 0 := by
            rcases Int.mul_eq_zero.mp a3 with z | z
            · omega
            · exact z
          rw [this, Int.mul_zero]
          exact Int.le_refl 0
        · have w0 : t1 ob c = 0 := by have := hc1 c hc; omega
          have := a2 (by rw [w0, Int.zero_mul])
          omega
      · exact Int.mul_nonneg q (hval _ hlt (zat h1 h2 hob ho hc))) hhigh hp1
  have hrow := hx1 r1 hr1
  have hlt : rn1 r1 < k := Nat.lt_of_le_of_ne hm1 (fun q => h1.2.2.2.2.2.1 r1 s1 hr1 hs1 (q.trans hk1.symm))
  have a1 : 0 ≤ d1 * x (rn1 r1) := Int.mul_nonneg (by omega) (hval _ hlt (zatr h1 h2 hob ho hr1 hro1))
  have a2 : t1 r1 n * d2 < 0 := Int.mul_neg_of_neg_of_pos hn1 hd2
  omega
end zKL
/-! ===== how many pivots there can be ===== -/
def zch : Nat → Nat → Nat
  | _, 0 => 1
  | 0, _ + 1 => 0
  | N + 1, k + 1 => zch N k + zch N (k + 1)
/-- the number of a set of k names below N -/
def zcd : Nat → Nat → (Nat → Bool) → Nat
  | 0, _, _ => 0
  | _ + 1, 0, _ => 0
  | N + 1, k + 1, P => if P N then zch N (k + 1) + zcd N k P else zcd N (k + 1) P
theorem zcd_lt : ∀ (N k : Nat) (P : Nat → Bool), fb_ct P N = k → zcd N k P < zch N k
  | 0, 0, _, _ => by unfold zcd zch; decide
  | 0, k + 1, P, h => by exact absurd h (by show ¬ 0 = k + 1; omega)
  | N + 1, 0, P, _ => by unfold zcd zch; decide
  | N + 1, k + 1, P, h => by
    rw [fb_ct_succ] at h
    show (if P N = true then zch N (k + 1) + zcd N k P else zcd N (k + 1) P) < zch N k + zch N (k + 1)
    by_cases hp : P N = true
    · rw [if_pos hp] at h ⊢
      have := zcd_lt N k P (by omega)
      omega
    · rw [if_neg hp] at h ⊢
      have := zcd_lt N (k + 1) P (by omega)
      omega
theorem zcd_inj : ∀ (N k : Nat) (P Q : Nat → Bool), fb_ct P N = k → fb_ct Q N = k → zcd N k P = zcd N k Q → ∀ v, v < N → P v = Q v
  | 0, _, _, _, _, _, _ => fun v hv => absurd hv (Nat.not_lt_zero _)
  | N + 1, 0, P, Q, hP, hQ, _ => fun v hv => by
    rw [fb_ct_zero.mp hP v hv, fb_ct_zero.mp hQ v hv]
  | N + 1, k + 1, P, Q, hP, hQ, e => by
    rw [fb_ct_succ] at hP hQ
    unfold zcd at e
    by_cases p : P N = true <;> by_cases q : Q N = true
    · rw [if_pos p] at hP e
      rw [if_pos q] at hQ e
      have ih := zcd_inj N k P Q (by omega) (by omega) (by omega)
      intro v hv
      rcases Nat.lt_or_eq_of_le (Nat.le_of_lt_succ hv) with h | h
      · exact ih v h
      · rw [h, p, q]
    · rw [if_pos p] at hP e
      rw [if_neg q] at hQ e
      have := zcd_lt N (k + 1) Q (by omega)
      omega
    · rw [if_neg p] at hP e
      rw [if_pos q] at hQ e
      have := zcd_lt N (k + 1) P (by omega)
      omega
    · rw [if_neg p] at hP e
      rw [if_neg q] at hQ e
      have ih := zcd_inj N (k + 1) P Q (by omega) (by omega) e
      intro v hv
      rcases Nat.lt_or_eq_of_le (Nat.le_of_lt_succ hv) with h | h
      · exact ih v h
      · rw [h]
        cases hp : P N <;> cases hq : Q N <;> simp_all
/-- whether a name is a column's -/
def znb (n : Nat) (cn : Nat → Nat) (v : Nat) : Bool := (List.range n).any (fun c => cn c == v)
theorem znb_iff {n : Nat} {cn : Nat → Nat} {v : Nat} : znb n cn v = true ↔ ∃ c, c < n ∧ cn c = v := by
  unfold znb
  simp [List.any_eq_true]
theorem znb_piv {m n B : Nat} {rn cn : Nat → Nat} (h : zNms m n B rn cn) {r s : Nat} (hr : r < m) (hs : s < n) : znb n (va_up cn s (rn r)) = fun v => if v = rn r then true else (if v = cn s then false else znb n cn v) := by
  funext v
  by_cases e1 : v = rn r
  · rw [if_pos e1]
    exact znb_iff.mpr ⟨s, hs, by unfold va_up; rw [if_pos rfl, e1]⟩
  · rw [if_neg e1]
    by_cases e2 : v = cn s
    · rw [if_pos e2]
      refine Bool.eq_false_iff.mpr (fun q => ?_)
      obtain ⟨c, hc, e⟩ := znb_iff.mp q
      unfold va_up at e
      by_cases hcs : c = s
      · rw [if_pos hcs] at e; exact e1 e.symm
      · rw [if_neg hcs, e2] at e; exact hcs (h.2.1 c s hc hs e)
    · rw [if_neg e2]
      refine Bool.eq_iff_iff.mpr ⟨fun q => ?_, fun q => ?_⟩
      · obtain ⟨c, hc, e⟩ := znb_iff.mp q
        unfold va_up at e
        by_cases hcs : c = s
        · rw [if_pos hcs] at e; exact absurd e.symm e1
        · rw [if_neg hcs] at e; exact znb_iff.mpr ⟨c, hc, e⟩
      · obtain ⟨c, hc, e⟩ := znb_iff.mp q
        refine znb_iff.mpr ⟨c, hc, ?_⟩
        unfold va_up
        rw [if_neg (fun z => e2 (by rw [← e, z]))]
        exact e
theorem znb_ct {m n B N : Nat} {rn cn : Nat → Nat} (h : zNms m n B rn cn) (hN : n ≤ N ∧ B + m ≤ N) {r s : Nat} (hr : r < m) (hs : s < n) (hc : fb_ct (znb n cn) N = n) : fb_ct (znb n (va_up cn s (rn r))) N = n := by
  rw [znb_piv h hr hs]
  have hcs : cn s < N := by rcases h.2.2.2.2.1 s hs with q | q <;> omega
  have hrr : rn r < N := by rcases h.2.2.2.1 r hr with q | q <;> omega
  have a1 := fb_ct_upd (fun v => if v = cn s then false else znb n cn v) true hrr
  have a2 := fb_ct_upd (znb n cn) false hcs
  have b1 : (if (fun v => if v = cn s then false else znb n cn v) (rn r) = true then 1 else 0) = 0 := by
    refine if_neg (fun q => ?_)
    try dsimp only at q
    rw [if_neg (h.2.2.1 r s hr hs)] at q
    obtain ⟨c, hc, e⟩ := znb_iff.mp q
    exact h.2.2.1 r c hr hc e.symm
  have b2 : (if znb n cn (cn s) = true then 1 else 0) = 1 := if_pos (znb_iff.mpr ⟨s, hs, rfl⟩)
  rw [b1] at a1
  rw [b2] at a2
  simp only [if_true, Bool.false_eq_true, if_false] at a1 a2
  omega
theorem znb_init {n N : Nat} (h : n ≤ N) : fb_ct (znb n (fun c => c)) N = n := by
  have e : ∀ v, znb n (fun c => c) v = decide (v < n) := by
    intro v
    refine Bool.eq_iff_iff.mpr ⟨fun q => ?_, fun q => ?_⟩
    · obtain ⟨c, hc, e⟩ := znb_iff.mp q
      exact decide_eq_true (by have e : c = v := e; omega)
    · exact znb_iff.mpr ⟨v, of_decide_eq_true q, rfl⟩
  rw [fb_ct_cong (q := fun v => decide (v < n)) (fun v _ => e v)]
  have hs := fb_ct_split (fun v => decide (v < n)) n (N - n)
  rw [show n + (N - n) = N by omega] at hs
  rw [hs, fb_ct_all.mpr (fun k hk => decide_eq_true hk), fb_ct_zero.mpr (fun k _ => decide_eq_false (by omega))]
  rfl
/-! a run of pivots: tableau l is T l, its pivot is at row pr l and column ps l -/
abbrev zT : Type := (Nat → Nat → Int) × Int × (Nat → Nat) × (Nat → Nat)
def zRun (m n B ob : Nat) (t0 : Nat → Nat → Int) (rule : (Nat → Nat → Int) → (Nat → Nat) → (Nat → Nat) → Nat → Nat → Prop) (T : Nat → zT) (pr ps : Nat → Nat) (K : Nat) : Prop :=
  (∀ l, l ≤ K → zTab m n B t0 (T l).1 (T l).2.1 (T l).2.2.1 (T l).2.2.2 ∧ (T l).2.2.1 ob = B + ob ∧ fb_ct (znb n (T l).2.2.2) (B + m) = n) ∧
  (∀ l, l < K → rule (T l).1 (T l).2.2.1 (T l).2.2.2 (pr l) (ps l) ∧ pr l < m ∧ ps l < n ∧ (T (l + 1)).2.2.1 = va_up (T l).2.2.1 (pr l) ((T l).2.2.2 (ps l)) ∧ (T (l + 1)).2.2.2 = va_up (T l).2.2.2 (ps l) ((T l).2.2.1 (pr l)))
/-- the greatest name that moves from i to j -/
theorem zgreatest (f g : Nat → Nat) (i : Nat) : ∀ k : Nat, ∃ v, (∃ l, i ≤ l ∧ l < i + (k + 1) ∧ (f l = v ∨ g l = v)) ∧ ∀ l, i ≤ l → l < i + (k + 1) → f l ≤ v ∧ g l ≤ v
  | 0 => by
    rcases Nat.le_total (f i) (g i) with h | h
    · exact ⟨g i, ⟨i, by omega, by omega, Or.inr rfl⟩, fun l h1 h2 => by rw [show l = i by omega]; exact ⟨h, Nat.le_refl _⟩⟩
    · exact ⟨f i, ⟨i, by omega, by omega, Or.inl rfl⟩, fun l h1 h2 => by rw [show l = i by omega]; exact ⟨Nat.le_refl _, h⟩⟩
  | k + 1 => by
    obtain ⟨v, ⟨l0, a1, a2, a3⟩, hv⟩ := zgreatest f g i k
    have key : ∀ w, v ≤ w → f (i + (k + 1)) ≤ w → g (i + (k + 1)) ≤ w → ∀ l, i ≤ l → l < i + (k + 1 + 1) → f l ≤ w ∧ g l ≤ w := by
      intro w h1 h2 h3 l h4 h5
      rcases Nat.lt_or_ge l (i + (k + 1)) with q | q
      · have := hv l h4 q; omega
      · rw [show l = i + (k + 1) by omega]; exact ⟨h2, h3⟩
    by_cases h1 : f (i + (k + 1)) ≤ v ∧ g (i + (k + 1)) ≤ v
    · exact ⟨v, ⟨l0, a1, by omega, a3⟩, key v (Nat.le_refl _) h1.1 h1.2⟩
    · rcases Nat.le_total (f (i + (k + 1))) (g (i + (k + 1))) with h | h
      · exact ⟨g (i + (k + 1)), ⟨i + (k + 1), by omega, by omega, Or.inr rfl⟩, key _ (by omega) h (Nat.le_refl _)⟩
      · exact ⟨f (i + (k + 1)), ⟨i + (k + 1), by omega, by omega, Or.inl rfl⟩, key _ (by omega) (Nat.le_refl _) h⟩
/-- a thing that is as it was has changed both ways, if it changed -/
theorem zboth {s : Nat → Bool} {i j l : Nat} (h : s i = s j) (h1 : i ≤ l) (h2 : l < j) (hc : s l ≠ s (l + 1)) : (∃ a, i ≤ a ∧ a < j ∧ s a = true ∧ s (a + 1) = false) ∧ (∃ a, i ≤ a ∧ a < j ∧ s a = false ∧ s (a + 1) = true) := by
  have key : ∀ (s : Nat → Bool) (n i : Nat), (∀ a, i ≤ a → a < i + n → ¬ (s a = true ∧ s (a + 1) = false)) → s i = true → s (i + n) = true := by
    intro s n
    induction n with
    | zero => intro i _ h; exact h
    | succ n ih =>
      intro i h hi
      have := ih i (fun a h1 h2 => h a h1 (by omega)) hi
      cases hq : s (i + (n + 1)) with
      | true => rfl
      | false => exact absurd ⟨this, hq⟩ (h (i + n) (by omega) (by omega))
  have key2 : ∀ (n i : Nat), (∀ a, i ≤ a → a < i + n → ¬ (s a = false ∧ s (a + 1) = true)) → s i = false → s (i + n) = false := by
    intro n i h hi
    have := key (fun a => !(s a)) n i (fun a h1 h2 q => h a h1 h2 (by simp at q; exact ⟨q.1, q.2⟩)) (by simp [hi])
    simpa using this
  refine ⟨Classical.byContradiction (fun hn => ?_), Classical.byContradiction (fun hn => ?_)⟩
  · have hn' : ∀ a, i ≤ a → a < j → ¬ (s a = true ∧ s (a + 1) = false) := fun a q1 q2 q3 => hn ⟨a, q1, q2, q3.1, q3.2⟩
    cases hl : s l with
    | true =>
      cases hl2 : s (l + 1) with
      | true => rw [hl, hl2] at hc; exact hc rfl
      | false => exact hn' l h1 h2 ⟨hl, hl2⟩
    | false =>
      have hl2 : s (l + 1) = true := by cases q : s (l + 1) with
        | true => rfl
        | false => rw [hl, q] at hc; exact absurd rfl hc
      have b1 := key s (j - (l + 1)) (l + 1) (fun a q1 q2 => hn' a (by omega) (by omega)) hl2
      rw [show l + 1 + (j - (l + 1)) = j by omega] at b1
      have b2 : s i = true := h.trans b1
      have b3 := key s (l - i) i (fun a q1 q2 => hn' a q1 (by omega)) b2
      rw [show i + (l - i) = l by omega, hl] at b3
      exact absurd b3 (by decide)
  · have hn' : ∀ a, i ≤ a → a < j → ¬ (s a = false ∧ s (a + 1) = true) := fun a q1 q2 q3 => hn ⟨a, q1, q2, q3.1, q3.2⟩
    cases hl : s l with
    | false =>
      cases hl2 : s (l + 1) with
      | false => rw [hl, hl2] at hc; exact hc rfl
      | true => exact hn' l h1 h2 ⟨hl, hl2⟩
    | true =>
      have hl2 : s (l + 1) = false := by cases q : s (l + 1) with
        | false => rfl
        | true => rw [hl, q] at hc; exact absurd rfl hc
      have b1 := key2 (j - (l + 1)) (l + 1) (fun a q1 q2 => hn' a (by omega) (by omega)) hl2
      rw [show l + 1 + (j - (l + 1)) = j by omega] at b1
      have b2 : s i = false := h.trans b1
      have b3 := key2 (l - i) i (fun a q1 q2 => hn' a q1 (by omega)) b2
      rw [show i + (l - i) = l by omega, hl] at b3
      exact absurd b3 (by decide)
section zNoRep
variable {m n B ob K : Nat} {t0 : Nat → Nat → Int} {rule : (Nat → Nat → Int) → (Nat → Nat) → (Nat → Nat) → Nat → Nat → Prop} {T : Nat → zT} {pr ps : Nat → Nat}
theorem zRun_nb (h : zRun m n B ob t0 rule T pr ps K) {l : Nat} (hl : l < K) (v : Nat) : znb n (T (l + 1)).2.2.2 v = if v = (T l).2.2.1 (pr l) then true else if v = (T l).2.2.2 (ps l) then false else znb n (T l).2.2.2 v := by
  obtain ⟨hrule, hp, hs, e1, e2⟩ := h.2 l hl
  rw [e2, znb_piv (h.1 l (by omega)).1.2.2.2 hp hs]
/-- a run that comes back to a set of columns has a name that comes in and goes out, with none greater moving -/
theorem zRun_back (h : zRun m n B ob t0 rule T pr ps K) {i j : Nat} (hij : i < j) (hj : j ≤ K) (hsame : ∀ v, v < B + m → znb n (T i).2.2.2 v = znb n (T j).2.2.2 v) (hBn : n ≤ B) :
    ∃ a b k, (i ≤ a ∧ a < j) ∧ (i ≤ b ∧ b < j) ∧ (T a).2.2.2 (ps a) = k ∧ (T a).2.2.1 (pr a) ≤ k ∧ (T b).2.2.1 (pr b) = k ∧ (T b).2.2.2 (ps b) ≤ k ∧ (∀ v, k < v → znb n (T a).2.2.2 v = znb n (T b).2.2.2 v) := by
  obtain ⟨k, ⟨l0, a1, a2, a3⟩, hk⟩ := zgreatest (fun l => (T l).2.2.1 (pr l)) (fun l => (T l).2.2.2 (ps l)) i (j - i - 1)
  rw [show i + (j - i - 1 + 1) = j by omega] at a2 hk
  have hnm : ∀ l, l < K → (T l).2.2.1 (pr l) ≠ (T l).2.2.2 (ps l) := fun l hl => (h.1 l (by omega)).1.2.2.2.2.2.1 _ _ (h.2 l hl).2.1 (h.2 l hl).2.2.1
  have hnbr : ∀ l, l < K → znb n (T l).2.2.2 ((T l).2.2.1 (pr l)) = false := fun l hl => by
    refine Bool.eq_false_iff.mpr (fun q => ?_)
    obtain ⟨c, hc, e⟩ := znb_iff.mp q
    exact (h.1 l (by omega)).1.2.2.2.2.2.1 _ c (h.2 l hl).2.1 hc e.symm
  have hnbs : ∀ l, l < K → znb n (T l).2.2.2 ((T l).2.2.2 (ps l)) = true := fun l hl => znb_iff.mpr ⟨ps l, (h.2 l hl).2.2.1, rfl⟩
  have hkm : k < B + m := by
    rcases a3 with q | q
    · have := (h.1 l0 (by omega)).1.2.2.2.2.2.2.1 _ (h.2 l0 (by omega)).2.1
      try dsimp only at q
      rw [q] at this
      omega
    · have := (h.1 l0 (by omega)).1.2.2.2.2.2.2.2.1 _ (h.2 l0 (by omega)).2.2.1
      try dsimp only at q
      rw [q] at this
      omega
  have hstep := fun l (hl : l < K) => zRun_nb h hl k
  have hch : znb n (T l0).2.2.2 k ≠ znb n (T (l0 + 1)).2.2.2 k := by
    rw [hstep l0 (by omega)]
    rcases a3 with q | q
    · try dsimp only at q
      rw [if_pos q.symm, ← q, hnbr l0 (by omega)]
      decide
    · try dsimp only at q
      rw [if_neg (fun z => hnm l0 (by omega) (by rw [← z, ← q])), if_pos q.symm, ← q, hnbs l0 (by omega)]
      decide
  obtain ⟨⟨a, b1, b2, b3, b4⟩, ⟨b, c1, c2, c3, c4⟩⟩ := zboth (s := fun l => znb n (T l).2.2.2 k) (hsame k hkm) a1 a2 hch
  have hup : ∀ v, k < v → ∀ l, i ≤ l → l ≤ j → znb n (T l).2.2.2 v = znb n (T i).2.2.2 v := by
    intro v hv l hl hlj
    obtain ⟨g, rfl⟩ : ∃ g, l = i + g := ⟨l - i, by omega⟩
    induction g with
    | zero => rfl
    | succ g ih =>
      have := zRun_nb h (l := i + g) (by omega) v
      have hb := hk (i + g) (by omega) (by omega)
      rw [if_neg (by omega), if_neg (by omega)] at this
      rw [show i + (g + 1) = i + g + 1 by omega, this]
      exact ih (by omega) (by omega)
  refine ⟨a, b, k, ⟨b1, b2⟩, ⟨c1, c2⟩, ?_, (hk a b1 b2).1, ?_, (hk b c1 c2).2, fun v hv => ?_⟩
  · have := hstep a (by omega)
    try dsimp only at b3 b4
    rw [b4] at this
    by_cases q : k = (T a).2.2.1 (pr a)
    · rw [if_pos q] at this; exact absurd this (by decide)
    · rw [if_neg q] at this
      by_cases q2 : k = (T a).2.2.2 (ps a)
      · exact q2.symm
      · rw [if_neg q2, b3] at this; exact absurd this (by decide)
  · have := hstep b (by omega)
    try dsimp only at c3 c4
    rw [c4] at this
    by_cases q : k = (T b).2.2.1 (pr b)
    · exact q.symm
    · rw [if_neg q] at this
      by_cases q2 : k = (T b).2.2.2 (ps b)
      · rw [if_pos q2] at this; exact absurd this (by decide)
      · rw [if_neg q2, c3] at this; exact absurd this (by decide)
  · rw [hup v hv a b1 (by omega), hup v hv b c1 (by omega)]
/-- if no set of columns comes twice, the run is short -/
theorem zRun_short (h : zRun m n B ob t0 rule T pr ps K) (hno : ∀ i j, i < j → j ≤ K → ¬ ∀ v, v < B + m → znb n (T i).2.2.2 v = znb n (T j).2.2.2 v) : K + 1 ≤ zch (B + m) n :=
  fb_holes (zch (B + m) n) (K + 1) (fun l => zcd (B + m) n (znb n (T l).2.2.2)) (fun i hi => zcd_lt _ _ _ (h.1 i (by omega)).2.2) (fun i j hij hj e => hno i j hij (by omega) (zcd_inj _ _ _ _ (h.1 i (by omega)).2.2 (h.1 j (by omega)).2.2 e))
theorem zRun_cc (hB : n ≤ B) (hob : ob < m) (h : zRun m n B ob t0 (fun t rn cn r s => zCCP m n ob t rn cn r s ∨ zCCD m n ob t rn cn r s) T pr ps K) : K + 1 ≤ zch (B + m) n := by
  refine zRun_short h (fun i j hij hj hsame => ?_)
  obtain ⟨a, b, k, ⟨a1, a2⟩, ⟨b1, b2⟩, e1, e2, e3, e4, hup⟩ := zRun_back h hij hj hsame hB
  refine zKLcc (h.1 a (by omega)).1 (h.1 b (by omega)).1 hob (by rw [(h.1 a (by omega)).2.1, (h.1 b (by omega)).2.1]) (h.2 a (by omega)).1 e1 e2 (h.2 b (by omega)).1 e3 e4 (fun c hc hlt => ?_) (fun c hc hlt => ?_)
  · exact znb_iff.mp (by rw [← hup _ hlt]; exact znb_iff.mpr ⟨c, hc, rfl⟩)
  · exact znb_iff.mp (by rw [hup _ hlt]; exact znb_iff.mpr ⟨c, hc, rfl⟩)
end zNoRep
