/-! ===== tableaux of whole numbers over one divisor, and their pivots ===== -/
/-- the linear form of name v: structural ones below n, row r's own B + r; place 0 is the bound -/
def zG (n B : Nat) (t0 : Nat → Nat → Int) (v q : Nat) : Int := if v < n then (if q = v + 1 then 1 else 0) else (if q = 0 then t0 (v - B) n else -(t0 (v - B) (q - 1)))
def zMn (n B : Nat) (t0 : Nat → Nat → Int) (cn : Nat → Nat) (a q : Nat) : Int := if a = 0 then (if q = 0 then 1 else 0) else zG n B t0 (cn (a - 1)) q
def zSol (m n : Nat) (t : Nat → Nat → Int) (d : Int) (rn cn : Nat → Nat) (x : Nat → Int) (x0 : Int) : Prop := ∀ r, r < m → d * x (rn r) + fb_si (fun c => t r c * x (cn c)) n = t r n * x0
def zINV (m n B : Nat) (t0 t : Nat → Nat → Int) (d : Int) (rn cn : Nat → Nat) : Prop :=
  ∃ σ : Int, (σ = 1 ∨ σ = -1) ∧ d = σ * zdet (n + 1) (zMn n B t0 cn) ∧ ∀ r, r < m → (∀ c, c < n → -(t r c) = σ * zdet (n + 1) (zrw (zMn n B t0 cn) (c + 1) (zG n B t0 (rn r)))) ∧ t r n = σ * zdet (n + 1) (zrw (zMn n B t0 cn) 0 (zG n B t0 (rn r)))
def zNms (m n B : Nat) (rn cn : Nat → Nat) : Prop :=
  (∀ r r', r < m → r' < m → rn r = rn r' → r = r') ∧ (∀ c c', c < n → c' < n → cn c = cn c' → c = c') ∧ (∀ r c, r < m → c < n → rn r ≠ cn c) ∧ (∀ r, r < m → rn r < n ∨ (B ≤ rn r ∧ rn r < B + m)) ∧ (∀ c, c < n → cn c < n ∨ (B ≤ cn c ∧ cn c < B + m)) ∧ (∀ v, v < n ∨ (B ≤ v ∧ v < B + m) → (∃ c, c < n ∧ cn c = v) ∨ (∃ r, r < m ∧ rn r = v))
def zTab (m n B : Nat) (t0 t : Nat → Nat → Int) (d : Int) (rn cn : Nat → Nat) : Prop :=
  0 < d ∧ (∀ x x0, zSol m n t0 1 (fun r => B + r) (fun c => c) x x0 ↔ zSol m n t d rn cn x x0) ∧ zINV m n B t0 t d rn cn ∧ zNms m n B rn cn
def zpT (r s : Nat) (ε : Int) (t : Nat → Nat → Int) (d : Int) : Nat → Nat → Int := fun i j =>
  if i = r then (if j = s then ε * d else ε * t r j) else (if j = s then -(ε * t i s) else ε * ((t i j * t r s - t i s * t r j) / d))
theorem zG_sol {m n B : Nat} {t0 : Nat → Nat → Int} (hB : n ≤ B) {q : Nat} (hq : q ≤ n) : zSol m n t0 1 (fun r => B + r) (fun c => c) (fun v => zG n B t0 v q) (if q = 0 then 1 else 0) := by
  intro r hr
  have e1 : zG n B t0 (B + r) q = if q = 0 then t0 r n else -(t0 r (q - 1)) := by
    unfold zG
    rw [if_neg (by omega), Nat.add_sub_cancel_left]
  show 1 * zG n B t0 (B + r) q + _ = _
  rw [e1]
  by_cases h0 : q = 0
  · subst h0
    rw [if_pos rfl, if_pos rfl, fb_si_zero (fun c hc => ?_)]
    · omega
    · show t0 r c * zG n B t0 c 0 = 0
      unfold zG
      rw [if_pos hc, if_neg (by omega), Int.mul_zero]
  · rw [if_neg h0, if_neg h0, fb_si_one (i := q - 1) (by omega) (fun c hc hc2 => ?_)]
    · show 1 * -(t0 r (q - 1)) + t0 r (q - 1) * zG n B t0 (q - 1) q = t0 r n * 0
      unfold zG
      rw [if_pos (by omega), if_pos (by omega)]
      omega
    · show t0 r c * zG n B t0 c q = 0
      unfold zG
      rw [if_pos hc, if_neg (by omega), Int.mul_zero]
/-- a row of the tableau, said of the forms -/
theorem zTab_vi {m n B : Nat} {t0 t : Nat → Nat → Int} {d : Int} {rn cn : Nat → Nat} (hB : n ≤ B) (h : zTab m n B t0 t d rn cn) {r : Nat} (hr : r < m) {q : Nat} (hq : q < n + 1) :
    d * zG n B t0 (rn r) q = fb_si (fun a => (if a = 0 then t r n else -(t r (a - 1))) * zMn n B t0 cn a q) (n + 1) := by
  have h1 := (h.2.1 _ _).mp (zG_sol (m := m) (t0 := t0) hB (q := q) (by omega)) r hr
  have h2 := fb_si_split (fun a => (if a = 0 then t r n else -(t r (a - 1))) * zMn n B t0 cn a q) 1 n
  rw [Nat.add_comm 1 n] at h2
  rw [h2]
  have h3 : fb_si (fun a => (if a = 0 then t r n else -(t r (a - 1))) * zMn n B t0 cn a q) 1 = t r n * (if q = 0 then 1 else 0) := by
    show 0 + (if 0 = 0 then t r n else _) * zMn n B t0 cn 0 q = _
    rw [if_pos rfl, Int.zero_add]
    rfl
  have h4 : fb_si (fun k => (if 1 + k = 0 then t r n else -(t r (1 + k - 1))) * zMn n B t0 cn (1 + k) q) n = -(fb_si (fun c => t r c * zG n B t0 (cn c) q) n) := by
    have h5 := fb_si_mul (-1) (fun c => t r c * zG n B t0 (cn c) q) n
    rw [show -(fb_si (fun c => t r c * zG n B t0 (cn c) q) n) = -1 * fb_si (fun c => t r c * zG n B t0 (cn c) q) n by omega, ← h5]
    refine fb_si_cong (fun k hk => ?_)
    have e : zMn n B t0 cn (1 + k) q = zG n B t0 (cn k) q := by
      unfold zMn
      rw [if_neg (by omega), Nat.add_sub_cancel_left]
    rw [if_neg (by omega), Nat.add_sub_cancel_left, e]
    grind
  rw [h3, h4]
  have h1' : d * zG n B t0 (rn r) q + fb_si (fun c => t r c * zG n B t0 (cn c) q) n = t r n * (if q = 0 then 1 else 0) := h1
  omega
theorem zMn_up {n B : Nat} {t0 : Nat → Nat → Int} {cn : Nat → Nat} {s v : Nat} : zMn n B t0 (va_up cn s v) = zrw (zMn n B t0 cn) (s + 1) (zG n B t0 v) := by
  funext a q
  unfold zMn zrw va_up
  dsimp only
  by_cases h0 : a = 0
  · subst h0
    rw [if_neg (show ¬ 0 = s + 1 by omega)]
    rfl
  · by_cases h1 : a = s + 1
    · subst h1
      rw [if_neg h0, if_pos rfl, if_pos (show s + 1 - 1 = s by omega)]
    · rw [if_neg h1, if_neg h0, if_neg h0, if_neg (show ¬ a - 1 = s by omega)]
/-- the heart: a row put for a column and another put for a second one -/
theorem zTab_two {m n B : Nat} {t0 t : Nat → Nat → Int} {d : Int} {rn cn : Nat → Nat} (hB : n ≤ B) (h : zTab m n B t0 t d rn cn) {r s i J : Nat} (hs : s < n) (hi : i < m) (hJ : J < n + 1) (hJs : J ≠ s + 1) :
    d * zdet (n + 1) (zrw (zrw (zMn n B t0 cn) (s + 1) (zG n B t0 (rn r))) J (zG n B t0 (rn i)))
      = (if J = 0 then t i n else -(t i (J - 1))) * zdet (n + 1) (zrw (zMn n B t0 cn) (s + 1) (zG n B t0 (rn r))) - (-(t i s)) * zdet (n + 1) (zrw (zMn n B t0 cn) J (zG n B t0 (rn r))) := by
  rw [← zdet_scale hJ]
  have e : zdet (n + 1) (zrw (zrw (zMn n B t0 cn) (s + 1) (zG n B t0 (rn r))) J (fun b => d * zG n B t0 (rn i) b)) = zdet (n + 1) (zrw (zrw (zMn n B t0 cn) (s + 1) (zG n B t0 (rn r))) J (fun q => fb_si (fun a => (if a = 0 then t i n else -(t i (a - 1))) * zMn n B t0 cn a q) (n + 1))) := by
    refine zdet_cong (fun a b ha hb => ?_)
    unfold zrw
    split
    · exact zTab_vi hB h hi hb
    · rfl
  rw [e, zdet_sum hJ, fb_si_two (i := J) (j := s + 1) hJ (by omega) hJs (fun a ha h1 h2 => ?_)]
  · have e1 : zrw (zrw (zMn n B t0 cn) (s + 1) (zG n B t0 (rn r))) J (zMn n B t0 cn J) = zrw (zMn n B t0 cn) (s + 1) (zG n B t0 (rn r)) := by
      rw [zrw_comm (fun q => hJs q.symm), zrw_self]
    have e2 : zdet (n + 1) (zrw (zrw (zMn n B t0 cn) (s + 1) (zG n B t0 (rn r))) J (zMn n B t0 cn (s + 1))) = - zdet (n + 1) (zrw (zMn n B t0 cn) J (zG n B t0 (rn r))) := by
      rw [zdet_swap (by omega) hJ (fun q => hJs q.symm), zrw_self]
    rw [e1, e2, if_neg (show ¬ s + 1 = 0 by omega), Nat.add_sub_cancel]
    grind
  · rw [zdet_alike (i := J) (j := a) hJ ha (fun q => h1 q.symm) (fun b => ?_), Int.mul_zero]
    rw [zrw_at, zrw_out (fun q => h1 q), zrw_out (fun q => h2 q)]
theorem zTab_exact {m n B : Nat} {t0 t : Nat → Nat → Int} {d : Int} {rn cn : Nat → Nat} (hB : n ≤ B) (h : zTab m n B t0 t d rn cn) {r s i j : Nat} (hr : r < m) (hs : s < n) (hi : i < m) (hj : j ≤ n) (hjs : j ≠ s) :
    d * ((t i j * t r s - t i s * t r j) / d) = t i j * t r s - t i s * t r j := by
  obtain ⟨σ, hσ, hd, hI⟩ := h.2.2.1
  have hd0 : d ≠ 0 := by have := h.1; omega
  have hrs := (hI r hr).1 s hs
  rcases Nat.lt_or_ge j n with hjn | hjn
  · have h2 := zTab_two hB h (r := r) (s := s) (i := i) (J := j + 1) hs hi (by omega) (by omega)
    rw [if_neg (show ¬ j + 1 = 0 by omega), Nat.add_sub_cancel] at h2
    have hrj := (hI r hr).1 j hjn
    have : t i j * t r s - t i s * t r j = d * (σ * zdet (n + 1) (zrw (zrw (zMn n B t0 cn) (s + 1) (zG n B t0 (rn r))) (j + 1) (zG n B t0 (rn i)))) := by
      rcases hσ with e | e <;> subst e <;> grind
    rw [this, Int.mul_ediv_cancel_left _ hd0]
  · have ej : j = n := by omega
    subst ej
    have h2 := zTab_two hB h (r := r) (s := s) (i := i) (J := 0) hs hi (by omega) (by omega)
    rw [if_pos rfl] at h2
    have hrj := (hI r hr).2
    have : t i j * t r s - t i s * t r j = d * (-σ * zdet (j + 1) (zrw (zrw (zMn j B t0 cn) (s + 1) (zG j B t0 (rn r))) 0 (zG j B t0 (rn i)))) := by
      rcases hσ with e | e <;> subst e <;> grind
    rw [this, Int.mul_ediv_cancel_left _ hd0]
theorem zINV_piv {m n B : Nat} {t0 t : Nat → Nat → Int} {d : Int} {rn cn : Nat → Nat} (hB : n ≤ B) (h : zTab m n B t0 t d rn cn) {r s : Nat} (hr : r < m) (hs : s < n) {ε : Int} (hε : ε = 1 ∨ ε = -1) : zINV m n B t0 (zpT r s ε t d) (ε * t r s) (va_up rn r (cn s)) (va_up cn s (rn r)) := by
  obtain ⟨σ, hσ, hd, hI⟩ := h.2.2.1
  have hd0 : d ≠ 0 := by have := h.1; omega
  have hrs := (hI r hr).1 s hs
  have hσ2 : σ * σ = 1 := by rcases hσ with e | e <;> subst e <;> rfl
  have hε2 : ε * ε = 1 := by rcases hε with e | e <;> subst e <;> rfl
  refine ⟨-(σ * ε), by rcases hσ with e | e <;> rcases hε with e2 | e2 <;> subst e <;> subst e2 <;> decide, ?_, fun i hi => ⟨fun c hc => ?_, ?_⟩⟩
  · rw [zMn_up]
    grind
  · rw [zMn_up]
    by_cases hir : i = r
    · subst hir
      have e1 : va_up rn i (cn s) i = cn s := if_pos rfl
      rw [e1]
      by_cases hcs : c = s
      · subst hcs
        have e2 : zpT i c ε t d i c = ε * d := by unfold zpT; rw [if_pos rfl, if_pos rfl]
        have e3 : zrw (zrw (zMn n B t0 cn) (c + 1) (zG n B t0 (rn i))) (c + 1) (zG n B t0 (cn c)) = zMn n B t0 cn := by
          rw [zrw_rw]
          have e4 : zG n B t0 (cn c) = zMn n B t0 cn (c + 1) := by funext q; unfold zMn; rw [if_neg (by omega), Nat.add_sub_cancel]
          rw [e4, zrw_self]
        rw [e2, e3]
        grind
      · have e2 : zpT i s ε t d i c = ε * t i c := by unfold zpT; rw [if_pos rfl, if_neg hcs]
        have e4 : zG n B t0 (cn s) = zMn n B t0 cn (s + 1) := by funext q; unfold zMn; rw [if_neg (by omega), Nat.add_sub_cancel]
        rw [e2, zdet_swap (by omega) (by omega) (by omega), e4, zrw_self]
        have := (hI i hi).1 c hc
        grind
    · have e1 : va_up rn r (cn s) i = rn i := if_neg hir
      rw [e1]
      by_cases hcs : c = s
      · subst hcs
        have e2 : zpT r c ε t d i c = -(ε * t i c) := by unfold zpT; rw [if_neg hir, if_pos rfl]
        rw [e2, zrw_rw]
        have := (hI i hi).1 c hc
        grind
      · have e2 : zpT r s ε t d i c = ε * ((t i c * t r s - t i s * t r c) / d) := by unfold zpT; rw [if_neg hir, if_neg hcs]
        have h2 := zTab_two hB h (r := r) (s := s) (i := i) (J := c + 1) hs hi (by omega) (by omega)
        rw [if_neg (show ¬ c + 1 = 0 by omega), Nat.add_sub_cancel] at h2
        have hx := zTab_exact hB h hr hs hi (j := c) (by omega) hcs
        have hrc := (hI r hr).1 c hc
        rw [e2]
        generalize zdet (n + 1) (zrw (zrw (zMn n B t0 cn) (s + 1) (zG n B t0 (rn r))) (c + 1) (zG n B t0 (rn i))) = X at h2 ⊢
        generalize (t i c * t r s - t i s * t r c) / d = Q at hx ⊢
        have : d * Q = d * (σ * X) := by
          rcases hσ with e | e <;> subst e <;> grind
        have := Int.eq_of_mul_eq_mul_left hd0 this
        grind
  · rw [zMn_up]
    by_cases hir : i = r
    · subst hir
      have e1 : va_up rn i (cn s) i = cn s := if_pos rfl
      have e2 : zpT i s ε t d i n = ε * t i n := by unfold zpT; rw [if_pos rfl, if_neg (by omega)]
      have e4 : zG n B t0 (cn s) = zMn n B t0 cn (s + 1) := by funext q; unfold zMn; rw [if_neg (by omega), Nat.add_sub_cancel]
      rw [e1, e2, zdet_swap (by omega) (by omega) (by omega), e4, zrw_self]
      have := (hI i hi).2
      grind
    · have e1 : va_up rn r (cn s) i = rn i := if_neg hir
      have e2 : zpT r s ε t d i n = ε * ((t i n * t r s - t i s * t r n) / d) := by unfold zpT; rw [if_neg hir, if_neg (by omega)]
      have h2 := zTab_two hB h (r := r) (s := s) (i := i) (J := 0) hs hi (by omega) (by omega)
      rw [if_pos rfl] at h2
      have hx := zTab_exact hB h hr hs hi (j := n) (by omega) (by omega)
      have hrc := (hI r hr).2
      rw [e1, e2]
      generalize zdet (n + 1) (zrw (zrw (zMn n B t0 cn) (s + 1) (zG n B t0 (rn r))) 0 (zG n B t0 (rn i))) = X at h2 ⊢
      generalize (t i n * t r s - t i s * t r n) / d = Q at hx ⊢
      have : d * Q = d * (-σ * X) := by
        rcases hσ with e | e <;> subst e <;> grind
      have := Int.eq_of_mul_eq_mul_left hd0 this
      grind
theorem zal1 {d ε p tis xr xi Sr Si trn tin Q x0 : Int} (h1 : d * xi + Si = tin * x0) (h2 : d * xr + Sr = trn * x0) (hQ : d * Q = tin * p - tis * trn) : d * (ε * p * xi) + (ε * (p * Si - tis * Sr) - ε * d * tis * xr) = d * (ε * Q * x0) := by grind
theorem zal2 {d ε p tis xr xi Sr Si trn tin Q x0 S' : Int} (hni : ε * p * xi + S' = ε * Q * x0) (h4 : d * S' = ε * (p * Si - tis * Sr) - ε * d * tis * xr) (h2 : d * xr + Sr = trn * x0) (hQ : d * Q = tin * p - tis * trn) : ε * (p * (d * xi + Si)) = ε * (p * (tin * x0)) := by grind
theorem zSol_piv {m n B : Nat} {t0 t : Nat → Nat → Int} {d : Int} {rn cn : Nat → Nat} (hB : n ≤ B) (h : zTab m n B t0 t d rn cn) {r s : Nat} (hr : r < m) (hs : s < n) {ε : Int} (hε : ε = 1 ∨ ε = -1) (hp : t r s ≠ 0) (x : Nat → Int) (x0 : Int) :
    zSol m n t d rn cn x x0 ↔ zSol m n (zpT r s ε t d) (ε * t r s) (va_up rn r (cn s)) (va_up cn s (rn r)) x x0 := by
  have hd0 : d ≠ 0 := by have := h.1; omega
  have hε2 : ε * ε = 1 := by rcases hε with e | e <;> subst e <;> rfl
  have hε0 : ε ≠ 0 := by rcases hε with e | e <;> subst e <;> decide
  have er : va_up rn r (cn s) r = cn s := if_pos rfl
  have es : va_up cn s (rn r) s = rn r := if_pos rfl
  have eo : ∀ c, c ≠ s → va_up cn s (rn r) c = cn c := fun c hc => if_neg hc
  -- the sum of row r
  have hsumr : fb_si (fun c => zpT r s ε t d r c * x (va_up cn s (rn r) c)) n = ε * (fb_si (fun c => t r c * x (cn c)) n) - ε * (t r s * x (cn s)) + ε * d * x (rn r) := by
    rw [← fb_si_mul ε]
    have h1 := fb_si_upd (fun c => ε * (t r c * x (cn c))) (ε * d * x (rn r)) hs
    rw [← h1]
    refine fb_si_cong (fun c hc => ?_)
    by_cases e : c = s
    · subst e
      rw [if_pos rfl, es]
      unfold zpT
      rw [if_pos rfl, if_pos rfl]
    · rw [if_neg e, eo c e]
      unfold zpT
      rw [if_pos rfl, if_neg e, Int.mul_assoc]
  have hsumi : ∀ i, i < m → i ≠ r → d * fb_si (fun c => zpT r s ε t d i c * x (va_up cn s (rn r) c)) n = ε * (t r s * fb_si (fun c => t i c * x (cn c)) n - t i s * fb_si (fun c => t r c * x (cn c)) n) - ε * d * t i s * x (rn r) := by
    intro i hi hir
    rw [← fb_si_mul d, ← fb_si_mul (t r s), ← fb_si_mul (t i s), ← fb_si_sub, ← fb_si_mul ε]
    have h1 := fb_si_upd (fun k => ε * (t r s * (t i k * x (cn k)) - t i s * (t r k * x (cn k)))) (-(ε * d * t i s * x (rn r))) hs
    have h2 : ε * (t r s * (t i s * x (cn s)) - t i s * (t r s * x (cn s))) = 0 := by grind
    have h3 : fb_si (fun k => ε * (t r s * (t i k * x (cn k)) - t i s * (t r k * x (cn k)))) n - ε * d * t i s * x (rn r) = fb_si (fun k => if k = s then -(ε * d * t i s * x (rn r)) else ε * (t r s * (t i k * x (cn k)) - t i s * (t r k * x (cn k)))) n := by
      rw [h1]
      omega
    rw [h3]
    refine fb_si_cong (fun c hc => ?_)
    by_cases e : c = s
    · subst e
      rw [if_pos rfl, es]
      unfold zpT
      rw [if_neg hir, if_pos rfl]
      grind
    · rw [if_neg e, eo c e]
      have hx := zTab_exact hB h hr hs hi (j := c) (by omega) e
      unfold zpT
      rw [if_neg hir, if_neg e]
      generalize (t i c * t r s - t i s * t r c) / d = Q at hx ⊢
      grind
  constructor
  · intro hS i hi
    have hor := hS r hr
    by_cases hir : i = r
    · subst hir
      show ε * t i s * x (va_up rn i (cn s) i) + _ = _
      rw [er, hsumr]
      have e2 : zpT i s ε t d i n = ε * t i n := by unfold zpT; rw [if_pos rfl, if_neg (by omega)]
      rw [e2]
      generalize fb_si (fun c => t i c * x (cn c)) n = S at hor ⊢
      grind
    · have hoi := hS i hi
      have e1 : va_up rn r (cn s) i = rn i := if_neg hir
      have hx := zTab_exact hB h hr hs hi (j := n) (by omega) (by omega)
      have e2 : zpT r s ε t d i n = ε * ((t i n * t r s - t i s * t r n) / d) := by unfold zpT; rw [if_neg hir, if_neg (by omega)]
      have h4 := hsumi i hi hir
      refine Int.eq_of_mul_eq_mul_left hd0 ?_
      rw [e1, e2, Int.mul_add, h4]
      exact zal1 hoi hor hx
  · intro hS
    have hnr := hS r hr
    have e2r : zpT r s ε t d r n = ε * t r n := by unfold zpT; rw [if_pos rfl, if_neg (by omega)]
    rw [er, hsumr, e2r] at hnr
    have hor : d * x (rn r) + fb_si (fun c => t r c * x (cn c)) n = t r n * x0 := by
      refine Int.eq_of_mul_eq_mul_left hε0 ?_
      generalize fb_si (fun c => t r c * x (cn c)) n = S at hnr ⊢
      grind
    intro i hi
    by_cases hir : i = r
    · subst hir
      exact hor
    · have hni := hS i hi
      have e1 : va_up rn r (cn s) i = rn i := if_neg hir
      have hx := zTab_exact hB h hr hs hi (j := n) (by omega) (by omega)
      have e2 : zpT r s ε t d i n = ε * ((t i n * t r s - t i s * t r n) / d) := by unfold zpT; rw [if_neg hir, if_neg (by omega)]
      have h4 := hsumi i hi hir
      rw [e1, e2] at hni
      exact Int.eq_of_mul_eq_mul_left hp (Int.eq_of_mul_eq_mul_left hε0 (zal2 hni h4 hor hx))
theorem zNms_piv {m n B : Nat} {rn cn : Nat → Nat} (h : zNms m n B rn cn) {r s : Nat} (hr : r < m) (hs : s < n) : zNms m n B (va_up rn r (cn s)) (va_up cn s (rn r)) := by
  obtain ⟨h1, h2, h3, h4, h5, h6⟩ := h
  unfold va_up
  refine ⟨fun a b ha hb e => ?_, fun a b ha hb e => ?_, fun a b ha hb e => ?_, fun a ha => ?_, fun a ha => ?_, fun v hv => ?_⟩
  · dsimp only at e
    by_cases ea : a = r <;> by_cases eb : b = r
    · rw [ea, eb]
    · rw [if_pos ea, if_neg eb] at e; exact absurd e.symm (h3 b s hb hs)
    · rw [if_neg ea, if_pos eb] at e; exact absurd e (h3 a s ha hs)
    · rw [if_neg ea, if_neg eb] at e; exact h1 a b ha hb e
  · dsimp only at e
    by_cases ea : a = s <;> by_cases eb : b = s
    · rw [ea, eb]
    · rw [if_pos ea, if_neg eb] at e; exact absurd e (h3 r b hr hb)
    · rw [if_neg ea, if_pos eb] at e; exact absurd e.symm (h3 r a hr ha)
    · rw [if_neg ea, if_neg eb] at e; exact h2 a b ha hb e
  · dsimp only at e
    by_cases ea : a = r <;> by_cases eb : b = s
    · rw [if_pos ea, if_pos eb] at e; exact h3 r s hr hs e.symm
    · rw [if_pos ea, if_neg eb] at e; exact eb (h2 b s hb hs e.symm)
    · rw [if_neg ea, if_pos eb] at e; exact ea (h1 a r ha hr e)
    · rw [if_neg ea, if_neg eb] at e; exact h3 a b ha hb e
  · dsimp only
    by_cases ea : a = r
    · rw [if_pos ea]; exact h5 s hs
    · rw [if_neg ea]; exact h4 a ha
  · dsimp only
    by_cases ea : a = s
    · rw [if_pos ea]; exact h4 r hr
    · rw [if_neg ea]; exact h5 a ha
  · by_cases e1 : v = rn r
    · exact Or.inl ⟨s, hs, by dsimp only; rw [if_pos rfl, e1]⟩
    · by_cases e2 : v = cn s
      · exact Or.inr ⟨r, hr, by dsimp only; rw [if_pos rfl, e2]⟩
      · rcases h6 v hv with ⟨c, hc, q⟩ | ⟨i, hi, q⟩
        · exact Or.inl ⟨c, hc, by dsimp only; rw [if_neg (fun z => e2 (by rw [← q, z]))]; exact q⟩
        · exact Or.inr ⟨i, hi, by dsimp only; rw [if_neg (fun z => e1 (by rw [← q, z]))]; exact q⟩
theorem zTab_piv {m n B : Nat} {t0 t : Nat → Nat → Int} {d : Int} {rn cn : Nat → Nat} (hB : n ≤ B) (h : zTab m n B t0 t d rn cn) {r s : Nat} (hr : r < m) (hs : s < n) {ε : Int} (hε : ε = 1 ∨ ε = -1) (hp : 0 < ε * t r s) : zTab m n B t0 (zpT r s ε t d) (ε * t r s) (va_up rn r (cn s)) (va_up cn s (rn r)) := by
  have hp0 : t r s ≠ 0 := fun q => by rw [q, Int.mul_zero] at hp; exact absurd hp (by decide)
  exact ⟨hp, fun x x0 => (h.2.1 x x0).trans (zSol_piv hB h hr hs hε hp0 x x0), zINV_piv hB h hr hs hε, zNms_piv h.2.2.2 hr hs⟩
