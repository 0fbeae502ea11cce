/-! ===== the dual simplex method ends; what the ends say ===== -/
theorem zcr_trans {a b c x y z : Int} (hx : 0 < x) (hy : 0 < y) (hz : 0 < z) (h1 : b * x ≤ a * y) (h2 : c * y ≤ b * z) : c * x ≤ a * z := by
  have e1 : c * y * x ≤ b * z * x := Int.mul_le_mul_of_nonneg_right h2 (by omega)
  have e2 : b * x * z ≤ a * y * z := Int.mul_le_mul_of_nonneg_right h1 (by omega)
  have e3 : y * (c * x) ≤ y * (a * z) := by
    have : c * y * x = y * (c * x) := by grind
    have : b * z * x = b * x * z := by grind
    have : a * y * z = y * (a * z) := by grind
    omega
  exact Int.le_of_mul_le_mul_left e3 hy
theorem zcr_eq {a b c x y z : Int} (hx : 0 < x) (hy : 0 < y) (hz : 0 < z) (h1 : b * x = a * y) (h2 : c * x = a * z) : b * z = c * y := by
  have : x * (b * z) = x * (c * y) := by grind
  exact Int.eq_of_mul_eq_mul_left (by omega) this
section zDSrun
variable {m n B ob K : Nat} {t0 : Nat → Nat → Int} {T : Nat → zT} {pr ps : Nat → Nat}
def zStepT (T : Nat → zT) (pr ps : Nat → Nat) (K : Nat) : Prop := ∀ l, l < K → (T (l + 1)).1 = zpT (pr l) (ps l) (-1) (T l).1 (T l).2.1 ∧ (T (l + 1)).2.1 = -1 * (T l).1 (pr l) (ps l)
/-- the cost never falls -/
theorem zds_step (hB : n ≤ B) (hob : ob < m) (h : zRun m n B ob t0 (zDS m n ob) T pr ps K) (hs : zStepT T pr ps K) {l : Nat} (hl : l < K) :
    (T l).2.1 * (T (l + 1)).1 ob n = (T l).1 ob n * (T (l + 1)).2.1 + (T l).1 ob (ps l) * (T l).1 (pr l) n := by
  obtain ⟨e1, e2⟩ := hs l hl
  obtain ⟨⟨hr, hro, hsn, hneg, hp, hc, hle, hb⟩, -, -, -, -⟩ := h.2 l hl
  have hx := zTab_exact hB (h.1 l (by omega)).1 hr hsn hob (j := n) (by omega) (by omega)
  rw [e1, e2]
  have e3 : zpT (pr l) (ps l) (-1) (T l).1 (T l).2.1 ob n = -1 * (((T l).1 ob n * (T l).1 (pr l) (ps l) - (T l).1 ob (ps l) * (T l).1 (pr l) n) / (T l).2.1) := by
    unfold zpT
    rw [if_neg (fun q => hro q.symm), if_neg (by omega)]
  rw [e3]
  grind
theorem zds_mono (hB : n ≤ B) (hob : ob < m) (h : zRun m n B ob t0 (zDS m n ob) T pr ps K) (hs : zStepT T pr ps K) {i : Nat} : ∀ g : Nat, i + g ≤ K → (T (i + g)).1 ob n * (T i).2.1 ≤ (T i).1 ob n * (T (i + g)).2.1
  | 0, _ => Int.le_refl _
  | g + 1, hg => by
    have ih := zds_mono (i := i) hB hob h hs g (by omega)
    have h1 := zds_step hB hob h hs (l := i + g) (by omega)
    obtain ⟨⟨hr, hro, hsn, hneg, hp, hc, hle, hb⟩, -⟩ := h.2 (i + g) (by omega)
    have h2 : (T (i + g)).1 ob (ps (i + g)) * (T (i + g)).1 (pr (i + g)) n ≤ 0 := Int.mul_nonpos_of_nonneg_of_nonpos (hc _ hsn) (by omega)
    show (T (i + g + 1)).1 ob n * (T i).2.1 ≤ (T i).1 ob n * (T (i + g + 1)).2.1
    refine zcr_trans (h.1 i (by omega)).1.1 (h.1 (i + g) (by omega)).1.1 (h.1 (i + g + 1) (by omega)).1.1 ih ?_
    have h3 := Int.mul_comm ((T (i + g + 1)).1 ob n) ((T (i + g)).2.1)
    omega
theorem zRun_ds (hB : n ≤ B) (hob : ob < m) (h : zRun m n B ob t0 (zDS m n ob) T pr ps K) (hs : zStepT T pr ps K) : K + 1 ≤ zch (B + m) n := by
  refine zRun_short h (fun i j hij hj hsame => ?_)
  obtain ⟨a, b, k, ⟨a1, a2⟩, ⟨b1, b2⟩, e1, e2, e3, e4, hup⟩ := zRun_back h hij hj hsame hB
  have di := fun l (hl : l ≤ K) => (h.1 l hl).1.1
  -- the same cost at both ends
  have hends : (T j).1 ob n * (T i).2.1 = (T i).1 ob n * (T j).2.1 := by
    obtain ⟨x, hxr, hxc, hxs⟩ := zpoint (h.1 j hj).1
    have hrow := ((h.1 i (by omega)).1.2.1 x _).mp hxs ob hob
    rw [(h.1 i (by omega)).2.1, ← (h.1 j hj).2.1, hxr ob hob, fb_si_zero (fun c hc => ?_), Int.add_zero, Int.mul_comm] at hrow
    · exact hrow
    · have hv : (T i).2.2.2 c < B + m := by
        have := (h.1 i (by omega)).1.2.2.2.2.2.2.2.1 c hc
        omega
      have := hsame _ hv
      rw [znb_iff.mpr ⟨c, hc, rfl⟩] at this
      obtain ⟨c', hc', e⟩ := znb_iff.mp this.symm
      rw [← e, hxc c' hc', Int.mul_zero]
  have hall : ∀ l, i ≤ l → l ≤ j → (T l).1 ob n * (T i).2.1 = (T i).1 ob n * (T l).2.1 := by
    intro l h1 h2
    have m1 := zds_mono hB hob h hs (i := i) (l - i) (by omega)
    have m2 := zds_mono hB hob h hs (i := l) (j - l) (by omega)
    rw [show i + (l - i) = l by omega] at m1
    rw [show l + (j - l) = j by omega] at m2
    have p1 := di i (by omega)
    have p2 := di j (by omega)
    have p3 := di l (by omega)
    have m3 : (T i).1 ob n * (T l).2.1 ≤ (T l).1 ob n * (T i).2.1 := by
      have q1 : (T j).1 ob n * (T l).2.1 * (T i).2.1 ≤ (T l).1 ob n * (T j).2.1 * (T i).2.1 := Int.mul_le_mul_of_nonneg_right m2 (by omega)
      have q2 : (T j).2.1 * ((T i).1 ob n * (T l).2.1) ≤ (T j).2.1 * ((T l).1 ob n * (T i).2.1) := by
        have : (T j).1 ob n * (T l).2.1 * (T i).2.1 = (T j).2.1 * ((T i).1 ob n * (T l).2.1) := by grind
        have : (T l).1 ob n * (T j).2.1 * (T i).2.1 = (T j).2.1 * ((T l).1 ob n * (T i).2.1) := by grind
        omega
      exact Int.le_of_mul_le_mul_left q2 p2
    omega
  have hab : (T a).2.1 * (T b).1 ob n = (T b).2.1 * (T a).1 ob n := by
    have := zcr_eq (di i (by omega)) (di a (by omega)) (di b (by omega)) (hall a a1 (by omega)) (hall b b1 (by omega))
    rw [Int.mul_comm (T a).2.1, Int.mul_comm (T b).2.1]
    exact this.symm
  have hzero : (T a).1 ob (ps a) = 0 := by
    have h1 := zds_step hB hob h hs (l := a) (by omega)
    have h2 := zcr_eq (di i (by omega)) (di a (by omega)) (di (a + 1) (by omega)) (hall a a1 (by omega)) (hall (a + 1) (by omega) (by omega))
    obtain ⟨⟨hr, hro, hsn, hneg, hp, hc, hle, hb⟩, -⟩ := h.2 a (by omega)
    rw [Int.mul_comm (T a).2.1] at h1
    have h3 : (T a).1 ob (ps a) * (T a).1 (pr a) n = 0 := by omega
    rcases Int.mul_eq_zero.mp h3 with q | q
    · exact q
    · omega
  refine zKLds (h.1 a (by omega)).1 (h.1 b (by omega)).1 hob (by rw [(h.1 a (by omega)).2.1, (h.1 b (by omega)).2.1]) (h.2 a (by omega)).1 e1 e2 (h.2 b (by omega)).1 e3 hzero hab (fun c hc hlt => ?_)
  exact znb_iff.mp (by rw [← hup _ hlt]; exact znb_iff.mpr ⟨c, hc, rfl⟩)
end zDSrun
/-- a pivot of the dual simplex method keeps the costs at 0 or more -/
theorem zds_keeps {m n B ob : Nat} {t0 t : Nat → Nat → Int} {d : Int} {rn cn : Nat → Nat} {r s : Nat} (hB : n ≤ B) (hob : ob < m) (h : zTab m n B t0 t d rn cn) (hd : zDS m n ob t rn cn r s) : ∀ c, c < n → 0 ≤ zpT r s (-1) t d ob c := by
  intro c hc
  obtain ⟨hr, hro, hsn, hneg, hp, hco, hle, hb⟩ := hd
  unfold zpT
  rw [if_neg (fun q => hro q.symm)]
  by_cases e : c = s
  · rw [if_pos e]
    have := hco s hsn
    omega
  · rw [if_neg e]
    have hx := zTab_exact hB h hr hsn hob (j := c) (by omega) e
    have hd0 := h.1
    generalize (t ob c * t r s - t ob s * t r c) / d = Q at hx ⊢
    have key : t ob c * t r s - t ob s * t r c ≤ 0 := by
      rcases Int.lt_or_le (t r c) 0 with q | q
      · have := (hb c hc q).1
        have e1 : t ob s * -(t r c) = -(t ob s * t r c) := by grind
        have e2 : t ob c * -(t r s) = -(t ob c * t r s) := by grind
        omega
      · have a1 := Int.mul_nonneg (hco s hsn) q
        have a2 := Int.mul_nonneg (hco c hc) (show 0 ≤ -(t r s) by omega)
        have e2 : t ob c * -(t r s) = -(t ob c * t r s) := by grind
        omega
    rw [← hx] at key
    have : Q ≤ 0 := by
      refine Int.not_lt.mp (fun q => ?_)
      have := Int.mul_pos hd0 q
      omega
    omega
/-! points: x by names, D: what 1 is. All names but the cost's are 0 or more -/
def zFe (m n B ob : Nat) (t0 : Nat → Nat → Int) (x : Nat → Int) (D : Int) : Prop := 0 < D ∧ zSol m n t0 1 (fun r => B + r) (fun c => c) x D ∧ (∀ c, c < n → 0 ≤ x c) ∧ (∀ r, r < m → r ≠ ob → 0 ≤ x (B + r))
theorem zFe_nm {m n B ob : Nat} {t0 t : Nat → Nat → Int} {d : Int} {rn cn : Nat → Nat} (h : zTab m n B t0 t d rn cn) (ho : rn ob = B + ob) (hob : ob < m) {x : Nat → Int} {D : Int} (hx : zFe m n B ob t0 x D) : (∀ c, c < n → 0 ≤ x (cn c)) ∧ (∀ r, r < m → r ≠ ob → 0 ≤ x (rn r)) := by
  refine ⟨fun c hc => ?_, fun r hr hro => ?_⟩
  · rcases h.2.2.2.2.2.2.2.1 c hc with q | ⟨q1, q2⟩
    · exact hx.2.2.1 _ q
    · have := hx.2.2.2 (cn c - B) (by omega) (fun e => h.2.2.2.2.2.1 ob c hob hc (by rw [ho]; omega))
      rw [show B + (cn c - B) = cn c by omega] at this
      exact this
  · rcases h.2.2.2.2.2.2.1 r hr with q | ⟨q1, q2⟩
    · exact hx.2.2.1 _ q
    · have := hx.2.2.2 (rn r - B) (by omega) (fun e => hro (h.2.2.2.1 r ob hr hob (by rw [ho]; omega)))
      rw [show B + (rn r - B) = rn r by omega] at this
      exact this
/-- a row below 0 without a number below 0: there is no point -/
theorem zno_point {m n B ob : Nat} {t0 t : Nat → Nat → Int} {d : Int} {rn cn : Nat → Nat} (h : zTab m n B t0 t d rn cn) (ho : rn ob = B + ob) (hob : ob < m) {r : Nat} (hr : r < m) (hro : r ≠ ob) (hn : t r n < 0) (hc : ∀ c, c < n → 0 ≤ t r c) {x : Nat → Int} {D : Int} (hx : zFe m n B ob t0 x D) : False := by
  have hrow := (h.2.1 x D).mp hx.2.1 r hr
  obtain ⟨h1, h2⟩ := zFe_nm h ho hob hx
  have a1 := Int.mul_nonneg (Int.le_of_lt h.1) (h2 r hr hro)
  have a2 := fb_si_nonneg (f := fun c => t r c * x (cn c)) (n := n) (fun c hcn => Int.mul_nonneg (hc c hcn) (h1 c hcn))
  have a3 := Int.mul_neg_of_neg_of_pos hn hx.1
  omega
/-- no row below 0, no cost below 0: the point is one, and the best -/
theorem zbest {m n B ob : Nat} {t0 t : Nat → Nat → Int} {d : Int} {rn cn : Nat → Nat} (hB : n ≤ B) (h : zTab m n B t0 t d rn cn) (ho : rn ob = B + ob) (hob : ob < m) (hr : ∀ r, r < m → r ≠ ob → 0 ≤ t r n) (hc : ∀ c, c < n → 0 ≤ t ob c) :
    (∃ x, zFe m n B ob t0 x d ∧ x (B + ob) = t ob n) ∧ ∀ x D, zFe m n B ob t0 x D → d * x (B + ob) ≤ t ob n * D := by
  refine ⟨?_, fun x D hx => ?_⟩
  · obtain ⟨x, hxr, hxc, hxs⟩ := zpoint h
    have hval : ∀ v, v ≠ B + ob → v < n ∨ (B ≤ v ∧ v < B + m) → 0 ≤ x v := by
      intro v hv hn
      rcases h.2.2.2.2.2.2.2.2 v hn with ⟨c, hcn, e⟩ | ⟨r, hrm, e⟩
      · rw [← e, hxc c hcn]; exact Int.le_refl 0
      · rw [← e, hxr r hrm]
        exact hr r hrm (fun q => hv (by rw [← e, q, ho]))
    refine ⟨x, ⟨h.1, hxs, fun c hcn => hval c (by omega) (Or.inl hcn), fun r hrm hro => hval _ (by omega) (Or.inr ⟨by omega, by omega⟩)⟩, ?_⟩
    rw [← ho, hxr ob hob]
  · have hrow := (h.2.1 x D).mp hx.2.1 ob hob
    rw [ho] at hrow
    obtain ⟨h1, h2⟩ := zFe_nm h ho hob hx
    have a2 := fb_si_nonneg (f := fun c => t ob c * x (cn c)) (n := n) (fun c hcn => Int.mul_nonneg (hc c hcn) (h1 c hcn))
    omega
