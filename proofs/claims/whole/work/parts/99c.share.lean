/-! ===== the greatest common divisor ===== -/
theorem iL_rem {a b : Nat} (ha : a < 2 ^ 60) (hb : b < 2 ^ 60) : iL (a : Int) - iL (a : Int) / iL (b : Int) * iL (b : Int) = iL ((a % b : Nat) : Int) := by
  rw [iL_div (by unfold zB62; omega) (by unfold zB62; omega), iL_mul, iL_sub, ← Int.ofNat_tdiv]
  congr 1
  have h := Nat.div_add_mod a b
  have e : ((a / b : Nat) : Int) * (b : Int) = ((b * (a / b) : Nat) : Int) := by rw [Int.natCast_mul, Int.mul_comm]
  rw [e]
  omega
theorem iL_ne0 {b : Nat} (h0 : 0 < b) (hb : b < 2 ^ 60) : ¬ iL (b : Int) = 0 := by
  intro e
  rw [← iL_0, iL_eq (by unfold zB62; omega) (by unfold zB62; omega)] at e
  omega
theorem zrmL_eq {β : Type} {a b : Nat} {k : Int64 → Option β} (h0 : 0 < b) (ha : a < 2 ^ 60) (hb : b < 2 ^ 60) : zrmL (iL (a : Int)) (iL (b : Int)) k = k (iL ((a % b : Nat) : Int)) := by
  unfold zrmL
  rw [if_neg (iL_ne0 h0 hb), iL_rem ha hb]
theorem zgcd_loop {N : Nat} {y1 y3 : Int64} : ∀ (k f a b i : Nat) (σ : zSt), b < 2 ^ k → k ≤ 40 → a < 2 ^ 60 → i + 2 * k ≤ 99 → 2 * k + 1 ≤ f → fX6_reduce_9 N f y1 y3 (iL (a : Int)) (iL (b : Int)) (nI i) σ = fX6_reduce_44 N y1 y3 (iL (Nat.gcd a b : Nat)) σ
  | 0, f + 1, a, b, i, σ, hb, hk, ha, hi, hf => by
    have b0 : b = 0 := by omega
    rw [fX6_reduce_9, if_neg (show ¬ (100 : Int32) ≤ nI i from nI_ge (b := 100) (by omega) (by omega)), b0, if_pos (show iL ((0 : Nat) : Int) = 0 from rfl), Nat.gcd_zero_right]
  | k + 1, f + 2, a, b, i, σ, hb, hk, ha, hi, hf => by
    have hpow : (2 : Nat) ^ (k + 1) = 2 * 2 ^ k := by rw [Nat.pow_succ]; omega
    have hp40 : (2 : Nat) ^ (k + 1) ≤ 2 ^ 40 := Nat.pow_le_pow_right (by decide) (by omega)
    have hb60 : b < 2 ^ 60 := by omega
    rw [fX6_reduce_9, if_neg (show ¬ (100 : Int32) ≤ nI i from nI_ge (b := 100) (by omega) (by omega))]
    by_cases b0 : b = 0
    · rw [b0, if_pos (show iL ((0 : Nat) : Int) = 0 from rfl), Nat.gcd_zero_right]
    · rw [if_neg (iL_ne0 (by omega) hb60), zrmL_eq (by omega) ha hb60, nI_1]
      have hr := Nat.mod_lt a (show 0 < b by omega)
      rw [fX6_reduce_9, if_neg (show ¬ (100 : Int32) ≤ nI (i + 1) from nI_ge (b := 100) (by omega) (by omega))]
      have g1 : Nat.gcd a b = Nat.gcd b (a % b) := by rw [Nat.gcd_comm a b, Nat.gcd_rec b a, Nat.gcd_comm]
      by_cases r0 : a % b = 0
      · rw [r0, if_pos (show iL ((0 : Nat) : Int) = 0 from rfl), g1, r0, Nat.gcd_zero_right]
      · rw [if_neg (iL_ne0 (by omega) (by omega)), zrmL_eq (by omega) hb60 (by omega), nI_1]
        have g2 : Nat.gcd b (a % b) = Nat.gcd (a % b) (b % (a % b)) := by rw [Nat.gcd_comm b, Nat.gcd_rec (a % b) b, Nat.gcd_comm]
        rw [g1, g2]
        have hr2 := Nat.mod_lt b (show 0 < a % b by omega)
        have hr3 : 2 * (b % (a % b)) < b := by
          have h := Nat.div_add_mod b (a % b)
          have : 1 ≤ b / (a % b) := Nat.div_pos (by omega) (by omega)
          have : (a % b) * 1 ≤ (a % b) * (b / (a % b)) := Nat.mul_le_mul_left _ this
          omega
        exact zgcd_loop k f (a % b) (b % (a % b)) (i + 2) σ (by omega) (by omega) (by omega) (by omega) (by omega)
theorem zreduce {N top bot : Nat} {σ : zSt} (ht : top < 2 ^ 30) (hb : bot < 2 ^ 30) (hb0 : 0 < bot) (hN : 100 ≤ N) : fX6_reduce N (iL (top : Int)) (iL (bot : Int)) σ = some ((), zsl (zsl σ 23 7 (iL ((top / Nat.gcd bot top : Nat) : Int))) 23 8 (iL ((bot / Nat.gcd bot top : Nat) : Int))) := by
  unfold fX6_reduce
  rw [show (0 : Int32) = nI 0 from rfl, zgcd_loop 30 N bot top 0 σ ht (by omega) (by omega) (by omega) (by omega)]
  unfold fX6_reduce_44
  have g0 : 0 < Nat.gcd bot top := Nat.gcd_pos_of_pos_left _ hb0
  have gb : Nat.gcd bot top ≤ bot := Nat.gcd_le_left _ hb0
  have e1 : (top : Int) = (Nat.gcd bot top : Int) * ((top / Nat.gcd bot top : Nat) : Int) := by
    rw [← Int.natCast_mul, Nat.mul_div_cancel' (Nat.gcd_dvd_right bot top)]
  have e2 : (bot : Int) = (Nat.gcd bot top : Int) * ((bot / Nat.gcd bot top : Nat) : Int) := by
    rw [← Int.natCast_mul, Nat.mul_div_cancel' (Nat.gcd_dvd_left bot top)]
  have d1 : fX4_divide N (iL (top : Int)) (iL (Nat.gcd bot top : Int)) σ = some (iL ((top / Nat.gcd bot top : Nat) : Int), σ) := by
    have := zdivide_eq (N := N) (d := (Nat.gcd bot top : Int)) (q := ((top / Nat.gcd bot top : Nat) : Int)) (σ := σ) (by omega) (by unfold zB62; omega) (by rw [← e1]; unfold zB62; omega)
    rw [← e1] at this
    exact this
  have d2 : ∀ σ, fX4_divide N (iL (bot : Int)) (iL (Nat.gcd bot top : Int)) σ = some (iL ((bot / Nat.gcd bot top : Nat) : Int), σ) := fun σ => by
    have := zdivide_eq (N := N) (d := (Nat.gcd bot top : Int)) (q := ((bot / Nat.gcd bot top : Nat) : Int)) (σ := σ) (by omega) (by unfold zB62; omega) (by rw [← e2]; unfold zB62; omega)
    rw [← e2] at this
    exact this
  rw [d1, zbnd_some, zpfL_eq, d2, zbnd_some, zpfL_eq]
/-! ===== shares ===== -/
def zSu (n u : Nat) (x : Nat → Int) : Int := fb_si (fun c => (if u.testBit c then 1 else 0) * x c) n
theorem zSu_cong {n u : Nat} {x y : Nat → Int} (h : ∀ c, c < n → x c = y c) : zSu n u x = zSu n u y := fb_si_cong (fun c hc => by rw [h c hc])
theorem zSu_cong2 {n u v : Nat} {x : Nat → Int} (h : ∀ c, c < n → u.testBit c = v.testBit c) : zSu n u x = zSu n v x := fb_si_cong (fun c hc => by rw [h c hc])
theorem zSu_nn {n u : Nat} {x : Nat → Int} (h : ∀ c, c < n → 0 ≤ x c) : 0 ≤ zSu n u x := fb_si_nonneg (fun c hc => Int.mul_nonneg (by split <;> decide) (h c hc))
theorem zSu_all {n u : Nat} {x : Nat → Int} (h : ∀ c, c < n → u.testBit c = true) : zSu n u x = fb_si x n := fb_si_cong (fun c hc => by rw [h c hc, if_pos rfl, Int.one_mul])
theorem zSu_le {n u : Nat} {x : Nat → Int} (h : ∀ c, c < n → 0 ≤ x c) : zSu n u x ≤ fb_si x n := by
  have e : fb_si x n - zSu n u x = fb_si (fun c => x c - (if u.testBit c then 1 else 0) * x c) n := (fb_si_sub _ _ _).symm
  have : 0 ≤ fb_si (fun c => x c - (if u.testBit c then 1 else 0) * x c) n := fb_si_nonneg (fun c hc => by
    have := h c hc
    cases u.testBit c
    · rw [if_neg (by decide)]; omega
    · rw [if_pos rfl]; omega)
  omega
def zRok (n : Nat) (x : Nat → Int) (D : Int) (r : Nat × Int × Int) : Prop := r.2.1 * zSu n r.1 x ≤ r.2.2 * D
theorem zRw_sum {R : List (Nat × Int × Int)} {n r : Nat} {x : Nat → Int} : fb_si (fun c => zRw R n r c * x c) n = (R.getD r (0, 0, 0)).2.1 * zSu n (R.getD r (0, 0, 0)).1 x := by
  unfold zSu
  rw [← fb_si_mul]
  refine fb_si_cong (fun c hc => ?_)
  unfold zRw
  rw [if_neg (by omega), Int.mul_assoc]
theorem zRw_n {R : List (Nat × Int × Int)} {n r : Nat} : zRw R n r n = (R.getD r (0, 0, 0)).2.2 := if_pos rfl
theorem zFe_list {u n : Nat} {R : List (Nat × Int × Int)} {x : Nat → Int} {D : Int} (h : zFe ((u, 1, 0) :: R).length n 8 0 (zRw ((u, 1, 0) :: R) n) x D) : 0 < D ∧ (∀ c, c < n → 0 ≤ x c) ∧ (∀ y ∈ R, zRok n x D y) ∧ x 8 = -(zSu n u x) := by
  obtain ⟨h1, h2, h3, h4⟩ := h
  refine ⟨h1, h3, fun y hy => ?_, ?_⟩
  · obtain ⟨i, hi, e⟩ := List.mem_iff_getElem.mp hy
    have a1 := h2 (i + 1) (by simp; omega)
    have a2 := h4 (i + 1) (by simp; omega) (by omega)
    rw [zRw_sum, zRw_n] at a1
    have e2 : ((u, (1 : Int), (0 : Int)) :: R).getD (i + 1) (0, 0, 0) = y := by
      rw [List.getD_cons_succ, List.getD_eq_getElem?_getD, List.getElem?_eq_getElem hi, e]
      rfl
    rw [e2] at a1
    have a1 : 1 * x (8 + (i + 1)) + y.2.1 * zSu n y.1 x = y.2.2 * D := a1
    unfold zRok
    omega
  · have a1 := h2 0 (by simp)
    rw [zRw_sum, zRw_n] at a1
    have e2 : ((u, (1 : Int), (0 : Int)) :: R).getD 0 (0, 0, 0) = (u, 1, 0) := rfl
    rw [e2] at a1
    have a1 : 1 * x 8 + 1 * zSu n u x = 0 * D := a1
    omega
theorem zFe_back {u n : Nat} {R : List (Nat × Int × Int)} {y : Nat → Int} {D : Int} (hn : n ≤ 8) (hD : 0 < D) (h0 : ∀ c, c < n → 0 ≤ y c) (hR : ∀ z ∈ R, zRok n y D z) : ∃ x, zFe ((u, 1, 0) :: R).length n 8 0 (zRw ((u, 1, 0) :: R) n) x D ∧ x 8 = -(zSu n u y) := by
  refine ⟨fun v => if v < n then y v else (((u, (1 : Int), (0 : Int)) :: R).getD (v - 8) (0, 0, 0)).2.2 * D - (((u, (1 : Int), (0 : Int)) :: R).getD (v - 8) (0, 0, 0)).2.1 * zSu n (((u, (1 : Int), (0 : Int)) :: R).getD (v - 8) (0, 0, 0)).1 y, ⟨hD, fun r hr => ?_, fun c hc => ?_, fun r hr hr0 => ?_⟩, ?_⟩
  · rw [zRw_sum, zRw_n]
    try dsimp only
    rw [if_neg (by omega), show 8 + r - 8 = r by omega]
    have e : zSu n (((u, (1 : Int), (0 : Int)) :: R).getD r (0, 0, 0)).1 (fun v => if v < n then y v else (((u, (1 : Int), (0 : Int)) :: R).getD (v - 8) (0, 0, 0)).2.2 * D - (((u, (1 : Int), (0 : Int)) :: R).getD (v - 8) (0, 0, 0)).2.1 * zSu n (((u, (1 : Int), (0 : Int)) :: R).getD (v - 8) (0, 0, 0)).1 y) = zSu n (((u, (1 : Int), (0 : Int)) :: R).getD r (0, 0, 0)).1 y := zSu_cong (fun c hc => if_pos hc)
    rw [e]
    omega
  · try dsimp only
    rw [if_pos hc]
    exact h0 c hc
  · try dsimp only
    rw [if_neg (by omega), show 8 + r - 8 = r by omega]
    obtain ⟨i, rfl⟩ : ∃ i, r = i + 1 := ⟨r - 1, by omega⟩
    have hi : i < R.length := by simp at hr; omega
    have := hR R[i] (List.getElem_mem hi)
    have e2 : ((u, (1 : Int), (0 : Int)) :: R).getD (i + 1) (0, 0, 0) = R[i] := by
      rw [List.getD_cons_succ, List.getD_eq_getElem?_getD, List.getElem?_eq_getElem hi]
      rfl
    rw [e2]
    unfold zRok at this
    omega
  · try dsimp only
    rw [if_neg (by omega)]
    show (0 : Int) * D - 1 * zSu n u y = _
    omega
def zmx (k : Nat) : Nat := ([0, 1, 2, 1, 2, 2] : List Nat).getD k 0
def zShare (cnt : Nat) (lo hi : Nat → Nat) (y : Nat → Int) (D : Int) : Prop :=
  0 < D ∧ (∀ w, w < 2 ^ cnt → 0 ≤ y w) ∧ fb_si y (2 ^ cnt) = 100 * D ∧ ∀ k, k < 6 → zmx k < cnt → (lo k : Int) * D ≤ zSu (2 ^ cnt) (zM k) y ∧ zSu (2 ^ cnt) (zM k) y ≤ (hi k : Int) * D
theorem zCR_iff {cnt : Nat} {lo hi : Nat → Nat} (hc : cnt ≤ 3) (P : Nat × Int × Int → Prop) : (∀ z ∈ zCR cnt lo hi, P z) ↔ ∀ k, k < 6 → zmx k < cnt → ∀ z ∈ zSk lo hi k, P z := by
  have six : ∀ (Q : Nat → Prop), (∀ k, k < 6 → Q k) ↔ (Q 0 ∧ Q 1 ∧ Q 2 ∧ Q 3 ∧ Q 4 ∧ Q 5) := fun Q => ⟨fun h => ⟨h 0 (by decide), h 1 (by decide), h 2 (by decide), h 3 (by decide), h 4 (by decide), h 5 (by decide)⟩, fun ⟨a, b, c, d, e, f⟩ k hk => by
    rcases (show k = 0 ∨ k = 1 ∨ k = 2 ∨ k = 3 ∨ k = 4 ∨ k = 5 by omega) with q | q | q | q | q | q <;> rw [q] <;> assumption⟩
  rw [six]
  have e0 : zmx 0 = 0 := rfl
  have e1 : zmx 1 = 1 := rfl
  have e2 : zmx 2 = 2 := rfl
  have e3 : zmx 3 = 1 := rfl
  have e4 : zmx 4 = 2 := rfl
  have e5 : zmx 5 = 2 := rfl
  rw [e0, e1, e2, e3, e4, e5]
  rcases (show cnt = 0 ∨ cnt = 1 ∨ cnt = 2 ∨ cnt = 3 by omega) with q | q | q | q <;> subst q
  · rw [show zCR 0 lo hi = [] from rfl]
    exact ⟨fun _ => ⟨fun h => absurd h (by decide), fun h => absurd h (by decide), fun h => absurd h (by decide), fun h => absurd h (by decide), fun h => absurd h (by decide), fun h => absurd h (by decide)⟩, fun _ z hz => absurd hz List.not_mem_nil⟩
  · rw [show zCR 1 lo hi = zSk lo hi 0 from rfl]
    exact ⟨fun g => ⟨fun _ => g, fun h => absurd h (by decide), fun h => absurd h (by decide), fun h => absurd h (by decide), fun h => absurd h (by decide), fun h => absurd h (by decide)⟩, fun g => g.1 (by decide)⟩
  · rw [show zCR 2 lo hi = zSk lo hi 0 ++ zSk lo hi 1 ++ zSk lo hi 3 from rfl, List.forall_mem_append, List.forall_mem_append]
    exact ⟨fun g => ⟨fun _ => g.1.1, fun _ => g.1.2, fun h => absurd h (by decide), fun _ => g.2, fun h => absurd h (by decide), fun h => absurd h (by decide)⟩, fun g => ⟨⟨g.1 (by decide), g.2.1 (by decide)⟩, g.2.2.2.1 (by decide)⟩⟩
  · rw [show zCR 3 lo hi = zSk lo hi 0 ++ zSk lo hi 1 ++ zSk lo hi 3 ++ zSk lo hi 2 ++ zSk lo hi 4 ++ zSk lo hi 5 from rfl, List.forall_mem_append, List.forall_mem_append, List.forall_mem_append, List.forall_mem_append, List.forall_mem_append]
    exact ⟨fun g => ⟨fun _ => g.1.1.1.1.1, fun _ => g.1.1.1.1.2, fun _ => g.1.1.2, fun _ => g.1.1.1.2, fun _ => g.1.2, fun _ => g.2⟩, fun g => ⟨⟨⟨⟨⟨g.1 (by decide), g.2.1 (by decide)⟩, g.2.2.2.1 (by decide)⟩, g.2.2.1 (by decide)⟩, g.2.2.2.2.1 (by decide)⟩, g.2.2.2.2.2 (by decide)⟩⟩
theorem zSpn_iff {n u lo hi : Nat} {x : Nat → Int} {D : Int} (hD : 0 < D) (h0 : ∀ c, c < n → 0 ≤ x c) (ht : fb_si x n = 100 * D) (hh : hi ≤ 100) : (∀ z ∈ zSpn u lo hi, zRok n x D z) ↔ (lo : Int) * D ≤ zSu n u x ∧ zSu n u x ≤ (hi : Int) * D := by
  have a1 := zSu_nn (u := u) h0
  have a2 := zSu_le (u := u) h0
  unfold zSpn
  rw [List.forall_mem_append]
  have p1 : (∀ z ∈ (if hi < 100 then [(u, (1 : Int), (hi : Int))] else []), zRok n x D z) ↔ zSu n u x ≤ (hi : Int) * D := by
    by_cases e : hi < 100
    · rw [if_pos e]
      refine ⟨fun h => ?_, fun h z hz => ?_⟩
      · have := h _ (List.mem_singleton.mpr rfl)
        unfold zRok at this
        dsimp only at this
        omega
      · rw [List.mem_singleton.mp hz]
        unfold zRok
        dsimp only
        omega
    · rw [if_neg e]
      have : hi = 100 := by omega
      rw [this]
      refine ⟨fun _ => ?_, fun _ z hz => absurd hz List.not_mem_nil⟩
      show zSu n u x ≤ 100 * D
      omega
  have p2 : (∀ z ∈ (if 0 < lo then [(u, (-1 : Int), -(lo : Int))] else []), zRok n x D z) ↔ (lo : Int) * D ≤ zSu n u x := by
    by_cases e : 0 < lo
    · rw [if_pos e]
      refine ⟨fun h => ?_, fun h z hz => ?_⟩
      · have := h _ (List.mem_singleton.mpr rfl)
        unfold zRok at this
        dsimp only at this
        have e9 := Int.neg_mul (lo : Int) D
        omega
      · rw [List.mem_singleton.mp hz]
        unfold zRok
        dsimp only
        have e9 := Int.neg_mul (lo : Int) D
        omega
    · rw [if_neg e]
      have : lo = 0 := by omega
      rw [this]
      refine ⟨fun _ => ?_, fun _ z hz => absurd hz List.not_mem_nil⟩
      show (0 : Int) * D ≤ zSu n u x
      omega
  rw [p1, p2]
  exact ⟨fun h => ⟨h.2, h.1⟩, fun h => ⟨h.2, h.1⟩⟩
def zAll (cnt : Nat) : Nat := 2 ^ (2 ^ cnt) - 1
theorem zAll_bit {cnt c : Nat} (h : c < 2 ^ cnt) : (zAll cnt).testBit c = true := by
  unfold zAll
  rw [Nat.testBit_two_pow_sub_one]
  exact decide_eq_true h
abbrev zRR (cnt : Nat) (lo hi : Nat → Nat) : List (Nat × Int × Int) := (zAll cnt, 1, 100) :: (zAll cnt, -1, -100) :: zCR cnt lo hi
theorem zRR_iff {cnt : Nat} {lo hi : Nat → Nat} {x : Nat → Int} {D : Int} (hc : cnt ≤ 3) (hh : ∀ k, k < 6 → hi k ≤ 100) (hD : 0 < D) (h0 : ∀ c, c < 2 ^ cnt → 0 ≤ x c) : (∀ z ∈ zRR cnt lo hi, zRok (2 ^ cnt) x D z) ↔ zShare cnt lo hi x D := by
  have ea : zSu (2 ^ cnt) (zAll cnt) x = fb_si x (2 ^ cnt) := zSu_all (fun c hc => zAll_bit hc)
  have r1 : zRok (2 ^ cnt) x D (zAll cnt, 1, 100) ↔ fb_si x (2 ^ cnt) ≤ 100 * D := by
    unfold zRok; dsimp only; rw [ea, Int.one_mul]
  have r2 : zRok (2 ^ cnt) x D (zAll cnt, -1, -100) ↔ 100 * D ≤ fb_si x (2 ^ cnt) := by
    unfold zRok; dsimp only; rw [ea]; omega
  rw [List.forall_mem_cons, List.forall_mem_cons, r1, r2, zCR_iff hc]
  constructor
  · rintro ⟨a, b, c⟩
    have ht : fb_si x (2 ^ cnt) = 100 * D := by omega
    exact ⟨hD, h0, ht, fun k hk hm => (zSpn_iff hD h0 ht (hh k hk)).mp (c k hk hm)⟩
  · rintro ⟨-, -, ht, c⟩
    exact ⟨by omega, by omega, fun k hk hm => (zSpn_iff hD h0 ht (hh k hk)).mpr (c k hk hm)⟩
def zMin (cnt : Nat) (lo hi : Nat → Nat) (u : Nat) (v d : Int) : Prop := 0 < d ∧ (∃ y D, zShare cnt lo hi y D ∧ zSu (2 ^ cnt) u y * d = v * D) ∧ ∀ y D, zShare cnt lo hi y D → v * D ≤ zSu (2 ^ cnt) u y * d
