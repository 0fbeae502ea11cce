/-! ===== borne up, rounds ===== -/
theorem zdo_b : ∀ f, f < 4 → 1 ≤ zdo f ∧ zdo f ≤ 3 := by decide
theorem zcdo {N s : Nat} {a : zA} {σ : zSt} (h : zCN σ a) (ho : zOk a) (hs : s < a 0 1) : fX2_doubtsOf N (nI s) σ = some (nI (zdo (a 6 s)), σ) := by
  have h16 := ho.2.1
  have o1 := (ho.2.2.2.2 s hs).1
  have e : ∀ f, f < 4 → zTD f = nI (zdo f) := by decide
  unfold fX2_doubtsOf
  rw [zag_nI (by omega) (by omega), (h.2.2.2.2 s hs).1, ztab_nI (by omega) (by omega), e _ (by omega)]
theorem zmdo {N f : Nat} {σ : zSt} (hf : f ≤ 3) : fX8_doubtsOf N (nI f) σ = some (nI (zdo f), σ) := by
  unfold fX8_doubtsOf
  rcases (show f = 0 ∨ f = 1 ∨ f = 2 ∨ f = 3 by omega) with e | e | e | e <;> subst e <;> rfl
theorem z3 {r c : Nat} : (3 : Int32) * nI r + nI c = nI (3 * r + c) := by
  show nI 3 * nI r + nI c = _
  rw [pk_mul, nI_add]
theorem z6 {r c : Nat} : (6 : Int32) * nI r + nI c = nI (6 * r + c) := by
  show nI 6 * nI r + nI c = _
  rw [pk_mul, nI_add]
theorem z3' {r c : Nat} : nI r * (3 : Int32) + nI c = nI (3 * r + c) := by
  show nI r * nI 3 + nI c = _
  rw [pk_mul, nI_add, Nat.mul_comm]
theorem z6' {r c : Nat} : nI r * (6 : Int32) + nI c = nI (6 * r + c) := by
  show nI r * nI 6 + nI c = _
  rw [pk_mul, nI_add, Nat.mul_comm]
theorem zmopen_loop {N s : Nat} {a : zA} {σ : zSt} (h : zMN σ a) (ho : zOk a) (hs : s < a 0 1) : ∀ (g f k : Nat), g < f → k + g = zdo (a 6 s) → fX8_openOf_4 N f (nI s) (nI (fb_ct (fun k => a 10 (3 * s + k) == 0) k)) (nI k) σ = some (nI (zop a s), σ)
  | 0, f + 1, k, _, hk => by
    have h16 := ho.2.1
    have o1 := (ho.2.2.2.2 s hs).1
    have o2 := zdo_b (a 6 s) (by omega)
    rw [fX8_openOf_4, zag_nI (by omega) (by omega), (h.2.2.2.2 s hs).1, zmdo o1, zbnd_some, if_pos (nI_le (by omega) (by omega)), show k = zdo (a 6 s) by omega]
    rfl
  | g + 1, f + 1, k, hf, hk => by
    have h16 := ho.2.1
    have o1 := (ho.2.2.2.2 s hs).1
    have o2 := zdo_b (a 6 s) (by omega)
    have o3 := ((ho.2.2.2.2 s hs).2.2.2.2.2.2.2 k (by omega)).1
    rw [fX8_openOf_4, zag_nI (by omega) (by omega), (h.2.2.2.2 s hs).1, zmdo o1, zbnd_some, if_neg (nI_ge (by omega) (by omega)), z3, zag_nI (by omega) (by omega), (h.2.2.2.2 s hs).2.2.2.2 k (by omega)]
    have ih := zmopen_loop (N := N) h ho hs g f (k + 1) (by omega) (by omega)
    rw [fb_ct_succ] at ih
    by_cases q : a 10 (3 * s + k) = 0
    · rw [if_pos (show nI (a 10 (3 * s + k)) = 0 by rw [q]; rfl), fX8_openOf_36, znm_eq, nI_1, nI_1]
      have : (a 10 (3 * s + k) == 0) = true := by rw [q]; rfl
      rw [this, if_pos rfl] at ih
      exact ih
    · rw [if_neg (nI_ne0 (by omega) (by omega)), fX8_openOf_36, znm_eq, show (0 : Int32) = nI 0 from rfl, nI_add, nI_1]
      have : (a 10 (3 * s + k) == 0) = false := by simp; exact q
      rw [this, if_neg (by decide)] at ih
      exact ih
theorem zmopen {N s : Nat} {a : zA} {σ : zSt} (h : zMN σ a) (ho : zOk a) (hs : s < a 0 1) (hN : 600000 ≤ N) : fX8_openOf N (nI s) σ = some (nI (zop a s), σ) := by
  have o1 := (ho.2.2.2.2 s hs).1
  have o2 := zdo_b (a 6 s) (by omega)
  exact zmopen_loop (N := N) h ho hs (zdo (a 6 s)) N 0 (by omega) (by omega)
theorem zop_le {a : zA} {s : Nat} (ho : zOk a) (hs : s < a 0 1) : zop a s ≤ 3 := by
  have o1 := (ho.2.2.2.2 s hs).1
  have o2 := zdo_b (a 6 s) (by omega)
  have := fb_ct_le (fun k => a 10 (3 * s + k) == 0) (zdo (a 6 s))
  unfold zop
  omega
theorem zmborne_loop {N s : Nat} {a : zA} {σ : zSt} {P : Nat → Bool} (h : zMN σ a) (ho : zOk a) (hs : s < a 0 1) : ∀ (g f j : Nat), g < f → j + g = a 8 s → fX8_isBorneUp_5 N f (nI s) (nI (zS P)) (nI (fb_ct (fun j => P (a 9 (6 * s + j))) j)) (nI j) σ = some (nI (if zbu a s P then 1 else 0), σ)
  | 0, f + 1, j, _, hj => by
    have h16 := ho.2.1
    have h20 := ho.1
    obtain ⟨o1, o2, o3, o4, o5, o6, o7, o8⟩ := ho.2.2.2.2 s hs
    obtain ⟨c1, c2, c3, c4, c5⟩ := h.2.2.2.2 s hs
    have hj' : j = a 8 s := by omega
    subst hj'
    have hle := fb_ct_le (fun j => P (a 9 (6 * s + j))) (a 8 s)
    rw [fX8_isBorneUp_5, zag_nI (by omega) (by omega), c3, if_pos (nI_le (by omega) (by omega)), zag_nI (by omega) (by omega), c1]
    unfold zbu
    by_cases f0 : a 6 s = 0
    · rw [if_pos (show nI (a 6 s) = 0 by rw [f0]; rfl), if_pos f0, zag_nI (by omega) (by omega), c3]
      by_cases q : fb_ct (fun j => P (a 9 (6 * s + j))) (a 8 s) = a 8 s
      · have : (fb_ct (fun j => P (a 9 (6 * s + j))) (a 8 s) == a 8 s) = true := by rw [q]; simp
        rw [this, q, if_pos rfl, if_pos rfl]; exact zrz_1
      · have : (fb_ct (fun j => P (a 9 (6 * s + j))) (a 8 s) == a 8 s) = false := by simp; exact q
        rw [this, if_neg (fun e => q ((nI_eq (by omega) (by omega)).mp e)), if_neg (by decide)]; exact zrz_0
    · rw [if_neg (nI_ne0 (by omega) (by omega)), if_neg f0, zag_nI (by omega) (by omega), c1]
      by_cases f1 : a 6 s = 1
      · rw [if_pos (show nI (a 6 s) = 1 by rw [f1]; rfl), if_pos f1]
        by_cases q : 0 < fb_ct (fun j => P (a 9 (6 * s + j))) (a 8 s)
        · rw [if_neg (nI_nle q (by omega)), decide_eq_true q, if_pos rfl]; exact zrz_1
        · rw [if_pos (show nI _ ≤ (0 : Int32) from nI_le (b := 0) (by omega) (by omega)), decide_eq_false q, if_neg (by decide)]; exact zrz_0
      · rw [if_neg (show ¬ nI (a 6 s) = (1 : Int32) from fun e => f1 ((nI_eq (b := 1) (by omega) (by omega)).mp e)), if_neg f1, zag_nI (by omega) (by omega), c1]
        by_cases f2 : a 6 s = 2
        · rw [if_pos (show nI (a 6 s) = 2 by rw [f2]; rfl), if_pos f2, zag_nI (by omega) (by omega), c3, show (2 : Int32) = nI 2 from rfl, pk_mul]
          by_cases q : a 8 s < 2 * fb_ct (fun j => P (a 9 (6 * s + j))) (a 8 s)
          · rw [if_neg (nI_ge q (by omega)), decide_eq_true q, if_pos rfl]; exact zrz_1
          · rw [if_pos (nI_le (by omega) (by omega)), decide_eq_false q, if_neg (by decide)]; exact zrz_0
        · have c40 := c4 0 (by omega)
          have o60 := o6 0 (by omega)
          rw [Nat.add_zero] at c40 o60
          have e60 : (6 : Int32) * nI s = nI (6 * s) := pk_mul 6 s
          rw [if_neg (show ¬ nI (a 6 s) = (2 : Int32) from fun e => f2 ((nI_eq (b := 2) (by omega) (by omega)).mp e)), if_neg f2, e60, zag_nI (by omega) (by omega), c40, zS_at (by omega)]
          cases P (a 9 (6 * s))
          · rw [if_neg (by decide), if_neg (by decide)]; exact zrz_0
          · rw [if_pos (by decide), if_pos (by decide)]; exact zrz_1
  | g + 1, f + 1, j, hf, hj => by
    have h16 := ho.2.1
    have h20 := ho.1
    obtain ⟨o1, o2, o3, o4, o5, o6, o7, o8⟩ := ho.2.2.2.2 s hs
    obtain ⟨c1, c2, c3, c4, c5⟩ := h.2.2.2.2 s hs
    have o6j := o6 j (by omega)
    rw [fX8_isBorneUp_5, zag_nI (by omega) (by omega), c3, if_neg (nI_ge (by omega) (by omega)), z6, zag_nI (by omega) (by omega), znm_eq, c4 j (by omega), zS_at (by omega), nI_add, nI_1]
    exact zmborne_loop (N := N) h ho hs g f (j + 1) (by omega) (by omega)
theorem zmborne {N s : Nat} {a : zA} {σ : zSt} {P : Nat → Bool} (h : zMN σ a) (ho : zOk a) (hs : s < a 0 1) (hN : 600000 ≤ N) : fX8_isBorneUp N (nI s) (nI (zS P)) σ = some (nI (if zbu a s P then 1 else 0), σ) := by
  have := (ho.2.2.2.2 s hs).2.2.2.2.1
  exact zmborne_loop (N := N) h ho hs (a 8 s) N 0 (by omega) (by omega)
theorem zpt_lt {a : zA} {s n : Nat} (ho : zOk a) (hs : s < a 0 1) (h : zpt a s n = true) : n < a 0 0 := by
  obtain ⟨j, hj, e⟩ := zim_iff.mp h
  have := (ho.2.2.2.2 s hs).2.2.2.2.2.1 j hj
  rw [← e]
  exact this
theorem zS_zero {Q : Nat → Bool} : nI (zS Q) = 0 ↔ ∀ n, n < 20 → Q n = false := by
  have : (0 : Int32) = nI (zS (fun _ => false)) := by rw [zS_0]; rfl
  rw [this, zS_eq]
theorem zcborne {N s : Nat} {a : zA} {σ : zSt} {P : Nat → Bool} (h : zCN σ a) (ho : zOk a) (hs : s < a 0 1) : fX2_isBorneUp N (nI s) (nI (zS P)) σ = some (nI (if zbu a s P then 1 else 0), σ) := by
  have h16 := ho.2.1
  have h20 := ho.1
  obtain ⟨o1, o2, o3, o4, o5, o6, o7, o8⟩ := ho.2.2.2.2 s hs
  obtain ⟨c1, c2, c3, c4, c5, c6, c7⟩ := h.2.2.2.2 s hs
  have hct : fb_ct (fun n => zpt a s n && P n) 20 = fb_ct (fun j => P (a 9 (6 * s + j))) (a 8 s) := zim_ct o7 (fun j hj => by have := o6 j hj; omega)
  have hle := fb_ct_le (fun j => P (a 9 (6 * s + j))) (a 8 s)
  unfold fX2_isBorneUp zbu
  rw [zag_nI (by omega) (by omega), c4, znm_eq, zS_and, zag_nI (by omega) (by omega), c1]
  by_cases f0 : a 6 s = 0
  · rw [if_pos (show nI (a 6 s) = (0 : Int32) by rw [f0]; rfl), if_pos f0, zag_nI (by omega) (by omega), c4]
    by_cases q : fb_ct (fun j => P (a 9 (6 * s + j))) (a 8 s) = a 8 s
    · have hall := fb_ct_all.mp q
      have e : nI (zS (fun i => zpt a s i && P i)) = nI (zS (zpt a s)) := zS_eq.mpr (fun n hn => by
        cases hz : zpt a s n
        · rfl
        · obtain ⟨j, hj, ej⟩ := zim_iff.mp hz
          have := hall j hj
          have ej : a 9 (6 * s + j) = n := ej
          rw [ej] at this
          rw [this]; rfl)
      have : (fb_ct (fun j => P (a 9 (6 * s + j))) (a 8 s) == a 8 s) = true := by rw [q]; simp
      rw [if_pos e, this, if_pos rfl]; exact zrz_1
    · have : (fb_ct (fun j => P (a 9 (6 * s + j))) (a 8 s) == a 8 s) = false := by simp; exact q
      rw [if_neg (fun e => q (fb_ct_all.mpr (fun j hj => ?_))), this, if_neg (by decide)]
      · exact zrz_0
      · have o6j := o6 j hj
        have e2 := zS_eq.mp e (a 9 (6 * s + j)) (by omega)
        have e3 : zpt a s (a 9 (6 * s + j)) = true := zim_iff.mpr ⟨j, hj, rfl⟩
        rw [e3, Bool.true_and] at e2
        exact e2
  · rw [if_neg (show ¬ nI (a 6 s) = (0 : Int32) from nI_ne0 (by omega) (by omega)), if_neg f0]
    by_cases f1 : a 6 s = 1
    · rw [if_pos (show nI (a 6 s) = (1 : Int32) by rw [f1]; rfl), if_pos f1]
      by_cases q : 0 < fb_ct (fun j => P (a 9 (6 * s + j))) (a 8 s)
      · obtain ⟨j, hj, hp⟩ := fb_ct_pos.mp q
        have o6j := o6 j hj
        rw [if_neg (fun e => ?_), decide_eq_true q, if_pos rfl]
        · exact zrz_1
        · have e2 := zS_zero.mp e (a 9 (6 * s + j)) (by omega)
          have e3 : zpt a s (a 9 (6 * s + j)) = true := zim_iff.mpr ⟨j, hj, rfl⟩
          rw [e3, Bool.true_and] at e2
          have hp : P (a 9 (6 * s + j)) = true := hp
          rw [hp] at e2
          exact absurd e2 (by decide)
      · rw [if_pos (zS_zero.mpr (fun n hn => ?_)), decide_eq_false q, if_neg (by decide)]
        · exact zrz_0
        · rw [← hct] at q
          have q0 : fb_ct (fun n => zpt a s n && P n) 20 = 0 := by omega
          exact fb_ct_zero.mp q0 n hn
    · rw [if_neg (show ¬ nI (a 6 s) = (1 : Int32) from fun e => f1 ((nI_eq (b := 1) (by omega) (by omega)).mp e)), if_neg f1]
      by_cases f2 : a 6 s = 2
      · have hb : fb_ct (fun i => (zS (fun i => zpt a s i && P i)).testBit i) 20 = fb_ct (fun j => P (a 9 (6 * s + j))) (a 8 s) := by
          rw [← hct]
          exact fb_ct_cong (fun k hk => zS_bit hk)
        rw [if_pos (show nI (a 6 s) = (2 : Int32) by rw [f2]; rfl), if_pos f2, zbitCount zS_lt, zbnd_some, hb, zag_nI (by omega) (by omega), c3, show (2 : Int32) = nI 2 from rfl, pk_mul]
        by_cases q : a 8 s < 2 * fb_ct (fun j => P (a 9 (6 * s + j))) (a 8 s)
        · rw [if_neg (nI_ge q (by omega)), decide_eq_true q, if_pos rfl]; exact zrz_1
        · rw [if_pos (nI_le (by omega) (by omega)), decide_eq_false q, if_neg (by decide)]; exact zrz_0
      · have c60 := c6 0 (by omega)
        have o60 := o6 0 (by omega)
        rw [Nat.add_zero] at c60 o60
        have e60 : nI s * (6 : Int32) = nI (6 * s) := by rw [Nat.mul_comm]; exact pk_mul s 6
        rw [if_neg (show ¬ nI (a 6 s) = (2 : Int32) from fun e => f2 ((nI_eq (b := 2) (by omega) (by omega)).mp e)), if_neg f2, e60, zag_nI (by omega) (by omega), c60, zS_at (by omega)]
        cases P (a 9 (6 * s))
        · rw [if_neg (by decide), if_neg (by decide)]; exact zrz_0
        · rw [if_pos (by decide), if_pos (by decide)]; exact zrz_1
