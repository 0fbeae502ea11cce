/-! ===== the reference's plan ===== -/
theorem zTab_bdB {m n B : Nat} {t0 t : Nat → Nat → Int} {d : Int} {rn cn : Nat → Nat} (hm : m ≤ 15) (hB : n ≤ B) (hn : B ≤ 8) (h0 : zSm m n t0) (h : zTab m n B t0 t d rn cn) : zBd m n t d rn cn := by
  obtain ⟨h1, h2⟩ := zTab_small hB h0 h
  have hf : ∀ n, n < 9 → zfac n ≤ 40320 := by decide
  have hg : ∀ n, n < 9 → (n + 1) * (100 * zfac n) ≤ 36288000 := by decide
  have a1 := hf n (by omega)
  have a2 := hg n (by omega)
  have a3 : ((n : Int) + 1) * (100 * zfac n) ≤ 36288000 := by
    have e : ((n : Int) + 1) * (100 * zfac n) = (((n + 1) * (100 * zfac n) : Nat) : Int) := by rw [Int.natCast_mul, Int.natCast_add, Int.natCast_mul]; rfl
    rw [e]
    exact Int.ofNat_le.mpr a2
  obtain ⟨n1, n2, n3, n4, n5, n6⟩ := h.2.2.2
  refine ⟨hm, by omega, h.1, by omega, fun r hr c hc => ?_, fun r hr c hc => ?_, fun r hr => ?_, fun c hc => ?_⟩
  · obtain ⟨b1, b2, b3⟩ := h2 r hr
    by_cases q : c = n
    · rw [q]; omega
    · have := b1 c (by omega)
      omega
  · have := (h2 r hr).1 c hc
    omega
  · have := n4 r hr
    omega
  · have := n5 c hc
    omega
def zTM (σ : zSt) (q n : Nat) (t : Nat → Nat → Int) (d : Int) (rn cn : Nat → Nat) : Prop :=
  σ.1 0 36 = nI q ∧ σ.1 0 37 = nI n ∧ σ.2 0 38 = iL d ∧ (∀ r, r ≤ q → ∀ c, c ≤ n → σ.2 19 (8 * r + c) = iL (t r c)) ∧ (∀ r, r < q → σ.1 20 r = nI (rn r)) ∧ (∀ c, c < n → σ.1 21 c = nI (cn c))
def zFM (σ τ : zSt) : Prop := (∀ k, k ≠ 20 → k ≠ 21 → τ.1 k = σ.1 k) ∧ (∀ k, k ≠ 19 → k ≠ 0 → τ.2 k = σ.2 k)
theorem zFM_rfl {σ : zSt} : zFM σ σ := ⟨fun _ _ _ => rfl, fun _ _ _ => rfl⟩
theorem zFM_trans {σ τ υ : zSt} (h1 : zFM σ τ) (h2 : zFM τ υ) : zFM σ υ := ⟨fun k a b => (h2.1 k a b).trans (h1.1 k a b), fun k a b => (h2.2 k a b).trans (h1.2 k a b)⟩
theorem z8 {r c : Nat} : (8 : Int32) * nI r + nI c = nI (8 * r + c) := by
  show nI 8 * nI r + nI c = _
  rw [pk_mul, nI_add]
theorem zat_M {N r c : Nat} {σ : zSt} (h : 8 * r + c < 112) : fX8_at N (nI r) (nI c) σ = some (σ.2 19 (8 * r + c), σ) := by
  unfold fX8_at
  rw [z8, zagL_nI h (by omega)]
theorem zput_M {N r c : Nat} {σ : zSt} {v : Int64} (h : 8 * r + c < 112) : fX8_put N (nI r) (nI c) v σ = some ((), zsl σ 19 (8 * r + c) v) := by
  unfold fX8_put
  rw [z8, zasL_nI h (by omega)]
def zPk (P : Nat → Prop) (nm : Nat → Nat) (i : Nat) (b : Int32) : Prop :=
  (b = -1000000 ∧ ∀ k, k < i → ¬ P k) ∨ ∃ k, b = nI k ∧ k < i ∧ P k ∧ ∀ j, j < i → P j → nm k ≤ nm j
theorem zPk_no {P : Nat → Prop} {nm : Nat → Nat} {i : Nat} {b : Int32} (h : zPk P nm i b) (hP : ¬ P i) : zPk P nm (i + 1) b := by
  rcases h with ⟨e, ha⟩ | ⟨k, e, k1, k2, ha⟩
  · exact Or.inl ⟨e, fun r hr => if q : r = i then by rw [q]; exact hP else ha r (by omega)⟩
  · exact Or.inr ⟨k, e, by omega, k2, fun r hr hp => if q : r = i then absurd (q ▸ hp) hP else ha r (by omega) hp⟩
theorem zPk_first {P : Nat → Prop} {nm : Nat → Nat} {i : Nat} {b : Int32} (h : zPk P nm i b) (hb : b = -1000000) (hi : i < 2 ^ 20) (hP : P i) : zPk P nm (i + 1) (nI i) := by
  rcases h with ⟨e, ha⟩ | ⟨k, e, k1, k2, ha⟩
  · exact Or.inr ⟨i, rfl, by omega, hP, fun r hr hp => if q : r = i then by rw [q]; exact Nat.le_refl _ else absurd hp (ha r (by omega))⟩
  · rw [e] at hb
    have := nI_pos (n := k) (by omega)
    rw [hb] at this
    exact absurd (by decide) this
theorem zPk_keep {P : Nat → Prop} {nm : Nat → Nat} {i k : Nat} (h : zPk P nm i (nI k)) (hk : k < 2 ^ 20) (hi : i < 2 ^ 20) (hle : nm k ≤ nm i) : zPk P nm (i + 1) (nI k) := by
  rcases h with ⟨e, ha⟩ | ⟨k', e, k1, k2, ha⟩
  · have := nI_pos (n := k) (by omega)
    rw [e] at this
    exact absurd (by decide) this
  · have e := (nI_eq (by omega) (by omega)).mp e
    subst e
    exact Or.inr ⟨k, rfl, by omega, k2, fun r hr hp => if q : r = i then by rw [q]; exact hle else ha r (by omega) hp⟩
theorem zPk_new {P : Nat → Prop} {nm : Nat → Nat} {i k : Nat} (h : zPk P nm i (nI k)) (hk : k < 2 ^ 20) (hi : i < 2 ^ 20) (hle : ¬ nm k ≤ nm i) (hP : P i) : zPk P nm (i + 1) (nI i) := by
  rcases h with ⟨e, ha⟩ | ⟨k', e, k1, k2, ha⟩
  · have := nI_pos (n := k) (by omega)
    rw [e] at this
    exact absurd (by decide) this
  · have e := (nI_eq (by omega) (by omega)).mp e
    subst e
    exact Or.inr ⟨i, rfl, by omega, hP, fun r hr hp => if q : r = i then by rw [q]; exact Nat.le_refl _ else by have := ha r (by omega) hp; omega⟩
theorem zNone_ne {k : Nat} (h : k < 2 ^ 20) : ¬ nI k = -1000000 := fun e => by
  have := nI_pos (n := k) (by omega)
  rw [e] at this
  exact absurd (by decide) this
theorem iL_np {a : Int} (h1 : -zB62 < a) (h2 : a < zB62) : iL a ≤ (0 : Int64) ↔ a ≤ 0 := by
  rw [← iL_0]
  exact iL_le ⟨h1, h2⟩ (by unfold zB62; omega)
theorem zleastRow_loop {N q n : Nat} {t : Nat → Nat → Int} {d : Int} {rn cn : Nat → Nat} {σ : zSt}  (h : zTM σ q n t d rn cn) (hb : zBd (q + 1) n t d rn cn) (hq : q ≤ 13) (hn : n ≤ 7) : ∀ (g f i : Nat) (b : Int32), g < f → i + g = q → zPk (fun i => t i n < 0) rn i b → ∃ b', fX8_leastRow_5 N f  b (nI i) σ = some (b', σ) ∧ zPk (fun i => t i n < 0) rn q b'
  | 0, f + 1, i, b, _, hi, hB => by
    rw [fX8_leastRow_5, h.1, if_pos (nI_le (by omega) (by omega))]
    exact ⟨b, rfl, by rw [← hi]; exact hB⟩
  | g + 1, f + 1, i, b, hf, hi, hB => by
    have hb' := hb
    obtain ⟨-, -, -, -, ht, -, hr, hc⟩ := hb
    have hv := ht i (by omega) n (by omega)
    rw [fX8_leastRow_5, h.1, if_neg (nI_ge (by omega) (by omega)), h.2.1, zat_M (by omega), zbnd_some, h.2.2.2.1 i (by omega) n (by omega)]
    by_cases hneg : t i n < 0
    · rw [if_neg (fun z => absurd ((iL_nn (by unfold zB62; omega) (by unfold zB62; omega)).mp z) (by omega))]
      by_cases hb0 : b = -1000000
      · rw [if_pos hb0, fX8_leastRow_48, nI_1]
        exact zleastRow_loop h hb' hq hn  g f (i + 1) (nI i) (by omega) (by omega) (zPk_first hB hb0 (by omega) hneg)
      · rw [if_neg hb0]
        obtain ⟨k, ek, hk⟩ : ∃ k, b = nI k ∧ k < i := by
          rcases hB with ⟨e, -⟩ | ⟨k, e, k1, -⟩
          · exact absurd e hb0
          · exact ⟨k, e, k1⟩
        subst ek
        have n1 : rn k < 2 ^ 30 := hr k (by omega)
        have n2 : rn i < 2 ^ 30 := hr i (by omega)
        rw [zag_nI (by omega) (by omega), zag_nI (by omega) (by omega), h.2.2.2.2.1 i (by omega), h.2.2.2.2.1 k (by omega)]
        by_cases hle : rn k ≤ rn i
        · rw [if_pos (nI_le hle (by omega)), fX8_leastRow_52, nI_1]
          exact zleastRow_loop h hb' hq hn  g f (i + 1) (nI k) (by omega) (by omega) (zPk_keep hB (by omega) (by omega) hle)
        · rw [if_neg (nI_ge (by omega) (by omega)), fX8_leastRow_48, nI_1]
          exact zleastRow_loop h hb' hq hn  g f (i + 1) (nI i) (by omega) (by omega) (zPk_new hB (by omega) (by omega) hle hneg)
    · rw [if_pos ((iL_nn (by unfold zB62; omega) (by unfold zB62; omega)).mpr (by omega)), fX8_leastRow_52, nI_1]
      exact zleastRow_loop h hb' hq hn  g f (i + 1) b (by omega) (by omega) (zPk_no hB hneg)
theorem zleastCol_loop {N q n : Nat} {t : Nat → Nat → Int} {d : Int} {rn cn : Nat → Nat} {σ : zSt}  (h : zTM σ q n t d rn cn) (hb : zBd (q + 1) n t d rn cn) (hq : q ≤ 13) (hn : n ≤ 7) : ∀ (g f i : Nat) (b : Int32), g < f → i + g = n → zPk (fun i => t q i < 0) cn i b → ∃ b', fX8_leastColumn_5 N f  b (nI i) σ = some (b', σ) ∧ zPk (fun i => t q i < 0) cn n b'
  | 0, f + 1, i, b, _, hi, hB => by
    rw [fX8_leastColumn_5, h.2.1, if_pos (nI_le (by omega) (by omega))]
    exact ⟨b, rfl, by rw [← hi]; exact hB⟩
  | g + 1, f + 1, i, b, hf, hi, hB => by
    have hb' := hb
    obtain ⟨-, -, -, -, ht, -, hr, hc⟩ := hb
    have hv := ht q (by omega) i (by omega)
    rw [fX8_leastColumn_5, h.2.1, if_neg (nI_ge (by omega) (by omega)), h.1, zat_M (by omega), zbnd_some, h.2.2.2.1 q (by omega) i (by omega)]
    by_cases hneg : t q i < 0
    · rw [if_neg (fun z => absurd ((iL_nn (by unfold zB62; omega) (by unfold zB62; omega)).mp z) (by omega))]
      by_cases hb0 : b = -1000000
      · rw [if_pos hb0, fX8_leastColumn_48, nI_1]
        exact zleastCol_loop h hb' hq hn  g f (i + 1) (nI i) (by omega) (by omega) (zPk_first hB hb0 (by omega) hneg)
      · rw [if_neg hb0]
        obtain ⟨k, ek, hk⟩ : ∃ k, b = nI k ∧ k < i := by
          rcases hB with ⟨e, -⟩ | ⟨k, e, k1, -⟩
          · exact absurd e hb0
          · exact ⟨k, e, k1⟩
        subst ek
        have n1 : cn k < 2 ^ 30 := hc k (by omega)
        have n2 : cn i < 2 ^ 30 := hc i (by omega)
        rw [zag_nI (by omega) (by omega), zag_nI (by omega) (by omega), h.2.2.2.2.2 i (by omega), h.2.2.2.2.2 k (by omega)]
        by_cases hle : cn k ≤ cn i
        · rw [if_pos (nI_le hle (by omega)), fX8_leastColumn_52, nI_1]
          exact zleastCol_loop h hb' hq hn  g f (i + 1) (nI k) (by omega) (by omega) (zPk_keep hB (by omega) (by omega) hle)
        · rw [if_neg (nI_ge (by omega) (by omega)), fX8_leastColumn_48, nI_1]
          exact zleastCol_loop h hb' hq hn  g f (i + 1) (nI i) (by omega) (by omega) (zPk_new hB (by omega) (by omega) hle hneg)
    · rw [if_pos ((iL_nn (by unfold zB62; omega) (by unfold zB62; omega)).mpr (by omega)), fX8_leastColumn_52, nI_1]
      exact zleastCol_loop h hb' hq hn  g f (i + 1) b (by omega) (by omega) (zPk_no hB hneg)
theorem zsolveRow_loop {N q n : Nat} {t : Nat → Nat → Int} {d : Int} {rn cn : Nat → Nat} {σ : zSt} {k10 : Int32 → Int32 → zSt → Option (Int32 × zSt)} {r : Nat} (h : zTM σ q n t d rn cn) (hb : zBd (q + 1) n t d rn cn) (hq : q ≤ 13) (hn : n ≤ 7) (hr0 : r < q) : ∀ (g f i : Nat) (b : Int32), g < f → i + g = n → zPk (fun i => t r i < 0) cn i b → ∃ b', fX8_isSolved_55 N k10 f (nI r) b (nI i) σ = (if b' = -1000000 then zrz (0 : Int32) σ else zbnd (fX8_turn N (nI r) b' σ) (fun (b1 : Unit) (σ2 : zSt) => fX8_isSolved_201 N k10 σ2)) ∧ zPk (fun i => t r i < 0) cn n b'
  | 0, f + 1, i, b, _, hi, hB => by
    rw [fX8_isSolved_55, h.2.1, if_pos (nI_le (by omega) (by omega))]
    exact ⟨b, rfl, by rw [← hi]; exact hB⟩
  | g + 1, f + 1, i, b, hf, hi, hB => by
    have hb' := hb
    obtain ⟨-, -, -, -, ht, -, hr, hc⟩ := hb
    have hv := ht r (by omega) i (by omega)
    rw [fX8_isSolved_55, h.2.1, if_neg (nI_ge (by omega) (by omega)), zat_M (by omega), zbnd_some, h.2.2.2.1 r (by omega) i (by omega)]
    by_cases hneg : t r i < 0
    · rw [if_neg (fun z => absurd ((iL_nn (by unfold zB62; omega) (by unfold zB62; omega)).mp z) (by omega))]
      by_cases hb0 : b = -1000000
      · rw [if_pos hb0, fX8_isSolved_98, nI_1]
        exact zsolveRow_loop h hb' hq hn hr0 g f (i + 1) (nI i) (by omega) (by omega) (zPk_first hB hb0 (by omega) hneg)
      · rw [if_neg hb0]
        obtain ⟨k, ek, hk⟩ : ∃ k, b = nI k ∧ k < i := by
          rcases hB with ⟨e, -⟩ | ⟨k, e, k1, -⟩
          · exact absurd e hb0
          · exact ⟨k, e, k1⟩
        subst ek
        have n1 : cn k < 2 ^ 30 := hc k (by omega)
        have n2 : cn i < 2 ^ 30 := hc i (by omega)
        rw [zag_nI (by omega) (by omega), zag_nI (by omega) (by omega), h.2.2.2.2.2 i (by omega), h.2.2.2.2.2 k (by omega)]
        by_cases hle : cn k ≤ cn i
        · rw [if_pos (nI_le hle (by omega)), fX8_isSolved_103, nI_1]
          exact zsolveRow_loop h hb' hq hn hr0 g f (i + 1) (nI k) (by omega) (by omega) (zPk_keep hB (by omega) (by omega) hle)
        · rw [if_neg (nI_ge (by omega) (by omega)), fX8_isSolved_98, nI_1]
          exact zsolveRow_loop h hb' hq hn hr0 g f (i + 1) (nI i) (by omega) (by omega) (zPk_new hB (by omega) (by omega) hle hneg)
    · rw [if_pos ((iL_nn (by unfold zB62; omega) (by unfold zB62; omega)).mpr (by omega)), fX8_isSolved_103, nI_1]
      exact zsolveRow_loop h hb' hq hn hr0 g f (i + 1) b (by omega) (by omega) (zPk_no hB hneg)
theorem zsolveCol_loop {N q n : Nat} {t : Nat → Nat → Int} {d : Int} {rn cn : Nat → Nat} {σ : zSt} {k10 : Int32 → Int32 → zSt → Option (Int32 × zSt)} {s : Nat} (h : zTM σ q n t d rn cn) (hb : zBd (q + 1) n t d rn cn) (hq : q ≤ 13) (hn : n ≤ 7) (hr0 : s < n) : ∀ (g f i : Nat) (b : Int32), g < f → i + g = q → zPk (fun i => 0 < t i s) rn i b → ∃ b', fX8_isSolved_131 N k10 f (nI s) b (nI i) σ = (if b' = -1000000 then zrz (0 : Int32) σ else zbnd (fX8_turn N b' (nI s) σ) (fun (b1 : Unit) (σ2 : zSt) => fX8_isSolved_201 N k10 σ2)) ∧ zPk (fun i => 0 < t i s) rn q b'
  | 0, f + 1, i, b, _, hi, hB => by
    rw [fX8_isSolved_131, h.1, if_pos (nI_le (by omega) (by omega))]
    exact ⟨b, rfl, by rw [← hi]; exact hB⟩
  | g + 1, f + 1, i, b, hf, hi, hB => by
    have hb' := hb
    obtain ⟨-, -, -, -, ht, -, hr, hc⟩ := hb
    have hv := ht i (by omega) s (by omega)
    rw [fX8_isSolved_131, h.1, if_neg (nI_ge (by omega) (by omega)), zat_M (by omega), zbnd_some, h.2.2.2.1 i (by omega) s (by omega)]
    by_cases hneg : 0 < t i s
    · rw [if_neg (fun z => absurd ((iL_np (by unfold zB62; omega) (by unfold zB62; omega)).mp z) (by omega))]
      by_cases hb0 : b = -1000000
      · rw [if_pos hb0, fX8_isSolved_174, nI_1]
        exact zsolveCol_loop h hb' hq hn hr0 g f (i + 1) (nI i) (by omega) (by omega) (zPk_first hB hb0 (by omega) hneg)
      · rw [if_neg hb0]
        obtain ⟨k, ek, hk⟩ : ∃ k, b = nI k ∧ k < i := by
          rcases hB with ⟨e, -⟩ | ⟨k, e, k1, -⟩
          · exact absurd e hb0
          · exact ⟨k, e, k1⟩
        subst ek
        have n1 : rn k < 2 ^ 30 := hr k (by omega)
        have n2 : rn i < 2 ^ 30 := hr i (by omega)
        rw [zag_nI (by omega) (by omega), zag_nI (by omega) (by omega), h.2.2.2.2.1 i (by omega), h.2.2.2.2.1 k (by omega)]
        by_cases hle : rn k ≤ rn i
        · rw [if_pos (nI_le hle (by omega)), fX8_isSolved_179, nI_1]
          exact zsolveCol_loop h hb' hq hn hr0 g f (i + 1) (nI k) (by omega) (by omega) (zPk_keep hB (by omega) (by omega) hle)
        · rw [if_neg (nI_ge (by omega) (by omega)), fX8_isSolved_174, nI_1]
          exact zsolveCol_loop h hb' hq hn hr0 g f (i + 1) (nI i) (by omega) (by omega) (zPk_new hB (by omega) (by omega) hle hneg)
    · rw [if_pos ((iL_np (by unfold zB62; omega) (by unfold zB62; omega)).mpr (by omega)), fX8_isSolved_179, nI_1]
      exact zsolveCol_loop h hb' hq hn hr0 g f (i + 1) b (by omega) (by omega) (zPk_no hB hneg)
