/-! ===== the reference's turn ===== -/
theorem zdvL_eq {β : Type} {x y : Int64} {k : Int64 → Option β} (h : ¬ y = 0) : zdvL x y k = k (x / y) := if_neg h
theorem zturn_row {N q n r s i : Nat} {t : Nat → Nat → Int} {d : Int} {k10 : Int32 → Int32 → Int64 → Int32 → zSt → Option (Unit × zSt)} (hq : q ≤ 13) (hn : n ≤ 7) (hr : r ≤ q) (hs : s < n) (hi : i ≤ q) (hd : 0 < d) (hd2 : d ≤ 40320)
    (hx : i ≠ r → ∀ c, c ≤ n → c ≠ s → d * ((t i c * t r s - t i s * t r c) / d) = t i c * t r s - t i s * t r c)
    (hbd : ∀ c, c ≤ n → -zB62 < t i c * t r s - t i s * t r c ∧ t i c * t r s - t i s * t r c < zB62) :
    ∀ (g f j : Nat) (σ : zSt), g < f → j + g = n + 1 → σ.1 0 37 = nI n → σ.2 0 38 = iL d → (∀ c, c ≤ n → σ.2 19 (8 * r + c) = iL (t r c)) → σ.2 19 (8 * i + s) = iL (t i s) → (∀ c, j ≤ c → c ≤ n → σ.2 19 (8 * i + c) = iL (t i c)) →
    ∃ τ, fX8_turn_22 N k10 f (nI r) (nI s) (iL (t r s)) (nI i) (nI j) σ = k10 (nI r) (nI s) (iL (t r s)) (nI (i + 1)) τ ∧ τ.1 = σ.1 ∧ (∀ k, k ≠ 19 → τ.2 k = σ.2 k) ∧ (∀ x, x < 8 * i + j ∨ 8 * i + n < x → τ.2 19 x = σ.2 19 x) ∧ ∀ c, j ≤ c → c ≤ n → τ.2 19 (8 * i + c) = iL (if i = r ∨ c = s then t i c else (t i c * t r s - t i s * t r c) / d)
  | 0, f + 1, j, σ, _, hj, h7, h8, hR, hS, hI => by
    rw [fX8_turn_22, h7, if_pos (nI_lt (by omega) (by omega)), nI_1]
    exact ⟨σ, rfl, rfl, fun _ _ => rfl, fun _ _ => rfl, fun c h1 h2 => by omega⟩
  | g + 1, f + 1, j, σ, hf, hj, h7, h8, hR, hS, hI => by
    rw [fX8_turn_22, h7, if_neg (nI_nlt (by omega) (by omega))]
    by_cases hir : i = r
    · rw [if_pos (by rw [hir]), nI_1]
      obtain ⟨τ, e, e1, e2, e3, e4⟩ := zturn_row (N := N) (k10 := k10) hq hn hr hs hi hd hd2 hx hbd g f (j + 1) σ (by omega) (by omega) h7 h8 hR hS (fun c h1 h2 => hI c (by omega) h2)
      refine ⟨τ, e, e1, e2, fun x hx => e3 x (by omega), fun c h1 h2 => ?_⟩
      by_cases q : c = j
      · rw [e3 _ (by omega), hI c h1 h2, if_pos (Or.inl hir)]
      · exact e4 c (by omega) h2
    · rw [if_neg (fun z => hir ((nI_eq (by omega) (by omega)).mp z))]
      by_cases hjs : j = s
      · rw [if_pos (by rw [hjs]), nI_1]
        obtain ⟨τ, e, e1, e2, e3, e4⟩ := zturn_row (N := N) (k10 := k10) hq hn hr hs hi hd hd2 hx hbd g f (j + 1) σ (by omega) (by omega) h7 h8 hR hS (fun c h1 h2 => hI c (by omega) h2)
        refine ⟨τ, e, e1, e2, fun x hx => e3 x (by omega), fun c h1 h2 => ?_⟩
        by_cases q : c = j
        · rw [e3 _ (by omega), hI c h1 h2, if_pos (Or.inr (by omega))]
        · exact e4 c (by omega) h2
      · rw [if_neg (fun z => hjs ((nI_eq (by omega) (by omega)).mp z)), zat_M (by omega), zbnd_some, zat_M (by omega), zbnd_some, zat_M (by omega), zbnd_some, h8, hI j (by omega) (by omega), hS, hR j (by omega), iL_mul, iL_mul, iL_sub]
        have hxj := hx hir j (by omega) hjs
        have hbj := hbd j (by omega)
        have h0 : ¬ iL d = 0 := fun e => by
          rw [← iL_0, iL_eq (by unfold zB62; omega) (by unfold zB62; omega)] at e
          omega
        have ed : iL (t i j * t r s - t i s * t r j) / iL d = iL ((t i j * t r s - t i s * t r j) / d) := by
          have e1 := iL_div hbj (b := d) (by unfold zB62; omega)
          rw [e1]
          congr 1
          rw [← hxj, Int.mul_tdiv_cancel_left _ (by omega), Int.mul_ediv_cancel_left _ (by omega)]
        rw [zdvL_eq h0, ed, zput_M (by omega), zbnd_some, nI_1]
        obtain ⟨τ, e, e1, e2, e3, e4⟩ := zturn_row (N := N) (k10 := k10) hq hn hr hs hi hd hd2 hx hbd g f (j + 1) (zsl σ 19 (8 * i + j) (iL ((t i j * t r s - t i s * t r j) / d))) (by omega) (by omega) h7 (by rw [zsl_c (by decide)]; exact h8) (fun c hc => by rw [zsl_o (by omega)]; exact hR c hc) (by rw [zsl_o (by omega)]; exact hS) (fun c h1 h2 => by rw [zsl_o (by omega)]; exact hI c (by omega) h2)
        refine ⟨τ, e, e1.trans zsl_1, fun k hk => (e2 k hk).trans (zsl_c hk), fun x hx => (e3 x (by omega)).trans (zsl_o (by omega)), fun c h1 h2 => ?_⟩
        by_cases q : c = j
        · rw [e3 _ (by omega), q, zsl_s, if_neg (by omega)]
        · exact e4 c (by omega) h2
theorem zturn_rows {N q n r s : Nat} {t : Nat → Nat → Int} {d : Int} {rn cn : Nat → Nat} (hb : zBd (q + 1) n t d rn cn) (hq : q ≤ 13) (hn : n ≤ 7) (hr : r < q) (hs : s < n) (hN : 600000 ≤ N)
    (hx : ∀ i c, i ≤ q → c ≤ n → c ≠ s → d * ((t i c * t r s - t i s * t r c) / d) = t i c * t r s - t i s * t r c) :
    ∀ (g f i : Nat) (σ : zSt), g < f → i + g = q + 1 → σ.1 0 36 = nI q → σ.1 0 37 = nI n → σ.2 0 38 = iL d → (∀ c, c ≤ n → σ.2 19 (8 * r + c) = iL (t r c)) → (∀ i', i ≤ i' → i' ≤ q → ∀ c, c ≤ n → σ.2 19 (8 * i' + c) = iL (t i' c)) →
    ∃ τ, fX8_turn_10 N f (nI r) (nI s) (iL (t r s)) (nI i) σ = fX8_turn_97 N N (nI r) (nI s) (iL (t r s)) (nI 0) τ ∧ τ.1 = σ.1 ∧ (∀ k, k ≠ 19 → τ.2 k = σ.2 k) ∧ (∀ x, x < 8 * i → τ.2 19 x = σ.2 19 x) ∧ (∀ i', i ≤ i' → i' ≤ q → ∀ c, c ≤ n → τ.2 19 (8 * i' + c) = iL (if i' = r ∨ c = s then t i' c else (t i' c * t r s - t i' s * t r c) / d))
  | 0, f + 1, i, σ, _, hi, h6, h7, h8, hR, hI => by
    rw [fX8_turn_10, h6, if_pos (nI_lt (by omega) (by omega))]
    exact ⟨σ, rfl, rfl, fun _ _ => rfl, fun _ _ => rfl, fun i' h1 h2 => by omega⟩
  | g + 1, f + 1, i, σ, hf, hi, h6, h7, h8, hR, hI => by
    have hb' := hb
    obtain ⟨hm, -, hd, hd2, ht, hts, -, -⟩ := hb
    rw [fX8_turn_10, h6, if_neg (nI_nlt (by omega) (by omega))]
    obtain ⟨υ, e, e1, e2, e3, e4⟩ := zturn_row (N := N) (r := r) (s := s) (i := i) (t := t) (k10 := fX8_turn_10 N f) hq hn (by omega) hs (by omega) hd hd2 (fun _ c hc hcs => hx i c (by omega) hc hcs) (fun c hc => zbd2 (ht i (by omega) c hc) (hts r (by omega) s hs) (hts i (by omega) s hs) (ht r (by omega) c hc)) (n + 1) N 0 σ (by omega) (by omega) h7 h8 hR (hI i (by omega) (by omega) s (by omega)) (fun c _ h2 => hI i (by omega) (by omega) c h2)
    rw [show (0 : Int32) = nI 0 from rfl, e]
    obtain ⟨τ, f0, f1, f2, f3, f4⟩ := zturn_rows hb' hq hn hr hs hN hx g f (i + 1) υ (by omega) (by omega) (by rw [e1]; exact h6) (by rw [e1]; exact h7) (by rw [e2 0 (by decide)]; exact h8) (fun c hc => by
      by_cases q : i = r
      · have := e4 c (by omega) hc
        rw [if_pos (Or.inl q)] at this
        rw [q] at this
        exact this
      · rw [e3 _ (by omega)]; exact hR c hc) (fun i' h1 h2 c hc => by rw [e3 _ (by omega)]; exact hI i' (by omega) h2 c hc)
    refine ⟨τ, f0, f1.trans e1, fun k hk => (f2 k hk).trans (e2 k hk), fun x hx => (f3 x (by omega)).trans (e3 x (by omega)), fun i' h1 h2 c hc => ?_⟩
    by_cases q : i' = i
    · rw [q, f3 _ (by omega)]
      exact e4 c (by omega) hc
    · exact f4 i' (by omega) h2 c hc
/-- column s -/
theorem zturn_col {N q n r s : Nat} {u : Nat → Int} {d : Int} {y : Int64} (hq : q ≤ 13) (hn : n ≤ 7) (hr : r < q) (hs : s < n) :
    ∀ (g f i : Nat) (σ : zSt), g < f → i + g = q + 1 → σ.1 0 36 = nI q → σ.2 0 38 = iL d → (∀ i', i ≤ i' → i' ≤ q → σ.2 19 (8 * i' + s) = iL (u i')) →
    ∃ τ, fX8_turn_97 N f (nI r) (nI s) y (nI i) σ = zpfL τ 0 38 y (fun (σ1 : zSt) => if (0 : Int64) ≤ y then fX8_turn_196 N (nI r) (nI s) σ1 else zpfL σ1 0 38 (-y) (fun (σ2 : zSt) => fX8_turn_160 N N (nI r) (nI s) (0 : Int32) σ2)) ∧ τ.1 = σ.1 ∧ (∀ k, k ≠ 19 → τ.2 k = σ.2 k) ∧ (∀ x, (∀ i', i ≤ i' → i' ≤ q → x ≠ 8 * i' + s) → τ.2 19 x = σ.2 19 x) ∧ (∀ i', i ≤ i' → i' ≤ q → τ.2 19 (8 * i' + s) = iL (if i' = r then d else -(u i')))
  | 0, f + 1, i, σ, _, hi, h6, h8, hI => by
    rw [fX8_turn_97, h6, if_pos (nI_lt (by omega) (by omega))]
    exact ⟨σ, rfl, rfl, fun _ _ => rfl, fun _ _ => rfl, fun i' h1 h2 => by omega⟩
  | g + 1, f + 1, i, σ, hf, hi, h6, h8, hI => by
    have hrec : ∀ v : Int64, v = iL (if i = r then d else -(u i)) → ∃ τ, fX8_turn_97 N f (nI r) (nI s) y (nI (i + 1)) (zsl σ 19 (8 * i + s) v) = zpfL τ 0 38 y (fun (σ1 : zSt) => if (0 : Int64) ≤ y then fX8_turn_196 N (nI r) (nI s) σ1 else zpfL σ1 0 38 (-y) (fun (σ2 : zSt) => fX8_turn_160 N N (nI r) (nI s) (0 : Int32) σ2)) ∧ τ.1 = σ.1 ∧ (∀ k, k ≠ 19 → τ.2 k = σ.2 k) ∧ (∀ x, (∀ i', i ≤ i' → i' ≤ q → x ≠ 8 * i' + s) → τ.2 19 x = σ.2 19 x) ∧ (∀ i', i ≤ i' → i' ≤ q → τ.2 19 (8 * i' + s) = iL (if i' = r then d else -(u i'))) := by
      intro v hv
      obtain ⟨τ, e, e1, e2, e3, e4⟩ := zturn_col (N := N) (u := u) (d := d) (y := y) hq hn hr hs g f (i + 1) (zsl σ 19 (8 * i + s) v) (by omega) (by omega) h6 (by rw [zsl_c (by decide)]; exact h8) (fun i' h1 h2 => by rw [zsl_o (by omega)]; exact hI i' (by omega) h2)
      refine ⟨τ, e, e1.trans zsl_1, fun k hk => (e2 k hk).trans (zsl_c hk), fun x hx => (e3 x (fun i' h1 h2 => hx i' (by omega) h2)).trans (zsl_o (hx i (by omega) (by omega))), fun i' h1 h2 => ?_⟩
      by_cases q : i' = i
      · rw [q, e3 _ (fun j h1 h2 => by omega), zsl_s, hv]
      · exact e4 i' (by omega) h2
    rw [fX8_turn_97, h6, if_neg (nI_nlt (by omega) (by omega))]
    by_cases hir : i = r
    · rw [if_pos (by rw [hir]), fX8_turn_131, zput_M (by omega), zbnd_some, nI_1]
      exact hrec _ (by rw [if_pos hir]; exact h8)
    · rw [if_neg (fun z => hir ((nI_eq (by omega) (by omega)).mp z)), zat_M (by omega), zbnd_some, hI i (by omega) (by omega), iL_neg, fX8_turn_131, zput_M (by omega), zbnd_some, nI_1]
      exact hrec _ (by rw [if_neg hir])
/-- all turned about -/
theorem zturn_neg {N q r s : Nat} (hq : q ≤ 13) : ∀ (g f x : Nat) (σ : zSt), g < f → x + g = 8 * q + 8 → σ.1 0 36 = nI q →
    ∃ τ, fX8_turn_160 N f (nI r) (nI s) (nI x) σ = fX8_turn_196 N (nI r) (nI s) τ ∧ τ.1 = σ.1 ∧ (∀ k, k ≠ 19 → τ.2 k = σ.2 k) ∧ (∀ z, z < x → τ.2 19 z = σ.2 19 z) ∧ ∀ z, x ≤ z → z < 8 * q + 8 → τ.2 19 z = -(σ.2 19 z)
  | 0, f + 1, x, σ, _, hx, h6 => by
    rw [fX8_turn_160, h6, show (8 : Int32) * nI q + 8 = nI (8 * q + 8) from z8 (c := 8), if_pos (nI_le (by omega) (by omega))]
    exact ⟨σ, rfl, rfl, fun _ _ => rfl, fun _ _ => rfl, fun z h1 h2 => by omega⟩
  | g + 1, f + 1, x, σ, hf, hx, h6 => by
    rw [fX8_turn_160, h6, show (8 : Int32) * nI q + 8 = nI (8 * q + 8) from z8 (c := 8), if_neg (nI_ge (by omega) (by omega)), zagL_nI (by omega) (by omega), zasL_nI (by omega) (by omega), nI_1]
    obtain ⟨τ, e, e1, e2, e3, e4⟩ := zturn_neg (N := N) (r := r) (s := s) hq g f (x + 1) (zsl σ 19 x (-(σ.2 19 x))) (by omega) (by omega) h6
    refine ⟨τ, e, e1.trans zsl_1, fun k hk => (e2 k hk).trans (zsl_c hk), fun z hz => (e3 z (by omega)).trans (zsl_o (by omega)), fun z h1 h2 => ?_⟩
    by_cases q : z = x
    · rw [e3 z (by omega), q, zsl_s]
    · rw [e4 z (by omega) h2, zsl_o q]
theorem zturn {N q n r s : Nat} {t : Nat → Nat → Int} {d ε : Int} {rn cn : Nat → Nat} {σ : zSt} (h : zTM σ q n t d rn cn) (hb : zBd (q + 1) n t d rn cn) (hq : q ≤ 13) (hn : n ≤ 7) (hr : r < q) (hs : s < n) (hN : 600000 ≤ N)
    (hx : ∀ i c, i ≤ q → c ≤ n → c ≠ s → d * ((t i c * t r s - t i s * t r c) / d) = t i c * t r s - t i s * t r c) (hε : (ε = 1 ∧ 0 < t r s) ∨ (ε = -1 ∧ t r s < 0)) :
    ∃ τ, fX8_turn N (nI r) (nI s) σ = some ((), τ) ∧ zTM τ q n (zpT r s ε t d) (ε * t r s) (va_up rn r (cn s)) (va_up cn s (rn r)) ∧ zFM σ τ := by
  have hts := hb.2.2.2.2.2.1 r (by omega) s hs
  have e0 : fX8_turn N (nI r) (nI s) σ = fX8_turn_10 N N (nI r) (nI s) (iL (t r s)) (nI 0) σ := by
    unfold fX8_turn
    rw [zat_M (by omega), zbnd_some, h.2.2.2.1 r (by omega) s (by omega)]
    rfl
  obtain ⟨υ, u0, u1, u2, -, u4⟩ := zturn_rows (N := N) hb hq hn hr hs hN hx (q + 1) N 0 σ (by omega) (by omega) h.1 h.2.1 h.2.2.1 (fun c hc => h.2.2.2.1 r (by omega) c hc) (fun i _ h2 c hc => h.2.2.2.1 i h2 c hc)
  obtain ⟨φ, v0, v1, v2, v3, v4⟩ := zturn_col (N := N) (n := n) (r := r) (s := s) (u := fun i => t i s) (d := d) (y := iL (t r s)) hq hn hr hs (q + 1) N 0 υ (by omega) (by omega) (by rw [u1]; exact h.1) (by rw [u2 0 (by decide)]; exact h.2.2.1) (fun i _ h2 => by rw [u4 i (by omega) h2 s (by omega), if_pos (Or.inr rfl)])
  rw [e0, u0, v0, zpfL_eq]
  have p1 : φ.1 = σ.1 := v1.trans u1
  have pl : ∀ i, i ≤ q → ∀ c, c ≤ n → φ.2 19 (8 * i + c) = iL (zpT r s 1 t d i c) := by
    intro i hi c hc
    unfold zpT
    by_cases hcs : c = s
    · rw [hcs, v4 i (by omega) hi]
      by_cases hir : i = r
      · rw [if_pos hir, if_pos hir, if_pos rfl, Int.one_mul]
      · rw [if_neg hir, if_neg hir, if_pos rfl, Int.one_mul]
    · rw [v3 _ (fun i' h1 h2 => by omega), u4 i (by omega) hi c hc, if_neg hcs, if_neg hcs]
      by_cases hir : i = r
      · rw [if_pos (Or.inl hir), if_pos hir, hir, Int.one_mul]
      · rw [if_neg (by omega), if_neg hir, Int.one_mul]
  have fin : ∀ (ψ : zSt) (d' : Int) (t' : Nat → Nat → Int), ψ.1 = σ.1 → ψ.2 0 38 = iL d' → (∀ i, i ≤ q → ∀ c, c ≤ n → ψ.2 19 (8 * i + c) = iL (t' i c)) → (∀ k, k ≠ 19 → k ≠ 0 → ψ.2 k = σ.2 k) → ∃ τ, fX8_turn_196 N (nI r) (nI s) ψ = some ((), τ) ∧ zTM τ q n t' d' (va_up rn r (cn s)) (va_up cn s (rn r)) ∧ zFM σ τ := by
    intro ψ d' t' w1 w2 w3 w4
    have r1 : ψ.1 20 r = nI (rn r) := by rw [w1]; exact h.2.2.2.2.1 r hr
    have r2 : ψ.1 21 s = nI (cn s) := by rw [w1]; exact h.2.2.2.2.2 s hs
    unfold fX8_turn_196
    rw [zag_nI (by omega) (by omega), zag_nI (by omega) (by omega), zas_nI (by omega) (by omega), zas_nI (by omega) (by omega)]
    refine ⟨_, rfl, ⟨?_, ?_, ?_, fun i hi c hc => ?_, fun i hi => ?_, fun c hc => ?_⟩, fun k h1 h2 => ?_, fun k h1 h2 => ?_⟩
    · rw [zsi_c (by decide), zsi_c (by decide), w1]; exact h.1
    · rw [zsi_c (by decide), zsi_c (by decide), w1]; exact h.2.1
    · rw [zsi_2, zsi_2]; exact w2
    · rw [zsi_2, zsi_2]; exact w3 i hi c hc
    · rw [zsi_c (by decide)]
      by_cases z : i = r
      · rw [z, zsi_s, r2]
        show nI (cn s) = nI (if r = r then cn s else rn r)
        rw [if_pos rfl]
      · rw [zsi_o z, w1, h.2.2.2.2.1 i hi]
        show nI (rn i) = nI (if i = r then cn s else rn i)
        rw [if_neg z]
    · by_cases z : c = s
      · rw [z, zsi_s, r1]
        show nI (rn r) = nI (if s = s then rn r else cn s)
        rw [if_pos rfl]
      · rw [zsi_o z, zsi_c (by decide), w1, h.2.2.2.2.2 c hc]
        show nI (cn c) = nI (if c = s then rn r else cn c)
        rw [if_neg z]
    · rw [zsi_c h2, zsi_c h1, w1]
    · rw [zsi_2, zsi_2]; exact w4 k h1 h2
  have fr : ∀ k, k ≠ 19 → k ≠ 0 → φ.2 k = σ.2 k := fun k h1 h2 => (v2 k h1).trans (u2 k h1)
  rcases hε with ⟨hε, hp⟩ | ⟨hε, hp⟩
  · rw [if_pos ((iL_nn (by unfold zB62; omega) (by unfold zB62; omega)).mpr (by omega)), hε, Int.one_mul]
    exact fin _ _ _ p1 zsl_s (fun i hi c hc => by rw [zsl_c (by decide)]; exact pl i hi c hc) (fun k h1 h2 => (zsl_c h2).trans (fr k h1 h2))
  · rw [if_neg (fun z => absurd ((iL_nn (by unfold zB62; omega) (by unfold zB62; omega)).mp z) (by omega)), zpfL_eq]
    obtain ⟨ψ, w0, w1, w2, -, w4⟩ := zturn_neg (N := N) (r := r) (s := s) hq (8 * q + 8) N 0 (zsl (zsl φ 0 38 (iL (t r s))) 0 38 (-(iL (t r s)))) (by omega) (by omega) (by show φ.1 0 36 = _; rw [p1]; exact h.1)
    have w0 : fX8_turn_160 N N (nI r) (nI s) 0 (zsl (zsl φ 0 38 (iL (t r s))) 0 38 (-(iL (t r s)))) = fX8_turn_196 N (nI r) (nI s) ψ := w0
    rw [w0, hε]
    refine fin _ _ _ (w1.trans p1) (by rw [w2 0 (by decide), zsl_s, iL_neg]; congr 1; omega) (fun i hi c hc => ?_) (fun k h1 h2 => (w2 k h1).trans ((zsl_c h2).trans ((zsl_c h2).trans (fr k h1 h2))))
    rw [w4 _ (by omega) (by omega), zsl_c (by decide), zsl_c (by decide), pl i hi c hc, iL_neg]
    congr 1
    unfold zpT
    by_cases z1 : i = r
    · rw [if_pos z1, if_pos z1]
      by_cases z2 : c = s
      · rw [if_pos z2, if_pos z2]; omega
      · rw [if_neg z2, if_neg z2]; omega
    · rw [if_neg z1, if_neg z1]
      by_cases z2 : c = s
      · rw [if_pos z2, if_pos z2]; omega
      · rw [if_neg z2, if_neg z2]; omega
