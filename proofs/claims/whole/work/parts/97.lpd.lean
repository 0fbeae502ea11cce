/-! ===== the class's table: an exchange ===== -/
/-- what a method of the table leaves alone -/
def zFT (σ τ : zSt) : Prop := (∀ k, k ≠ 29 → k ≠ 31 → k ≠ 32 → τ.1 k = σ.1 k) ∧ (∀ k, k < 29 → τ.2 k = σ.2 k)
theorem zFT_rfl {σ : zSt} : zFT σ σ := ⟨fun _ _ _ _ => rfl, fun _ _ => rfl⟩
theorem zFT_trans {σ τ υ : zSt} (h1 : zFT σ τ) (h2 : zFT τ υ) : zFT σ υ := ⟨fun k a b c => (h2.1 k a b c).trans (h1.1 k a b c), fun k a => (h2.2 k a).trans (h1.2 k a)⟩
theorem zdivide_eq {N : Nat} {d q : Int} {σ : zSt} (hd : 0 < d) (hd2 : d < zB62) (hb : -zB62 < d * q ∧ d * q < zB62) : fX4_divide N (iL (d * q)) (iL d) σ = some (iL q, σ) := by
  have h0 : ¬ iL d = 0 := fun e => by
    rw [← iL_0, iL_eq ⟨by unfold zB62; omega, hd2⟩ (by unfold zB62; omega)] at e
    omega
  unfold fX4_divide zdvL
  rw [if_neg h0, if_neg h0, iL_div hb ⟨by unfold zB62; omega, hd2⟩, Int.mul_tdiv_cancel_left _ (by omega)]
theorem zclear_loop {N n p r s : Nat} {t : Nat → Nat → Int} {d : Int} (hn : n ≤ 8) (hp : p < 15) (hr : r < 15) (hrp : r ≠ p) (hd : 0 < d) (hd2 : d ≤ 40320)
    (hx : ∀ c, c ≤ n → c ≠ s → d * ((t r c * t p s - t r s * t p c) / d) = t r c * t p s - t r s * t p c)
    (hbd : ∀ c, c ≤ n → -zB62 < t r c * t p s - t r s * t p c ∧ t r c * t p s - t r s * t p c < zB62) (hs : s ≤ n) :
    ∀ (g f i : Nat) (σ : zSt), g < f → i + g = n + 1 → σ.1 29 4 = nI n → σ.2 29 5 = iL d → (∀ c, c ≤ n → σ.2 (35 + p) c = iL (t p c)) → (∀ c, i ≤ c → c ≤ n → σ.2 (35 + r) c = iL (t r c)) →
    ∃ τ, fX4_clearOf_24 N f (nI r) (nI p) (nI s) (iL (-(t p s))) (iL (t r s)) (nI i) σ = some ((), τ) ∧ τ.1 = σ.1 ∧ (∀ k, k ≠ 35 + r → τ.2 k = σ.2 k) ∧ (∀ c, c < i → τ.2 (35 + r) c = σ.2 (35 + r) c) ∧ ∀ c, i ≤ c → c ≤ n → τ.2 (35 + r) c = iL (if c = s then t r s else -1 * ((t r c * t p s - t r s * t p c) / d))
  | 0, f + 1, i, σ, _, hi, h4, h5, hP, hR => by
    rw [fX4_clearOf_24, h4, if_pos (nI_lt (by omega) (by omega))]
    exact ⟨σ, rfl, rfl, fun _ _ => rfl, fun _ _ => rfl, fun c h1 h2 => by omega⟩
  | g + 1, f + 1, i, σ, hf, hi, h4, h5, hP, hR => by
    rw [fX4_clearOf_24, h4, if_neg (nI_nlt (by omega) (by omega))]
    by_cases his : i = s
    · rw [if_pos (by rw [his]), nI_1]
      obtain ⟨τ, e, e1, e2, e3, e4⟩ := zclear_loop (N := N) hn hp hr hrp hd hd2 hx hbd hs g f (i + 1) σ (by omega) (by omega) h4 h5 hP (fun c h1 h2 => hR c (by omega) h2)
      refine ⟨τ, e, e1, e2, fun c hc => e3 c (by omega), fun c h1 h2 => ?_⟩
      by_cases q : c = i
      · rw [e3 c (by omega), hR c h1 h2, if_pos (by omega), q, his]
      · exact e4 c (by omega) h2
    · rw [if_neg (fun q => his ((nI_eq (by omega) (by omega)).mp q)), zrow_nI (by omega) (by omega), zrow_nI (by omega) (by omega), zagL_nI (by omega) (by omega), zrow_nI (by omega) (by omega), zagL_nI (by omega) (by omega), hR i (by omega) (by omega), hP i (by omega), h5, iL_mul, iL_mul, iL_add]
      have hxi := hx i (by omega) his
      have hbi := hbd i (by omega)
      have e0 : -(t p s) * t r i + t r s * t p i = d * (-1 * ((t r i * t p s - t r s * t p i) / d)) := by grind
      have e9 : -(t p s) * t r i + t r s * t p i = -(t r i * t p s - t r s * t p i) := by grind
      have e8 : -zB62 < d * (-1 * ((t r i * t p s - t r s * t p i) / d)) ∧ d * (-1 * ((t r i * t p s - t r s * t p i) / d)) < zB62 := by
        rw [← e0, e9]
        omega
      rw [e0, zdivide_eq hd (by unfold zB62; omega) e8, zbnd_some, zasL_nI (by omega) (by omega), nI_1]
      obtain ⟨τ, e, e1, e2, e3, e4⟩ := zclear_loop (N := N) hn hp hr hrp hd hd2 hx hbd hs g f (i + 1) (zsl σ (35 + r) i (iL (-1 * ((t r i * t p s - t r s * t p i) / d)))) (by omega) (by omega) h4 (by rw [zsl_2, if_neg (by omega)]; exact h5) (fun c hc => by rw [zsl_2, if_neg (by omega)]; exact hP c hc) (fun c h1 h2 => by rw [zsl_2, if_neg (by omega)]; exact hR c (by omega) h2)
      refine ⟨τ, e, e1.trans zsl_1, fun k hk => (e2 k hk).trans (zsl_c hk), fun c hc => (e3 c (by omega)).trans (zsl_o (by omega)), fun c h1 h2 => ?_⟩
      by_cases q : c = i
      · rw [e3 c (by omega), q, zsl_s, if_neg his]
      · exact e4 c (by omega) h2
theorem zbd2 {a b c e : Int} (ha : -36288000 ≤ a ∧ a ≤ 36288000) (hb : -40320 ≤ b ∧ b ≤ 40320) (hc : -40320 ≤ c ∧ c ≤ 40320) (he : -36288000 ≤ e ∧ e ≤ 36288000) : -zB62 < a * b - c * e ∧ a * b - c * e < zB62 := by
  have h1 : (a * b).natAbs ≤ 36288000 * 40320 := by
    rw [Int.natAbs_mul]
    exact Nat.mul_le_mul (by omega) (by omega)
  have h2 : (c * e).natAbs ≤ 40320 * 36288000 := by
    rw [Int.natAbs_mul]
    exact Nat.mul_le_mul (by omega) (by omega)
  unfold zB62
  omega
/-- the rows but the exchange's own -/
theorem zexch_rows {N m n p s : Nat} {t : Nat → Nat → Int} {d : Int} {rn cn : Nat → Nat} (hb : zBd m n t d rn cn) (hp : p < m) (hs : s < n) (hN : 100 ≤ N)
    (hx : ∀ r c, r < m → c ≤ n → c ≠ s → d * ((t r c * t p s - t r s * t p c) / d) = t r c * t p s - t r s * t p c) {y : Int64} {P : Option (Unit × zSt) → Prop} :
    ∀ (g f i : Nat) (σ : zSt), g < f → i + g = m → σ.1 29 3 = nI m → σ.1 29 4 = nI n → σ.2 29 5 = iL d → (∀ c, c ≤ n → σ.2 (35 + p) c = iL (t p c)) → (∀ r, i ≤ r → r < m → ∀ c, c ≤ n → σ.2 (35 + r) c = iL (t r c)) →
    (∀ τ, τ.1 = σ.1 → (∀ k, k < 35 + i ∨ k = 35 + p ∨ 35 + m ≤ k → τ.2 k = σ.2 k) → (∀ r, i ≤ r → r < m → r ≠ p → ∀ c, c ≤ n → τ.2 (35 + r) c = iL (if c = s then t r s else -1 * ((t r c * t p s - t r s * t p c) / d))) → P (fX4_exchange_45 N N (nI p) (nI s) y (0 : Int32) τ)) →
    P (fX4_exchange_13 N f (nI p) (nI s) y (nI i) σ)
  | 0, f + 1, i, σ, _, hi, h3, h4, h5, hP, hR, K => by
    have := hb.1
    rw [fX4_exchange_13, h3, if_pos (nI_le (by omega) (by omega))]
    exact K σ rfl (fun _ _ => rfl) (fun r h1 h2 => by omega)
  | g + 1, f + 1, i, σ, hf, hi, h3, h4, h5, hP, hR, K => by
    have hb' := hb
    obtain ⟨hm, hn, hd, hd2, ht, hts, -, -⟩ := hb
    rw [fX4_exchange_13, h3, if_neg (nI_ge (by omega) (by omega))]
    by_cases hip : i = p
    · rw [if_pos (by rw [hip]), nI_1]
      refine zexch_rows hb' hp hs hN hx g f (i + 1) σ (by omega) (by omega) h3 h4 h5 hP (fun r h1 h2 => hR r (by omega) h2) (fun τ e1 e2 e3 => K τ e1 (fun k hk => e2 k (by omega)) (fun r h1 h2 h6 => e3 r (by omega) h2 h6))
    · rw [if_neg (fun q => hip ((nI_eq (by omega) (by omega)).mp q))]
      have ec : fX4_clearOf N (nI i) (nI p) (nI s) σ = fX4_clearOf_24 N N (nI i) (nI p) (nI s) (iL (-(t p s))) (iL (t i s)) (nI 0) σ := by
        unfold fX4_clearOf
        rw [zrow_nI (by omega) (by omega), zagL_nI (by omega) (by omega), znm_eq, zrow_nI (by omega) (by omega), zagL_nI (by omega) (by omega), hP s (by omega), hR i (by omega) (by omega) s (by omega), iL_neg]
        rfl
      obtain ⟨υ, e, e1, e2, -, e4⟩ := zclear_loop (N := N) (p := p) (r := i) (s := s) (t := t) hn (by omega) (by omega) hip hd hd2 (fun c hc hcs => hx i c (by omega) hc hcs) (fun c hc => zbd2 (ht i (by omega) c hc) (hts p hp s hs) (hts i (by omega) s hs) (ht p hp c hc)) (by omega) (n + 1) N 0 σ (by omega) (by omega) h4 h5 hP (fun c _ h2 => hR i (by omega) (by omega) c h2)
      rw [ec, e, zbnd_some, nI_1]
      refine zexch_rows hb' hp hs hN hx g f (i + 1) υ (by omega) (by omega) (by rw [e1]; exact h3) (by rw [e1]; exact h4) (by rw [e2 29 (by omega)]; exact h5) (fun c hc => by rw [e2 (35 + p) (by omega)]; exact hP c hc) (fun r h1 h2 => by rw [e2 (35 + r) (by omega)]; exact hR r (by omega) h2) (fun τ f1 f2 f3 => K τ (f1.trans e1) (fun k hk => (f2 k (by omega)).trans (e2 k (by omega))) (fun r h1 h2 h6 => ?_))
      by_cases q : r = i
      · intro c hc
        rw [f2 (35 + r) (by omega), q, e4 c (by omega) hc]
      · exact f3 r (by omega) h2 h6
/-- the exchange's own row, and the names -/
theorem zexch_own {N n p s : Nat} {v : Nat → Int} {y : Int64} (hn : n ≤ 8) (hp : p < 15) (hs : s < n) :
    ∀ (g f i : Nat) (σ : zSt), g < f → i + g = n + 1 → σ.1 29 4 = nI n → (∀ c, i ≤ c → c ≤ n → σ.2 (35 + p) c = iL (v c)) →
    ∃ τ : zSt, fX4_exchange_45 N f (nI p) (nI s) y (nI i) σ = some ((), zsi (zsi (zsl (zsl τ (35 + p) s (-(τ.2 29 5))) 29 5 y) 31 p (τ.1 32 s)) 32 s (τ.1 31 p)) ∧ τ.1 = σ.1 ∧ (∀ k, k ≠ 35 + p → τ.2 k = σ.2 k) ∧ (∀ c, c < i → τ.2 (35 + p) c = σ.2 (35 + p) c) ∧ ∀ c, i ≤ c → c ≤ n → τ.2 (35 + p) c = iL (-(v c))
  | 0, f + 1, i, σ, _, hi, h4, hP => by
    rw [fX4_exchange_45, h4, if_pos (nI_lt (by omega) (by omega)), zrow_nI (by omega) (by omega), zasL_nI (by omega) (by omega), zpfL_eq, zag_nI (by omega) (by omega), zag_nI (by omega) (by omega), zas_nI (by omega) (by omega), zas_nI (by omega) (by omega)]
    exact ⟨σ, rfl, rfl, fun _ _ => rfl, fun _ _ => rfl, fun c h1 h2 => by omega⟩
  | g + 1, f + 1, i, σ, hf, hi, h4, hP => by
    rw [fX4_exchange_45, h4, if_neg (nI_nlt (by omega) (by omega)), zrow_nI (by omega) (by omega), zrow_nI (by omega) (by omega), zagL_nI (by omega) (by omega), zasL_nI (by omega) (by omega), hP i (by omega) (by omega), iL_neg, nI_1]
    obtain ⟨τ, e, e1, e2, e3, e4⟩ := zexch_own (N := N) (v := v) (y := y) hn hp hs g f (i + 1) (zsl σ (35 + p) i (iL (-(v i)))) (by omega) (by omega) h4 (fun c h1 h2 => by rw [zsl_2, if_neg (by omega)]; exact hP c (by omega) h2)
    refine ⟨τ, e, e1.trans zsl_1, fun k hk => (e2 k hk).trans (zsl_c hk), fun c hc => (e3 c (by omega)).trans (zsl_o (by omega)), fun c h1 h2 => ?_⟩
    by_cases q : c = i
    · rw [e3 c (by omega), q, zsl_s]
    · exact e4 c (by omega) h2
theorem zexchange {N m n p s : Nat} {t : Nat → Nat → Int} {d : Int} {rn cn : Nat → Nat} {σ : zSt} (h : zTC σ m n t d rn cn) (hb : zBd m n t d rn cn) (hp : p < m) (hs : s < n) (hN : 100 ≤ N)
    (hx : ∀ r c, r < m → c ≤ n → c ≠ s → d * ((t r c * t p s - t r s * t p c) / d) = t r c * t p s - t r s * t p c) :
    ∃ τ, fX4_exchange N (nI p) (nI s) σ = some ((), τ) ∧ zTC τ m n (zpT p s (-1) t d) (-1 * t p s) (va_up rn p (cn s)) (va_up cn s (rn p)) ∧ zFT σ τ := by
  have hm := hb.1
  have hn := hb.2.1
  have e0 : fX4_exchange N (nI p) (nI s) σ = fX4_exchange_13 N N (nI p) (nI s) (iL (-1 * t p s)) (nI 0) σ := by
    unfold fX4_exchange
    rw [zrow_nI (by omega) (by omega), zagL_nI (by omega) (by omega), znm_eq, h.2.2.2.1 p hp s (by omega), iL_neg, show -(t p s) = -1 * t p s by omega]
    rfl
  rw [e0]
  refine zexch_rows (P := fun o => ∃ τ, o = some ((), τ) ∧ zTC τ m n (zpT p s (-1) t d) (-1 * t p s) (va_up rn p (cn s)) (va_up cn s (rn p)) ∧ zFT σ τ) hb hp hs hN hx m N 0 σ (by omega) (by omega) h.1 h.2.1 h.2.2.1 (fun c hc => h.2.2.2.1 p hp c hc) (fun r _ h2 c hc => h.2.2.2.1 r h2 c hc) (fun υ u1 u2 u3 => ?_)
  obtain ⟨τ, e, e1, e2, -, e4⟩ := zexch_own (N := N) (p := p) (s := s) (v := t p) (y := iL (-1 * t p s)) hn (by omega) hs (n + 1) N 0 υ (by omega) (by omega) (by rw [u1]; exact h.2.1) (fun c _ hc => by rw [u2 (35 + p) (by omega)]; exact h.2.2.2.1 p hp c hc)
  have t1 : τ.1 = σ.1 := e1.trans u1
  have t29 : τ.2 29 5 = iL d := by rw [e2 29 (by omega), u2 29 (by omega)]; exact h.2.2.1
  refine ⟨_, e, ⟨?_, ?_, ?_, fun r hr c hc => ?_, fun r hr => ?_, fun c hc => ?_⟩, fun k h1 h2 h3 => ?_, fun k hk => ?_⟩
  · show (zsi (zsi (zsl (zsl τ (35 + p) s (-(τ.2 29 5))) 29 5 (iL (-1 * t p s))) 31 p (τ.1 32 s)) 32 s (τ.1 31 p)).1 29 3 = _
    rw [zsi_c (by decide), zsi_c (by decide), zsl_1, zsl_1, t1]; exact h.1
  · show (zsi (zsi (zsl (zsl τ (35 + p) s (-(τ.2 29 5))) 29 5 (iL (-1 * t p s))) 31 p (τ.1 32 s)) 32 s (τ.1 31 p)).1 29 4 = _
    rw [zsi_c (by decide), zsi_c (by decide), zsl_1, zsl_1, t1]; exact h.2.1
  · rw [zsi_2, zsi_2, zsl_s]
  · rw [zsi_2, zsi_2, zsl_c (by omega)]
    by_cases hrp : r = p
    · rw [hrp]
      unfold zpT
      rw [if_pos rfl]
      by_cases hcs : c = s
      · rw [hcs, zsl_s, if_pos rfl, t29, iL_neg, show -d = -1 * d by omega]
      · rw [zsl_o hcs, if_neg hcs, e4 c (by omega) hc, show -(t p c) = -1 * t p c by omega]
    · rw [zsl_c (by omega), e2 (35 + r) (by omega), u3 r (by omega) hr hrp c hc]
      unfold zpT
      rw [if_neg hrp]
      by_cases hcs : c = s
      · rw [if_pos hcs, if_pos hcs, show -(-1 * t r s) = t r s by omega]
      · rw [if_neg hcs, if_neg hcs]
  · rw [zsi_c (by decide)]
    by_cases hrp : r = p
    · rw [hrp, zsi_s, t1, h.2.2.2.2.2 s hs]
      show nI (cn s) = nI (if p = p then cn s else rn p)
      rw [if_pos rfl]
    · rw [zsi_o hrp, zsl_1, zsl_1, t1, h.2.2.2.2.1 r hr]
      show nI (rn r) = nI (if r = p then cn s else rn r)
      rw [if_neg hrp]
  · by_cases hcs : c = s
    · rw [hcs, zsi_s, t1, h.2.2.2.2.1 p hp]
      show nI (rn p) = nI (if s = s then rn p else cn s)
      rw [if_pos rfl]
    · rw [zsi_o hcs, zsi_c (by decide), zsl_1, zsl_1, t1, h.2.2.2.2.2 c hc]
      show nI (cn c) = nI (if c = s then rn p else cn c)
      rw [if_neg hcs]
  · rw [zsi_c h3, zsi_c h2, zsl_1, zsl_1, t1]
  · rw [zsi_2, zsi_2, zsl_c (by omega), zsl_c (by omega), e2 k (by omega), u2 k (by omega)]
