/-! ===== borne; counts of bits ===== -/
def zdc (a : zA) (how s : Nat) : Nat := fb_ct (fun k => a 10 (3 * s + k) == how) (zdo (a 6 s))
theorem zctold_in {N how c s : Nat} {a : zA} {σ : zSt} {k4 : Int32 → Int32 → Int32 → zSt → Option (Int32 × zSt)} (h : zCN σ a) (ho : zOk a) (hs : s < a 0 1) (hh : how ≤ 11) : ∀ (g f k : Nat), g < f → k + g = zdo (a 6 s) → fX2_doubtsToldAs_15 N k4 f (nI how) (nI (c + fb_ct (fun k => a 10 (3 * s + k) == how) k)) (nI s) (nI k) σ = k4 (nI how) (nI (c + zdc a how s)) (nI (s + 1)) σ
  | 0, f + 1, k, _, hk => by
    have o1 := (ho.2.2.2.2 s hs).1
    have o2 := zdo_b (a 6 s) (by omega)
    rw [fX2_doubtsToldAs_15, zcdo h ho hs, zbnd_some, if_pos (nI_le (by omega) (by omega)), nI_1, show k = zdo (a 6 s) by omega]
    rfl
  | g + 1, f + 1, k, hf, hk => by
    have h16 := ho.2.1
    have o1 := (ho.2.2.2.2 s hs).1
    have o2 := zdo_b (a 6 s) (by omega)
    have o3 := ((ho.2.2.2.2 s hs).2.2.2.2.2.2.2 k (by omega)).1
    have ih := zctold_in (N := N) (c := c) (k4 := k4) h ho hs hh g f (k + 1) (by omega) (by omega)
    rw [fb_ct_succ] at ih
    rw [fX2_doubtsToldAs_15, zcdo h ho hs, zbnd_some, if_neg (nI_ge (by omega) (by omega)), z3', zag_nI (by omega) (by omega), (h.2.2.2.2 s hs).2.2.2.2.2.2 k (by omega)]
    by_cases q : a 10 (3 * s + k) = how
    · have : (a 10 (3 * s + k) == how) = true := by rw [q]; simp
      rw [if_pos (by rw [q]), nI_1, nI_1]
      rw [this, if_pos rfl] at ih
      exact ih
    · have : (a 10 (3 * s + k) == how) = false := by simp; exact q
      rw [if_neg (fun z => q ((nI_eq (by omega) (by omega)).mp z)), nI_1]
      rw [this, if_neg (by decide)] at ih
      exact ih
theorem zctold_out {N how : Nat} {a : zA} {σ : zSt} (h : zCN σ a) (ho : zOk a) (hh : how ≤ 11) (hN : 600000 ≤ N) : ∀ (g f s : Nat), g < f → s + g = a 0 1 → fX2_doubtsToldAs_4 N f (nI how) (nI (fb_sm (zdc a how) s)) (nI s) σ = some (nI (fb_sm (zdc a how) (a 0 1)), σ)
  | 0, f + 1, s, _, hs => by
    have h16 := ho.2.1
    rw [fX2_doubtsToldAs_4, h.2.1, if_pos (nI_le (by omega) (by omega)), show s = a 0 1 by omega]
  | g + 1, f + 1, s, hf, hs => by
    have h16 := ho.2.1
    have o1 := (ho.2.2.2.2 s (by omega)).1
    have o2 := zdo_b (a 6 s) (by omega)
    have e := zctold_in (N := N) (c := fb_sm (zdc a how) s) (k4 := fX2_doubtsToldAs_4 N f) h ho (s := s) (by omega) hh (zdo (a 6 s)) N 0 (by omega) (by omega)
    have e : fX2_doubtsToldAs_15 N (fX2_doubtsToldAs_4 N f) N (nI how) (nI (fb_sm (zdc a how) s)) (nI s) 0 σ = _ := e
    rw [fX2_doubtsToldAs_4, h.2.1, if_neg (nI_ge (by omega) (by omega)), e]
    exact zctold_out h ho hh hN g f (s + 1) (by omega) (by omega)
theorem zctold {N how : Nat} {a : zA} {σ : zSt} (h : zCN σ a) (ho : zOk a) (hh : how ≤ 11) (hN : 600000 ≤ N) : fX2_doubtsToldAs N (nI how) σ = some (nI (fb_sm (zdc a how) (a 0 1)), σ) := by
  have h16 := ho.2.1
  exact zctold_out h ho hh hN (a 0 1) N 0 (by omega) (by omega)
theorem zmtold {N hd : Nat} {a : zA} {ρ : zSt} (h : zMN ρ a) (ho : zOk a) (hh : hd ≤ 9) : ∀ (g f i : Nat), g < f → i + g = 3 * a 0 1 → fX8_borne_24 N f (nI hd) (nI (fb_ct (fun i => a 10 i == 2 + hd) i)) (nI i) ρ = some (nI (fb_ct (fun i => a 10 i == 2 + hd) (3 * a 0 1)), ρ)
  | 0, f + 1, i, _, hi => by
    have h16 := ho.2.1
    have e3 : (3 : Int32) * nI (a 0 1) = nI (3 * a 0 1) := pk_mul 3 _
    rw [fX8_borne_24, h.2.1, e3, if_pos (nI_le (by omega) (by omega)), show i = 3 * a 0 1 by omega]
  | g + 1, f + 1, i, hf, hi => by
    have h16 := ho.2.1
    have e3 : (3 : Int32) * nI (a 0 1) = nI (3 * a 0 1) := pk_mul 3 _
    have e2 : (2 : Int32) + nI hd = nI (2 + hd) := nI_add 2 hd
    have hv := (h.2.2.2.2 (i / 3) (by omega)).2.2.2.2 (i % 3) (by omega)
    have hb := ((ho.2.2.2.2 (i / 3) (by omega)).2.2.2.2.2.2.2 (i % 3) (by omega)).1
    rw [show 3 * (i / 3) + i % 3 = i by omega] at hv hb
    have ih := zmtold (N := N) h ho hh g f (i + 1) (by omega) (by omega)
    rw [fb_ct_succ] at ih
    rw [fX8_borne_24, h.2.1, e3, if_neg (nI_ge (by omega) (by omega)), zag_nI (by omega) (by omega), hv, e2]
    by_cases q : a 10 i = 2 + hd
    · have : (a 10 i == 2 + hd) = true := by rw [q]; simp
      rw [if_pos (by rw [q]), fX8_borne_52, znm_eq, nI_1, nI_1]
      rw [this, if_pos rfl] at ih
      exact ih
    · have : (a 10 i == 2 + hd) = false := by simp; exact q
      rw [if_neg (fun z => q ((nI_eq (by omega) (by omega)).mp z)), fX8_borne_52, znm_eq, show (0 : Int32) = nI 0 from rfl, nI_add, nI_1]
      rw [this, if_neg (by decide)] at ih
      exact ih
theorem zdc_eq {a : zA} {how : Nat} (ho : zOk a) (h0 : 0 < how) : ∀ n, n ≤ a 0 1 → fb_ct (fun i => a 10 i == how) (3 * n) = fb_sm (zdc a how) n
  | 0, _ => rfl
  | n + 1, hn => by
    have ih := zdc_eq ho h0 n (by omega)
    have o1 := (ho.2.2.2.2 n (by omega)).1
    have o2 := zdo_b (a 6 n) (by omega)
    have o8 := (ho.2.2.2.2 n (by omega)).2.2.2.2.2.2.2
    rw [show 3 * (n + 1) = 3 * n + 3 by omega, fb_ct_split, ih, fb_sm_succ]
    congr 1
    unfold zdc
    have : fb_ct (fun k => a 10 (3 * n + k) == how) 3 = fb_ct (fun k => a 10 (3 * n + k) == how) (zdo (a 6 n)) + fb_ct (fun k => a 10 (3 * n + (zdo (a 6 n) + k)) == how) (3 - zdo (a 6 n)) := by
      rw [← fb_ct_split (fun k => a 10 (3 * n + k) == how), show zdo (a 6 n) + (3 - zdo (a 6 n)) = 3 by omega]
    have z0 : fb_ct (fun k => a 10 (3 * n + (zdo (a 6 n) + k)) == how) (3 - zdo (a 6 n)) = 0 := fb_ct_zero.mpr (fun k hk => by
      have z := (o8 (zdo (a 6 n) + k) (by omega)).2 (by omega)
      show (a 10 (3 * n + (zdo (a 6 n) + k)) == how) = false
      rw [z]
      simp
      omega)
    rw [this, z0]
    rfl
theorem zp_borne {N : Nat} (hN : 600000 ≤ N) (x : Int32) : zP2 (fX7_borne N x) (fX8_borne N x) := by
  intro σ ρ hR
  have hR2 := zR_keep hR zKC_rfl (zKM_thr (σ := ρ))
  have hR' := hR2
  obtain ⟨a, ho, hc, hm, -⟩ := hR'
  have h16 := ho.2.1
  have e0 : (0 : Int64) = (0 : Int32).toInt64 := by decide
  have e9 : (9 : Int64) = (nI 10 - 1).toInt64 := by decide
  have e9' : fX7_isWithin N x 0 9 σ = fX7_isWithin N x 0 (nI 10 - 1) σ := rfl
  unfold fX7_borne fX8_borne
  rw [zpf_eq, e9, e0, zinM, e9']
  rcases zw_ex (N := N) (n := 10) (x := x) (by decide) with ⟨d, hd, e, q⟩ | ⟨-, q⟩
  · have e2 : (2 : Int32) + nI d = nI (2 + d) := nI_add 2 d
    have r := zmtold (N := N) hm ho (show d ≤ 9 by omega) (3 * a 0 1) N 0 (by omega) (by omega)
    have r : fX8_borne_24 N N (nI d) 0 0 (zsi ρ 0 0 0) = _ := r
    rw [q, q, zbnd_some, zbnd_some, if_neg (show ¬ (1 : Int32) = 0 by decide), if_neg (show ¬ (1 : Int32) = 0 by decide), e, e2, zctold hc ho (by omega) hN, zbnd_some, r, zdc_eq ho (by omega) _ (Nat.le_refl _)]
    exact ⟨_, _, _, rfl, rfl, hR2⟩
  · rw [q, q, zbnd_some, zbnd_some, if_pos rfl, if_pos rfl]
    exact ⟨_, _, _, rfl, rfl, hR2⟩
/-! bits counted -/
theorem zmbits_loop {N : Nat} {P : Nat → Bool} {ρ : zSt} : ∀ (g f k : Nat), g < f → k + g = 20 → fX8_bits_4 N f (nI (zS P)) (nI (fb_ct P k)) (nI k) ρ = some (nI (fb_ct P 20), ρ)
  | 0, f + 1, k, _, hk => by
    rw [fX8_bits_4, if_pos (show (20 : Int32) ≤ nI k from nI_le (a := 20) (by omega) (by omega)), show k = 20 by omega]
  | g + 1, f + 1, k, hf, hk => by
    rw [fX8_bits_4, if_neg (show ¬ (20 : Int32) ≤ nI k from nI_ge (b := 20) (by omega) (by omega)), znm_eq, zS_at (by omega), nI_add, nI_1]
    exact zmbits_loop g f (k + 1) (by omega) (by omega)
theorem zmbits {N : Nat} {P : Nat → Bool} {ρ : zSt} (hN : 600000 ≤ N) : fX8_bits N (nI (zS P)) ρ = some (nI (fb_ct P 20), ρ) := zmbits_loop 20 N 0 (by omega) (by omega)
theorem zcbits {N : Nat} {P : Nat → Bool} {σ : zSt} : fJ6_bitCount_0f7a4 N (nI (zS P)) σ = some (nI (fb_ct P 20), σ) := by
  rw [zbitCount zS_lt, fb_ct_cong (q := P) (fun k hk => zS_bit hk)]
/-! ===== hand ===== -/
theorem zcgrounds_loop {N hd : Nat} {a : zA} {σ : zSt} (h : zCN σ a) (ho : zOk a) (hh : hd ≤ 9) : ∀ (g f i : Nat), g < f → i + g = a 0 0 → fX2_groundsOf_4 N f (nI hd) (nI (zS (fun n => decide (n < i) && (decide (a 1 n < 2) && (a 2 n == hd))))) (nI i) σ = some (nI (zS (zgh a hd)), σ)
  | 0, f + 1, i, _, hi => by
    have h20 := ho.1
    rw [fX2_groundsOf_4, h.1, if_pos (nI_le (by omega) (by omega)), show i = a 0 0 by omega]
    rfl
  | g + 1, f + 1, i, hf, hi => by
    have h20 := ho.1
    obtain ⟨c1, c2, c3⟩ := h.2.2.2.1 i (by omega)
    obtain ⟨o1, o2, o3, o4, o5⟩ := ho.2.2.2.1 i (by omega)
    rw [fX2_groundsOf_4, h.1, if_neg (nI_ge (by omega) (by omega)), zag_nI (by omega) (by omega), c1]
    by_cases q : a 1 i = 2
    · rw [if_pos (by rw [q]; rfl), nI_1, zacc_no (by rw [q]; rfl)]
      exact zcgrounds_loop h ho hh g f (i + 1) (by omega) (by omega)
    · rw [if_neg (show ¬ nI (a 1 i) = (2 : Int32) from fun e => q ((nI_eq (b := 2) (by omega) (by omega)).mp e)), zag_nI (by omega) (by omega), (c3 (by omega)).1]
      by_cases z : a 2 i = hd
      · rw [if_pos (by rw [z]), znm_eq, zacc_yes (by omega) (by rw [z, decide_eq_true (by omega)]; simp), nI_1]
        exact zcgrounds_loop h ho hh g f (i + 1) (by omega) (by omega)
      · have z' : (a 2 i == hd) = false := by simp; exact z
        rw [if_neg (fun e => z ((nI_eq (by omega) (by omega)).mp e)), nI_1, zacc_no (by rw [z', Bool.and_false])]
        exact zcgrounds_loop h ho hh g f (i + 1) (by omega) (by omega)
theorem zcgrounds {N hd : Nat} {a : zA} {σ : zSt} (h : zCN σ a) (ho : zOk a) (hh : hd ≤ 9) (hN : 600000 ≤ N) : fX2_groundsOf N (nI hd) σ = some (nI (zS (zgh a hd)), σ) := by
  have h20 := ho.1
  have := zcgrounds_loop (N := N) h ho hh (a 0 0) N 0 (by omega) (by omega)
  rw [← zacc_0] at this
  exact this
/-- what is left without a hand's -/
def zwo (a : zA) (hd : Nat) : Nat → Bool := zsh a (fun _ => false) (fun i => zsd a i && !zgh a hd i)
theorem zmhand_in {N hd : Nat} {a : zA} {ρ : zSt} {C : Nat → Bool} {x1 : Int32} {mo : Nat} {k29 : Int32 → Int32 → Int32 → Int32 → Int32 → zSt → Option (Int32 × zSt)} (h : zMN ρ a) (ho : zOk a) (hh : hd ≤ 9) (hN : 600000 ≤ N) : ∀ (g f i : Nat), g < f → i + g = a 0 0 → ∃ υ, zF30 ρ υ ∧ fX8_hand_42 N k29 f x1 (nI mo) (nI (zS (zsd a))) (nI (zS C)) (nI hd) (nI (zS (fun n => decide (n < i) && (decide (a 1 n < 2) && (a 2 n == hd))))) (nI i) ρ = (if nI (fb_ct (fun n => C n && !zwo a hd n) 20) ≤ nI mo then k29 x1 (nI mo) (nI (zS (zsd a))) (nI (zS C)) (nI (hd + 1)) υ else k29 (nI hd) (nI (fb_ct (fun n => C n && !zwo a hd n) 20)) (nI (zS (zsd a))) (nI (zS C)) (nI (hd + 1)) υ)
  | 0, f + 1, i, _, hi => by
    have h20 := ho.1
    have e : (nI (zS (fun n => decide (n < i) && (decide (a 1 n < 2) && (a 2 n == hd))))) = nI (zS (zgh a hd)) := by rw [show i = a 0 0 by omega]; rfl
    obtain ⟨υ, e1, -, e3⟩ := zmshown0 (N := N) (P := fun i => zsd a i && !zgh a hd i) h ho hN
    have e1 : fX8_shownBy N (nI (zS (fun i => zsd a i && !zgh a hd i))) (-1000000) ρ = some (nI (zS (zwo a hd)), υ) := e1
    refine ⟨υ, e3, ?_⟩
    rw [fX8_hand_42, h.1, if_pos (nI_le (by omega) (by omega)), e, zS_andn, e1, zbnd_some, zS_andn, zmbits hN, zbnd_some, nI_1]
  | g + 1, f + 1, i, hf, hi => by
    have h20 := ho.1
    obtain ⟨c1, c2, c3, -⟩ := h.2.2.2.1 i (by omega)
    obtain ⟨o1, o2, o3, o4, o5⟩ := ho.2.2.2.1 i (by omega)
    obtain ⟨υ, ih1, ih2⟩ := zmhand_in (N := N) (C := C) (x1 := x1) (mo := mo) (k29 := k29) h ho hh hN g f (i + 1) (by omega) (by omega)
    refine ⟨υ, ih1, ?_⟩
    rw [fX8_hand_42, h.1, if_neg (nI_ge (by omega) (by omega)), zag_nI (by omega) (by omega), c1]
    by_cases q : a 1 i = 2
    · rw [if_pos (by rw [q]; decide), fX8_hand_83, fX8_hand_84, znm_eq, zor0, nI_1, zacc_no (by rw [q]; rfl)]
      exact ih2
    · rw [if_neg (show ¬ (2 : Int32) ≤ nI (a 1 i) from nI_ge (b := 2) (by omega) (by omega)), zag_nI (by omega) (by omega), (c3 (by omega)).1]
      by_cases z : a 2 i = hd
      · rw [if_pos (by rw [z]), fX8_hand_84, znm_eq, zacc_yes (by omega) (by rw [z, decide_eq_true (by omega)]; simp), nI_1]
        exact ih2
      · have z' : (a 2 i == hd) = false := by simp; exact z
        rw [if_neg (fun e => z ((nI_eq (by omega) (by omega)).mp e)), fX8_hand_83, fX8_hand_84, znm_eq, zor0, nI_1, zacc_no (by rw [z', Bool.and_false])]
        exact ih2
theorem zhand_loop {N : Nat} {a : zA} {σ : zSt} {C : Nat → Bool} (hc : zCN σ a) (ho : zOk a) (hN : 600000 ≤ N) : ∀ (g f f' hd : Nat) (b : Int32) (mo : Nat) (ρ : zSt), zMN ρ a → g < f → g < f' → hd + g = 10 → mo ≤ 20 → ∃ r υ, fX7_hand_33 N f (nI (zS (zsd a))) (nI (zS C)) b (nI mo) (nI hd) σ = some (r, σ) ∧ fX8_hand_29 N f' b (nI mo) (nI (zS (zsd a))) (nI (zS C)) (nI hd) ρ = some (r, υ) ∧ zF30 ρ υ
  | 0, f + 1, f' + 1, hd, b, mo, ρ, hm, _, _, hh, hmo => by
    have e : hd = 10 := by omega
    subst e
    rw [fX7_hand_33, fX8_hand_29, if_pos (by decide), if_pos (by decide)]
    exact ⟨b, ρ, rfl, rfl, zF30_rfl⟩
  | g + 1, f + 1, f' + 1, hd, b, mo, ρ, hm, hf, hf', hh, hmo => by
    have h20 := ho.1
    obtain ⟨υ, u1, u2⟩ := zmhand_in (N := N) (C := C) (x1 := b) (mo := mo) (k29 := fX8_hand_29 N f') hm ho (show hd ≤ 9 by omega) hN (a 0 0) N 0 (by omega) (by omega)
    rw [← zacc_0] at u2
    have u2 : fX8_hand_42 N (fX8_hand_29 N f') N b (nI mo) (nI (zS (zsd a))) (nI (zS C)) (nI hd) 0 0 ρ = _ := u2
    have hle := fb_ct_le (fun n => C n && !zwo a hd n) 20
    have es : fX2_spread N (nI (zS (fun i => zsd a i && !zgh a hd i))) 0 σ = some (nI (zS (zwo a hd)), σ) := zcspread0 hc ho hN
    rw [fX7_hand_33, fX8_hand_29, if_neg (show ¬ (9 : Int32) < nI hd from nI_nlt (a := 9) (by omega) (by omega)), if_neg (show ¬ (10 : Int32) ≤ nI hd from nI_ge (b := 10) (by omega) (by omega)), u2, zcgrounds hc ho (by omega) hN, zbnd_some, zS_andn, es, zbnd_some, zS_andn, zcbits, zbnd_some, nI_1]
    by_cases q : nI (fb_ct (fun n => C n && !zwo a hd n) 20) ≤ nI mo
    · rw [if_pos q, if_pos q]
      obtain ⟨r, υ', r1, r2, r3⟩ := zhand_loop (N := N) (C := C) hc ho hN g f f' (hd + 1) b mo υ (zMN_30 hm u1) (by omega) (by omega) (by omega) hmo
      exact ⟨r, υ', r1, r2, zF30_trans u1 r3⟩
    · rw [if_neg q, if_neg q]
      obtain ⟨r, υ', r1, r2, r3⟩ := zhand_loop (N := N) (C := C) hc ho hN g f f' (hd + 1) (nI hd) (fb_ct (fun n => C n && !zwo a hd n) 20) υ (zMN_30 hm u1) (by omega) (by omega) (by omega) hle
      exact ⟨r, υ', r1, r2, zF30_trans u1 r3⟩
theorem zp_hand {N : Nat} (hN : 600000 ≤ N) : zP2 (fX7_hand N) (fX8_hand N) := by
  intro σ ρ hR
  have hR2 := zR_keep hR zKC_rfl (zKM_thr (σ := ρ))
  have hR' := hR2
  obtain ⟨a, ho, hc, hm, -⟩ := hR'
  obtain ⟨υ, s1, -, s3⟩ := zmshown (N := N) hm ho hN
  unfold fX7_hand fX8_hand
  rw [zpf_eq, zcstanding hc ho hN, zmstanding hm ho hN, zbnd_some, zbnd_some, zcshown hc ho hN, s1, zbnd_some, zbnd_some, zcclaims hc ho hN, zmclaims (zMN_30 hm s3) ho hN, zbnd_some, zbnd_some, znm_eq, znm_eq, zS_and]
  obtain ⟨r, υ', r1, r2, r3⟩ := zhand_loop (N := N) (C := fun i => zsh a (fun _ => false) (zsd a) i && zcl a i) hc ho hN 10 N N 0 (-1000000) 0 υ (zMN_30 hm s3) (by omega) (by omega) (by omega) (by omega)
  have r1 : fX7_hand_33 N N (nI (zS (zsd a))) (nI (zS (fun i => zsh a (fun _ => false) (zsd a) i && zcl a i))) (-1000000) 0 0 σ = some (r, σ) := r1
  have r2 : fX8_hand_29 N N (-1000000) 0 (nI (zS (zsd a))) (nI (zS (fun i => zsh a (fun _ => false) (zsd a) i && zcl a i))) 0 υ = some (r, υ') := r2
  exact ⟨_, _, _, r1, r2, zR_keep hR2 zKC_rfl (zKM_30 (zF30_trans s3 r3))⟩
/-! ===== leaning ===== -/
theorem zp_leaning {N : Nat} (hN : 600000 ≤ N) (x : Int32) : zP2 (fX7_leaning N x) (fX8_leaning N x) := by
  intro σ ρ hR
  have hR2 := zR_keep hR zKC_rfl (zKM_thr (σ := ρ))
  have hR' := hR2
  obtain ⟨a, ho, hc, hm, -⟩ := hR'
  have h20 := ho.1
  unfold fX7_leaning fX8_leaning
  rw [zpf_eq]
  rcases znode2 (N := N) (x := x) hc hm ho with ⟨k, hk, e, c1, c2⟩ | ⟨c1, c2⟩
  · obtain ⟨υ, s1, -, s3⟩ := zmshown (N := N) hm ho hN
    have hm2 := zMN_30 hm s3
    have p4 := (hm2.2.2.2.1 k hk).1
    have o1 := (ho.2.2.2.1 k hk).1
    rw [c1, c2, zbnd_some, zbnd_some, if_neg (show ¬ (1 : Int32) = 0 by decide), if_neg (show ¬ (1 : Int32) = 0 by decide), e, znm_eq, zS_shl (by omega), zcstanding hc ho hN, zbnd_some, zS_andn, zcspread hc ho hN, zbnd_some, zcshown hc ho hN, zbnd_some, zcclaims hc ho hN, zbnd_some, zS_and, zS_andn, zS_andn, s1, zbnd_some, zag_nI (by omega) (by omega), p4]
    by_cases v : a 1 k = 2
    · obtain ⟨υ2, t1, -, t3⟩ := zmshownBy (N := N) (w := nI k) (P := zsd a) hm2 ho hN
      rw [if_pos (show nI (a 1 k) = (2 : Int32) by rw [v]; rfl), zmstanding hm2 ho hN, zbnd_some, t1, zbnd_some]
      unfold fX8_leaning_59
      have hq : zqq (zsh a (fun i => i == k) (fun i => zsd a i && !(i == k))) (zsh a (zBw (nI k)) (zsd a)) := zit_cong ho (fun s hs => by
        have o7 := (ho.2.2.2.2 s hs).2.1
        show (a 7 s == k) = decide (nI k = nI (a 7 s))
        by_cases w : a 7 s = k
        · rw [w, decide_eq_true rfl]; simp
        · rw [decide_eq_false (fun z => w ((nI_eq (by omega) (by omega)).mp z).symm)]
          simp; exact w) 20 (fun n hn => by
        show (zsd a n && !(n == k)) = zsd a n
        by_cases w : n = k
        · subst w
          have : zsd a n = false := by unfold zsd; rw [v]; simp
          rw [this]; rfl
        · have : (n == k) = false := by simp; exact w
          rw [this]; simp)
      rw [zmclaims (zMN_30 hm2 t3) ho hN, zbnd_some, zS_andn, zS_and, zS_shl (by omega), zS_andn]
      refine ⟨_, _, _, rfl, ?_, zR_keep hR2 zKC_rfl (zKM_30 (zF30_trans s3 t3))⟩
      congr 2
      refine zS_eq.mpr (fun n hn => ?_)
      rw [hq n hn]
      cases zsh a (fun _ => false) (zsd a) n <;> cases zcl a n <;> cases zsh a (zBw (nI k)) (zsd a) n <;> rfl
    · obtain ⟨υ2, t1, -, t3⟩ := zmshown0 (N := N) (P := fun i => zsd a i && !(i == k)) hm2 ho hN
      rw [if_neg (show ¬ nI (a 1 k) = (2 : Int32) from fun z => v ((nI_eq (b := 2) (by omega) (by omega)).mp z)), zmstanding hm2 ho hN, zbnd_some, zS_andn, t1, zbnd_some]
      unfold fX8_leaning_59
      have hq : zqq (zsh a (fun i => i == k) (fun i => zsd a i && !(i == k))) (zsh a (fun _ => false) (fun i => zsd a i && !(i == k))) := zit_cong ho (fun s hs => by
        have o7 := (ho.2.2.2.2 s hs).2.2.1
        show (a 7 s == k) = false
        simp
        intro w
        rw [w] at o7
        exact v o7) 20 zqq_rfl
      rw [zmclaims (zMN_30 hm2 t3) ho hN, zbnd_some, zS_andn, zS_and, zS_shl (by omega), zS_andn]
      refine ⟨_, _, _, rfl, ?_, zR_keep hR2 zKC_rfl (zKM_30 (zF30_trans s3 t3))⟩
      congr 2
      refine zS_eq.mpr (fun n hn => ?_)
      rw [hq n hn]
      cases zsh a (fun _ => false) (zsd a) n <;> cases zcl a n <;> cases zsh a (fun _ => false) (fun i => zsd a i && !(i == k)) n <;> rfl
  · rw [c1, c2, zbnd_some, zbnd_some, if_pos rfl, if_pos rfl]
    exact ⟨_, _, _, rfl, rfl, hR2⟩
