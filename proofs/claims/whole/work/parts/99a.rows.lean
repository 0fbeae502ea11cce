/-! ===== the class's table: its rows ===== -/
def zRw (R : List (Nat × Int × Int)) (n r c : Nat) : Int := if c = n then (R.getD r (0, 0, 0)).2.2 else (R.getD r (0, 0, 0)).2.1 * (if (R.getD r (0, 0, 0)).1.testBit c then 1 else 0)
theorem zRw_old {R : List (Nat × Int × Int)} {x : Nat × Int × Int} {n r c : Nat} (h : r < R.length) : zRw (R ++ [x]) n r c = zRw R n r c := by
  unfold zRw
  have : (R ++ [x]).getD r (0, 0, 0) = R.getD r (0, 0, 0) := by
    rw [List.getD_eq_getElem?_getD, List.getD_eq_getElem?_getD, List.getElem?_append_left h]
  rw [this]
theorem zRw_new {R : List (Nat × Int × Int)} {x : Nat × Int × Int} {n c : Nat} : zRw (R ++ [x]) n R.length c = if c = n then x.2.2 else x.2.1 * (if x.1.testBit c then 1 else 0) := by
  unfold zRw
  have : (R ++ [x]).getD R.length (0, 0, 0) = x := by simp
  rw [this]
abbrev zTR (σ : zSt) (R : List (Nat × Int × Int)) (n : Nat) : Prop := zTC σ R.length n (zRw R n) 1 (fun r => 8 + r) (fun c => c)
/-- a row's three numbers -/
def zOkR (x : Nat × Int × Int) : Prop := x.1 < 2 ^ 31 ∧ (x.2.1 = 1 ∨ x.2.1 = -1) ∧ -100 ≤ x.2.2 ∧ x.2.2 ≤ 100
theorem zaddRow_loop {N n m : Nat} {x : Nat × Int × Int} (hx : zOkR x) (hn : n ≤ 8) (hm : m < 15) : ∀ (g f i : Nat) (σ : zSt), g < f → i + g = n → σ.1 29 3 = nI m → σ.1 29 4 = nI n →
    ∃ τ : zSt, fX4_addRow_13 N f (nI x.1) (iI x.2.1) (iI x.2.2) (nI i) σ = some ((), zsi (zsi (zsl τ (35 + m) n (iL x.2.2)) 31 m (nI (8 + m))) 29 3 (nI (m + 1))) ∧ τ.1 = σ.1 ∧ (∀ k, k ≠ 35 + m → τ.2 k = σ.2 k) ∧ (∀ c, c < i → τ.2 (35 + m) c = σ.2 (35 + m) c) ∧ ∀ c, i ≤ c → c < n → τ.2 (35 + m) c = iL (x.2.1 * (if x.1.testBit c then 1 else 0))
  | 0, f + 1, i, σ, _, hi, h3, h4 => by
    rw [fX4_addRow_13, h3, h4, if_pos (nI_le (by omega) (by omega)), zrow_nI (by omega) (by omega), zasL_nI (by omega) (by omega)]
    have e1 : (zsl σ (35 + m) n (iI x.2.2).toInt64).1 29 3 = nI m := h3
    have e2 : (zsi (zsl σ (35 + m) n (iI x.2.2).toInt64) 31 m (8 + nI m)).1 29 3 = nI m := by rw [zsi_c (by decide)]; exact h3
    rw [e1, zas_nI (by omega) (by omega), e2, zpf_eq, iI_L (by have := hx.2.2; omega) (by have := hx.2.2; omega), show (8 : Int32) + nI m = nI (8 + m) from nI_add 8 m, nI_1]
    exact ⟨σ, rfl, rfl, fun _ _ => rfl, fun _ _ => rfl, fun c h1 h2 => by omega⟩
  | g + 1, f + 1, i, σ, hf, hi, h3, h4 => by
    rw [fX4_addRow_13, h3, h4, if_neg (nI_ge (by omega) (by omega)), zrow_nI (by omega) (by omega), fX7_bitAt_eq hx.1 (by omega), zbnd_some, zasL_nI (by omega) (by omega), nI_1]
    have ev : (iI x.2.1 * nI (if x.1.testBit i then 1 else 0)).toInt64 = iL (x.2.1 * (if x.1.testBit i then 1 else 0)) := by
      rw [← iI_nat, iI_mul]
      have e : ((if x.1.testBit i = true then 1 else 0 : Nat) : Int) = (if x.1.testBit i = true then 1 else 0) := by
        cases x.1.testBit i <;> rfl
      rw [e]
      rcases hx.2.1 with q | q <;> rw [q] <;> cases x.1.testBit i <;> rfl
    rw [ev]
    obtain ⟨τ, e, e1, e2, e3, e4⟩ := zaddRow_loop (N := N) (n := n) (m := m) hx hn hm g f (i + 1) (zsl σ (35 + m) i (iL (x.2.1 * (if x.1.testBit i then 1 else 0)))) (by omega) (by omega) h3 h4
    refine ⟨τ, e, e1.trans zsl_1, fun k hk => (e2 k hk).trans (zsl_c hk), fun c hc => (e3 c (by omega)).trans (zsl_o (by omega)), fun c h1 h2 => ?_⟩
    by_cases q : c = i
    · rw [e3 c (by omega), q, zsl_s]
    · exact e4 c (by omega) h2
theorem zaddRow {N n : Nat} {R : List (Nat × Int × Int)} {x : Nat × Int × Int} {σ : zSt} (h : zTR σ R n) (hx : zOkR x) (hn : n ≤ 8) (hm : R.length < 15) (hN : 100 ≤ N) : ∃ τ, fX4_addRow N (nI x.1) (iI x.2.1) (iI x.2.2) σ = some ((), τ) ∧ zTR τ (R ++ [x]) n ∧ zFT σ τ := by
  unfold fX4_addRow
  rw [h.1, if_pos (show nI R.length < (15 : Int32) from nI_lt (b := 15) hm (by omega))]
  obtain ⟨τ, e, e1, e2, -, e4⟩ := zaddRow_loop (N := N) hx hn hm n N 0 σ (by omega) (by omega) h.1 h.2.1
  have hl : (R ++ [x]).length = R.length + 1 := List.length_append
  refine ⟨_, e, ⟨?_, ?_, ?_, fun r hr c hc => ?_, fun r hr => ?_, fun c hc => ?_⟩, fun k h1 h2 h3 => ?_, fun k hk => ?_⟩
  · rw [zsi_s, hl]
  · rw [zsi_o (by decide), zsi_c (by decide)]
    show τ.1 29 4 = _
    rw [e1]; exact h.2.1
  · rw [zsi_2, zsi_2, zsl_c (by omega), e2 29 (by omega)]; exact h.2.2.1
  · rw [zsi_2, zsi_2]
    rw [hl] at hr
    by_cases q : r = R.length
    · rw [q, zRw_new]
      by_cases q2 : c = n
      · rw [q2, zsl_s, if_pos rfl]
      · rw [zsl_o q2, if_neg q2, e4 c (by omega) (by omega)]
    · rw [zsl_c (by omega), e2 (35 + r) (by omega), zRw_old (by omega)]
      exact h.2.2.2.1 r (by omega) c hc
  · rw [zsi_c (by decide)]
    rw [hl] at hr
    by_cases q : r = R.length
    · rw [q, zsi_s]
    · rw [zsi_o q]
      show τ.1 31 r = _
      rw [e1]
      exact h.2.2.2.2.1 r (by omega)
  · rw [zsi_c (by decide), zsi_c (by decide)]
    show τ.1 32 c = _
    rw [e1]
    exact h.2.2.2.2.2 c hc
  · rw [zsi_c h1, zsi_c h2]
    show τ.1 k = _
    rw [e1]
  · rw [zsi_2, zsi_2, zsl_c (by omega), e2 k (by omega)]
/-! the beginning -/
theorem zbegin_loop {N n u : Nat} (hu : u < 2 ^ 31) (hn : n ≤ 8) (hN : 100 ≤ N) : ∀ (g f i : Nat) (σ : zSt), g < f → i + g = n → σ.1 29 4 = nI n → (∀ c, c < i → σ.1 32 c = nI c) →
    ∃ τ : zSt, fX4_begin_12 N f (nI u) (nI i) σ = some ((), τ) ∧ zTR τ [(u, 1, 0)] n ∧ zFT σ τ
  | 0, f + 1, i, σ, _, hi, h4, hc => by
    rw [fX4_begin_12, h4, if_pos (nI_le (by omega) (by omega)), zpfL_eq, zpf_eq]
    obtain ⟨τ, e, e1, e2⟩ := zaddRow (N := N) (R := []) (x := (u, 1, 0)) (σ := zsi (zsl σ 29 5 1) 29 3 0) (n := n) ⟨zsi_s, by rw [zsi_o (by decide)]; exact h4, by rw [zsi_2, zsl_s]; rfl, fun r hr => absurd hr (Nat.not_lt_zero r), fun r hr => absurd hr (Nat.not_lt_zero r), fun c hc2 => by rw [zsi_c (by decide)]; exact hc c (by omega)⟩ ⟨hu, Or.inl rfl, by show (-100 : Int) ≤ 0; decide, by show (0 : Int) ≤ 100; decide⟩ hn (by decide) hN
    have e : fX4_addRow N (nI u) 1 0 (zsi (zsl σ 29 5 1) 29 3 0) = some ((), τ) := e
    rw [e, zbnd_some]
    exact ⟨τ, rfl, e1, fun k h1 h2 h3 => (e2.1 k h1 h2 h3).trans (zsi_c h1), fun k hk => (e2.2 k hk).trans (by rw [zsi_2, zsl_c (by omega)])⟩
  | g + 1, f + 1, i, σ, hf, hi, h4, hc => by
    rw [fX4_begin_12, h4, if_neg (nI_ge (by omega) (by omega)), zas_nI (by omega) (by omega), nI_1]
    obtain ⟨τ, e, e1, e2⟩ := zbegin_loop (N := N) (n := n) hu hn hN g f (i + 1) (zsi σ 32 i (nI i)) (by omega) (by omega) (by rw [zsi_c (by decide)]; exact h4) (fun c hc2 => by
      by_cases q : c = i
      · rw [q, zsi_s]
      · rw [zsi_o q]; exact hc c (by omega))
    exact ⟨τ, e, e1, fun k h1 h2 h3 => (e2.1 k h1 h2 h3).trans (zsi_c h3), fun k hk => (e2.2 k hk).trans (by rw [zsi_2])⟩
theorem zbegin {N n u : Nat} {σ : zSt} (hu : u < 2 ^ 31) (hn : n ≤ 8) (hN : 100 ≤ N) : ∃ τ : zSt, fX4_begin N (nI n) (nI u) σ = some ((), τ) ∧ zTR τ [(u, 1, 0)] n ∧ zFT σ τ := by
  unfold fX4_begin
  rw [if_neg (show ¬ (8 : Int32) < nI n from nI_nlt (a := 8) hn (by omega)), zpf_eq]
  obtain ⟨τ, e, e1, e2⟩ := zbegin_loop (N := N) hu hn hN n N 0 (zsi σ 29 4 (nI n)) (by omega) (by omega) zsi_s (fun c hc => by omega)
  exact ⟨τ, e, e1, fun k h1 h2 h3 => (e2.1 k h1 h2 h3).trans (zsi_c h1), fun k hk => (e2.2 k hk).trans rfl⟩
/-! spans -/
def zSpn (u lo hi : Nat) : List (Nat × Int × Int) := (if hi < 100 then [(u, 1, (hi : Int))] else []) ++ (if 0 < lo then [(u, -1, -(lo : Int))] else [])
theorem zSpn_len {u lo hi : Nat} : (zSpn u lo hi).length ≤ 2 := by
  unfold zSpn
  rw [List.length_append]
  split <;> split <;> simp
theorem zSpn_ok {u lo hi : Nat} (hu : u < 2 ^ 31) (hl : lo ≤ 100) : ∀ x ∈ zSpn u lo hi, zOkR x := by
  intro x hx
  unfold zSpn at hx
  rcases List.mem_append.mp hx with q | q
  · by_cases e : hi < 100
    · rw [if_pos e, List.mem_singleton] at q
      rw [q]
      exact ⟨hu, Or.inl rfl, by show (-100 : Int) ≤ (hi : Int); omega, by show (hi : Int) ≤ 100; omega⟩
    · rw [if_neg e] at q
      exact absurd q List.not_mem_nil
  · by_cases e : 0 < lo
    · rw [if_pos e, List.mem_singleton] at q
      rw [q]
      exact ⟨hu, Or.inr rfl, by show (-100 : Int) ≤ -(lo : Int); omega, by show -(lo : Int) ≤ 100; omega⟩
    · rw [if_neg e] at q
      exact absurd q List.not_mem_nil
theorem zaddSpan {N n u lo hi : Nat} {R : List (Nat × Int × Int)} {σ : zSt} (h : zTR σ R n) (hu : u < 2 ^ 31) (hl : lo ≤ 100) (hh : hi ≤ 100) (hn : n ≤ 8) (hm : R.length ≤ 13) (hN : 100 ≤ N) : ∃ τ, fX6_addSpan N (nI u) (nI lo) (nI hi) σ = some ((), τ) ∧ zTR τ (R ++ zSpn u lo hi) n ∧ zFT σ τ := by
  have step : ∀ (R : List (Nat × Int × Int)) (σ : zSt), zTR σ R n → R.length < 15 → ∃ τ, fX6_addSpan_16 N (nI u) (nI lo) σ = some ((), τ) ∧ zTR τ (R ++ (if 0 < lo then [(u, -1, -(lo : Int))] else [])) n ∧ zFT σ τ := by
    intro R σ h hm
    unfold fX6_addSpan_16
    by_cases e : 0 < lo
    · rw [if_neg (nI_nle e (by omega)), if_pos e]
      obtain ⟨τ, e, e1, e2⟩ := zaddRow (N := N) (x := (u, -1, -(lo : Int))) h ⟨hu, Or.inr rfl, by show (-100 : Int) ≤ -(lo : Int); omega, by show -(lo : Int) ≤ 100; omega⟩ hn hm hN
      have e : fX4_addRow N (nI u) (-1) (iI (-(lo : Int))) σ = some ((), τ) := e
      rw [← iI_neg, iI_nat] at e
      rw [e, zbnd_some]
      exact ⟨τ, rfl, e1, e2⟩
    · rw [if_pos (show nI lo ≤ (0 : Int32) from nI_le (b := 0) (by omega) (by omega)), if_neg e, List.append_nil]
      exact ⟨σ, rfl, h, zFT_rfl⟩
  unfold fX6_addSpan zSpn
  by_cases e : hi < 100
  · rw [if_neg (show ¬ (100 : Int32) ≤ nI hi from nI_ge (b := 100) e (by omega)), if_pos e]
    obtain ⟨τ, e, e1, e2⟩ := zaddRow (N := N) (x := (u, 1, (hi : Int))) h ⟨hu, Or.inl rfl, by show (-100 : Int) ≤ (hi : Int); omega, by show (hi : Int) ≤ 100; omega⟩ hn (by omega) hN
    have e : fX4_addRow N (nI u) 1 (nI hi) σ = some ((), τ) := e
    rw [e, zbnd_some]
    obtain ⟨υ, f, f1, f2⟩ := step _ τ e1 (by rw [List.length_append]; show R.length + 1 < 15; omega)
    rw [List.append_assoc] at f1
    exact ⟨υ, f, f1, zFT_trans e2 f2⟩
  · rw [if_pos (show (100 : Int32) ≤ nI hi from nI_le (a := 100) (by omega) (by omega)), if_neg e, List.nil_append]
    exact step R σ h (by omega)
