/-! ===== the text: bytes, tokens ===== -/
def zsb (b : Nat) : Nat := if b = 32 ∨ b = 10 then 4 else if 97 ≤ b ∧ b ≤ 122 then 1 else if 48 ≤ b ∧ b ≤ 57 then 2 else if b = 59 then 3 else 5
def zsgv (v : Int32) : Int32 := if v < 48 then (if v = 59 then 3 else 5) else if 57 < v then (if v = 59 then 3 else 5) else 2
def zsf (v : Int32) : Int32 := if v = 32 then 4 else if v = 10 then 4 else if v < 97 then zsgv v else if 122 < v then zsgv v else 1
theorem zsf_ok : ∀ b, b < 256 → zsf ((nI b).toInt8.toInt32) = nI (zsb b) := by decide +kernel
theorem zsb_lt (b : Nat) : 1 ≤ zsb b ∧ zsb b ≤ 5 := by
  unfold zsb
  repeat' split
  all_goals omega
theorem zsb_1 {b : Nat} : zsb b = 1 ↔ 97 ≤ b ∧ b ≤ 122 := by
  unfold zsb
  repeat' split
  all_goals omega
theorem zsb_2 {b : Nat} : zsb b = 2 ↔ 48 ≤ b ∧ b ≤ 57 := by
  unfold zsb
  repeat' split
  all_goals omega
theorem zsb_3 {b : Nat} : zsb b = 3 ↔ b = 59 := by
  unfold zsb
  repeat' split
  all_goals omega
theorem zsb_4 {b : Nat} : zsb b = 4 ↔ b = 32 ∨ b = 10 := by
  unfold zsb
  repeat' split
  all_goals omega
/-- the tape on both sides -/
def zTp (σ ρ : zSt) (t : Nat → Nat) (len : Nat) : Prop := len ≤ 400 ∧ (∀ i, i < len → t i < 256) ∧ σ.1 5 1 = nI len ∧ (∀ i, i < len → σ.1 6 i = (nI (t i)).toInt8.toInt32) ∧ ρ.1 0 22 = nI len ∧ ∀ i, i < len → ρ.1 14 i = nI (t i)
theorem zTp_fr {σ ρ τ υ : zSt} {t : Nat → Nat} {len : Nat} (h : zTp σ ρ t len) (h1 : τ.1 5 1 = σ.1 5 1) (h6 : τ.1 6 = σ.1 6) (h22 : υ.1 0 22 = ρ.1 0 22) (h14 : υ.1 14 = ρ.1 14) : zTp τ υ t len := by
  unfold zTp at *
  rw [h1, h6, h22, h14]
  exact h
def zso (t : Nat → Nat) (len i : Nat) : Nat := if i < len then zsb (t i) else 0
theorem zcsort {N i len : Nat} {t : Nat → Nat} {σ ρ : zSt} (h : zTp σ ρ t len) (hi : i < 2 ^ 31) : fX5_sortAt N (nI i) σ = some (nI (zso t len i), σ) := by
  obtain ⟨h1, h2, h3, h4, -, -⟩ := h
  unfold fX5_sortAt zso
  rw [if_neg (nI_pos hi), h3]
  by_cases q : i < len
  · rw [if_pos (nI_lt q (by omega)), if_pos q, zag_nI (by omega) (by omega), h4 i q, ← zsf_ok (t i) (h2 i q)]
    generalize (nI (t i)).toInt8.toInt32 = v
    have low : fX5_sortAt_49 N v σ = some (zsgv v, σ) := by
      unfold fX5_sortAt_49 fX5_sortAt_63 zsgv
      by_cases c4 : v < 48
      · rw [if_pos c4, if_pos c4]
        by_cases c6 : v = 59
        · rw [if_pos c6, if_pos c6]
        · rw [if_neg c6, if_neg c6]
      · rw [if_neg c4, if_neg c4]
        by_cases c5 : 57 < v
        · rw [if_pos c5, if_pos c5]
          by_cases c6 : v = 59
          · rw [if_pos c6, if_pos c6]
          · rw [if_neg c6, if_neg c6]
        · rw [if_neg c5, if_neg c5]
    unfold zsf
    by_cases c1 : v = 32
    · rw [if_pos c1, if_pos c1]
    · rw [if_neg c1, if_neg c1]
      by_cases c2 : v = 10
      · rw [if_pos c2, if_pos c2]
      · rw [if_neg c2, if_neg c2]
        by_cases c3 : v < 97
        · rw [if_pos c3, if_pos c3, low]
        · rw [if_neg c3, if_neg c3]
          by_cases c7 : 122 < v
          · rw [if_pos c7, if_pos c7, low]
          · rw [if_neg c7, if_neg c7]
  · rw [if_neg (nI_nlt (by omega) (by omega)), if_neg q]
    rfl
theorem zmbyte {N i len : Nat} {t : Nat → Nat} {σ ρ : zSt} (h : zTp σ ρ t len) (hi : i < 2 ^ 31) : fX8_byteAt N (nI i) ρ = some (if i < len then nI (t i) else -1000000, ρ) := by
  obtain ⟨h1, h2, -, -, h5, h6⟩ := h
  unfold fX8_byteAt
  rw [h5]
  by_cases q : i < len
  · rw [if_neg (nI_ge q (by omega)), if_pos q, zag_nI (by omega) (by omega), h6 i q]
  · rw [if_pos (nI_le (by omega) (by omega)), if_neg q]
theorem zmlet {N b : Nat} {ρ : zSt} (hb : b < 256) : fX8_isLetter N (nI b) ρ = some (nI (if zsb b = 1 then 1 else 0), ρ) := by
  unfold fX8_isLetter
  by_cases q : b < 97
  · rw [if_pos (show nI b < (97 : Int32) from nI_lt (b := 97) q (by decide)), if_neg (fun z => by have := zsb_1.mp z; omega)]
    exact zrz_0
  · rw [if_neg (show ¬ nI b < (97 : Int32) from nI_nlt (b := 97) (by omega) (by omega))]
    by_cases q2 : 122 < b
    · rw [if_pos (show (122 : Int32) < nI b from nI_lt (a := 122) q2 (by omega)), if_neg (fun z => by have := zsb_1.mp z; omega)]
      exact zrz_0
    · rw [if_neg (show ¬ (122 : Int32) < nI b from nI_nlt (a := 122) (by omega) (by omega)), if_pos (zsb_1.mpr (by omega))]
      exact zrz_1
theorem zmfig {N b : Nat} {ρ : zSt} (hb : b < 256) : fX8_isFigure N (nI b) ρ = some (nI (if zsb b = 2 then 1 else 0), ρ) := by
  unfold fX8_isFigure
  by_cases q : b < 48
  · rw [if_pos (show nI b < (48 : Int32) from nI_lt (b := 48) q (by decide)), if_neg (fun z => by have := zsb_2.mp z; omega)]
    exact zrz_0
  · rw [if_neg (show ¬ nI b < (48 : Int32) from nI_nlt (b := 48) (by omega) (by omega))]
    by_cases q2 : 57 < b
    · rw [if_pos (show (57 : Int32) < nI b from nI_lt (a := 57) q2 (by omega)), if_neg (fun z => by have := zsb_2.mp z; omega)]
      exact zrz_0
    · rw [if_neg (show ¬ (57 : Int32) < nI b from nI_nlt (a := 57) (by omega) (by omega)), if_pos (zsb_2.mpr (by omega))]
      exact zrz_1
theorem zmletN {N : Nat} {ρ : zSt} : fX8_isLetter N (-1000000) ρ = some (0, ρ) := by
  unfold fX8_isLetter
  rw [if_pos (by decide)]
  exact zrz_0
theorem zmfigN {N : Nat} {ρ : zSt} : fX8_isFigure N (-1000000) ρ = some (0, ρ) := by
  unfold fX8_isFigure
  rw [if_pos (by decide)]
  exact zrz_0
/-! blanks -/
theorem zskip2 {N len : Nat} {t : Nat → Nat} : ∀ (g f f' p : Nat) (σ ρ : zSt), g < f → g < f' → p + g = len → zTp σ ρ t len → σ.1 5 2 = nI p → ρ.1 0 23 = nI p → ∃ q τ υ f'', p ≤ q ∧ q ≤ len ∧ zso t len q ≠ 4 ∧ fX5_take_8 N f σ = fX5_take_44 N τ ∧ fX8_next_0 N f' ρ = fX8_next_0 N (f'' + 1) υ ∧ τ.1 5 2 = nI q ∧ (∀ c, c ≠ 5 → τ.1 c = σ.1 c) ∧ (∀ i, i ≠ 2 → τ.1 5 i = σ.1 5 i) ∧ υ.1 0 23 = nI q ∧ (∀ c, c ≠ 0 → υ.1 c = ρ.1 c) ∧ ∀ i, i ≠ 23 → υ.1 0 i = ρ.1 0 i
  | 0, f + 1, f' + 1, p, σ, ρ, _, _, hp, hT, h2, h23 => by
    have hl := hT.1
    refine ⟨p, σ, ρ, f', by omega, by omega, ?_, ?_, rfl, h2, fun _ _ => rfl, fun _ _ => rfl, h23, fun _ _ => rfl, fun _ _ => rfl⟩
    · unfold zso
      rw [if_neg (by omega)]
      decide
    · rw [fX5_take_8, hT.2.2.1, h2, if_pos (nI_le (by omega) (by omega))]
  | g + 1, f + 1, f' + 1, p, σ, ρ, hf, hf', hp, hT, h2, h23 => by
    have hl := hT.1
    by_cases q : zsb (t p) = 4
    · have es : zso t len p = 4 := by unfold zso; rw [if_pos (by omega)]; exact q
      have hT' : zTp (zsi σ 5 2 (nI (p + 1))) (zsi ρ 0 23 (nI (p + 1))) t len := zTp_fr hT (zsi_o (by decide)) (zsi_c (by decide)) (zsi_o (by decide)) (zsi_c (by decide))
      obtain ⟨q', τ, υ, f'', r1, r2, r3, r4, r5, r6, r7, r8, r9, r10, r11⟩ := zskip2 (N := N) g f f' (p + 1) (zsi σ 5 2 (nI (p + 1))) (zsi ρ 0 23 (nI (p + 1))) (by omega) (by omega) (by omega) hT' zsi_s zsi_s
      refine ⟨q', τ, υ, f'', by omega, r2, r3, ?_, ?_, r6, fun c hc => (r7 c hc).trans (zsi_c hc), fun i hi => (r8 i hi).trans (zsi_o hi), r9, fun c hc => (r10 c hc).trans (zsi_c hc), fun i hi => (r11 i hi).trans (zsi_o hi)⟩
      · rw [fX5_take_8, hT.2.2.1, h2, if_neg (nI_ge (by omega) (by omega)), zcsort hT (by omega), zbnd_some, es, if_pos (show nI 4 = (4 : Int32) from rfl), zpf_eq, h2, nI_1]
        exact r4
      · have mb := zmbyte (N := N) (i := p) hT (by omega)
        rw [if_pos (by omega)] at mb
        rw [fX8_next_0, h23, mb, zbnd_some]
        unfold fX8_next_26
        rcases zsb_4.mp q with z | z
        · rw [z, if_pos (show nI 32 = (32 : Int32) from rfl), zpf_eq, h23, nI_1]
          exact r5
        · rw [z, if_neg (show ¬ nI 10 = (32 : Int32) by decide), h23, mb, zbnd_some, z, if_pos (show nI 10 = (10 : Int32) from rfl), zpf_eq, h23, nI_1]
          exact r5
    · have es : zso t len p ≠ 4 := by unfold zso; rw [if_pos (by omega)]; exact q
      have hs := zsb_lt (t p)
      refine ⟨p, σ, ρ, f', by omega, by omega, es, ?_, rfl, h2, fun _ _ => rfl, fun _ _ => rfl, h23, fun _ _ => rfl, fun _ _ => rfl⟩
      have b5 : zso t len p ≤ 5 := by unfold zso; split <;> omega
      rw [fX5_take_8, hT.2.2.1, h2, if_neg (nI_ge (by omega) (by omega)), zcsort hT (by omega), zbnd_some, if_neg (show ¬ nI (zso t len p) = (4 : Int32) from fun z => es ((nI_eq (b := 4) (by omega) (by omega)).mp z))]
/-! runs of one sort -/
def zend (t : Nat → Nat) (len k e e' : Nat) : Prop := e ≤ e' ∧ e' ≤ len ∧ (∀ i, e ≤ i → i < e' → zsb (t i) = k) ∧ (e' < len → zsb (t e') ≠ k)
theorem zend_one {t : Nat → Nat} {len k e e1 e2 : Nat} (h1 : zend t len k e e1) (h2 : zend t len k e e2) : e1 = e2 := by
  rcases Nat.lt_trichotomy e1 e2 with q | q | q
  · exact absurd (h2.2.2.1 e1 h1.1 q) (h1.2.2.2 (by have := h2.2.1; omega))
  · exact q
  · exact absurd (h1.2.2.1 e2 h2.1 q) (h2.2.2.2 (by have := h1.2.1; omega))
theorem zcrun {N len k : Nat} {t : Nat → Nat} {ρ : zSt} (hk : k ≤ 5) : ∀ (g f e : Nat) (σ : zSt), g < f → e + g = len → zTp σ ρ t len → σ.1 5 3 = nI e → σ.1 5 4 = nI k → ∃ e' τ, zend t len k e e' ∧ fX5_take_95 N f 1 σ = fX5_take_138 N τ ∧ τ.1 5 3 = nI e' ∧ (∀ c, c ≠ 5 → τ.1 c = σ.1 c) ∧ ∀ i, i ≠ 3 → τ.1 5 i = σ.1 5 i
  | 0, f + 1, e, σ, _, he, hT, h3, h4 => by
    have hl := hT.1
    refine ⟨e, σ, ⟨by omega, by omega, fun i _ _ => by omega, fun _ => by omega⟩, ?_, h3, fun _ _ => rfl, fun _ _ => rfl⟩
    rw [fX5_take_95, if_neg (by decide), hT.2.2.1, h3, if_pos (nI_le (by omega) (by omega))]
  | g + 1, f + 1, e, σ, hf, he, hT, h3, h4 => by
    have hl := hT.1
    have es : zso t len e = zsb (t e) := by unfold zso; rw [if_pos (by omega)]
    have hs := zsb_lt (t e)
    by_cases q : zsb (t e) = k
    · have hT' : zTp (zsi σ 5 3 (nI (e + 1))) ρ t len := zTp_fr hT (zsi_o (by decide)) (zsi_c (by decide)) rfl rfl
      obtain ⟨e', τ, r1, r2, r3, r4, r5⟩ := zcrun (N := N) hk g f (e + 1) (zsi σ 5 3 (nI (e + 1))) (by omega) (by omega) hT' zsi_s ((zsi_o (by decide)).trans h4)
      refine ⟨e', τ, ⟨by have := r1.1; omega, r1.2.1, fun i h1 h2 => ?_, r1.2.2.2⟩, ?_, r3, fun c hc => (r4 c hc).trans (zsi_c hc), fun i hi => (r5 i hi).trans (zsi_o hi)⟩
      · by_cases w : i = e
        · rw [w]; exact q
        · exact r1.2.2.1 i (by omega) h2
      · rw [fX5_take_95, if_neg (by decide), hT.2.2.1, h3, if_neg (nI_ge (by omega) (by omega)), zcsort hT (by omega), zbnd_some, es, q, h4, if_pos rfl, zpf_eq, h3, nI_1]
        exact r2
    · refine ⟨e, σ, ⟨by omega, by omega, fun i _ _ => by omega, fun _ => q⟩, ?_, h3, fun _ _ => rfl, fun _ _ => rfl⟩
      rw [fX5_take_95, if_neg (by decide), hT.2.2.1, h3, if_neg (nI_ge (by omega) (by omega)), zcsort hT (by omega), zbnd_some, es, h4, if_neg (fun z => q ((nI_eq (by omega) (by omega)).mp z))]
theorem zmrun1 {N len : Nat} {t : Nat → Nat} {σ : zSt} : ∀ (g f e : Nat) (ρ : zSt), g < f → e + g = len → zTp σ ρ t len → ρ.1 0 23 = nI e → ∃ e' υ, zend t len 1 e e' ∧ fX8_next_77 N f ρ = some ((), υ) ∧ υ.1 0 23 = nI e' ∧ υ.1 0 24 = nI 2 ∧ υ.1 0 26 = nI e' ∧ (∀ c, c ≠ 0 → υ.1 c = ρ.1 c) ∧ ∀ i, i ≠ 23 → i ≠ 24 → i ≠ 26 → υ.1 0 i = ρ.1 0 i
  | 0, f + 1, e, ρ, _, he, hT, h23 => by
    have hl := hT.1
    have mb := zmbyte (N := N) (i := e) hT (by omega)
    rw [if_neg (by omega)] at mb
    rw [fX8_next_77, h23, mb, zbnd_some, zmletN, zbnd_some, if_pos rfl, zpf_eq]
    unfold fX8_next_196
    rw [zpf_eq, show (zsi ρ 0 24 2).1 0 23 = nI e from (zsi_o (by decide)).trans h23]
    refine ⟨e, _, ⟨by omega, by omega, fun i _ _ => by omega, fun _ => by omega⟩, rfl, ?_, ?_, zsi_s, fun c hc => by rw [zsi_c hc, zsi_c hc], fun i q1 q2 q3 => by rw [zsi_o q3, zsi_o q2]⟩
    · rw [zsi_o (by decide), zsi_o (by decide)]; exact h23
    · rw [zsi_o (by decide), zsi_s]; rfl
  | g + 1, f + 1, e, ρ, hf, he, hT, h23 => by
    have hl := hT.1
    have hb := hT.2.1 e (by omega)
    have mb := zmbyte (N := N) (i := e) hT (by omega)
    rw [if_pos (by omega)] at mb
    rw [fX8_next_77, h23, mb, zbnd_some, zmlet hb, zbnd_some]
    by_cases q : zsb (t e) = 1
    · have hT' : zTp σ (zsi ρ 0 23 (nI (e + 1))) t len := zTp_fr hT rfl rfl (zsi_o (by decide)) (zsi_c (by decide))
      obtain ⟨e', υ, r1, r2, r3, r4, r5, r6, r7⟩ := zmrun1 (N := N) g f (e + 1) (zsi ρ 0 23 (nI (e + 1))) (by omega) (by omega) hT' zsi_s
      rw [if_pos q, if_neg (show ¬ nI 1 = (0 : Int32) by decide), zpf_eq, h23, nI_1]
      refine ⟨e', υ, ⟨by have := r1.1; omega, r1.2.1, fun i h1 h2 => ?_, r1.2.2.2⟩, r2, r3, r4, r5, fun c hc => (r6 c hc).trans (zsi_c hc), fun i q1 q2 q3 => (r7 i q1 q2 q3).trans (zsi_o q1)⟩
      by_cases w : i = e
      · rw [w]; exact q
      · exact r1.2.2.1 i (by omega) h2
    · rw [if_neg q, if_pos (show nI 0 = (0 : Int32) from rfl), zpf_eq]
      unfold fX8_next_196
      rw [zpf_eq, show (zsi ρ 0 24 2).1 0 23 = nI e from (zsi_o (by decide)).trans h23]
      refine ⟨e, _, ⟨by omega, by omega, fun i _ _ => by omega, fun _ => q⟩, rfl, ?_, ?_, zsi_s, fun c hc => by rw [zsi_c hc, zsi_c hc], fun i q1 q2 q3 => by rw [zsi_o q3, zsi_o q2]⟩
      · rw [zsi_o (by decide), zsi_o (by decide)]; exact h23
      · rw [zsi_o (by decide), zsi_s]; rfl
theorem zmrun2 {N len q0 : Nat} {t : Nat → Nat} {σ : zSt} : ∀ (g f e : Nat) (ρ : zSt), g < f → e + g = len → q0 ≤ e → zTp σ ρ t len → ρ.1 0 23 = nI e → ρ.1 0 25 = nI q0 → ∃ e' υ, zend t len 2 e e' ∧ fX8_next_119 N f ρ = some ((), υ) ∧ υ.1 0 23 = nI e' ∧ υ.1 0 24 = nI (if e' - q0 ≤ 4 then 3 else 0) ∧ υ.1 0 26 = nI e' ∧ (∀ c, c ≠ 0 → υ.1 c = ρ.1 c) ∧ ∀ i, i ≠ 23 → i ≠ 24 → i ≠ 26 → υ.1 0 i = ρ.1 0 i := by
  have stop : ∀ (e : Nat) (ρ : zSt), e ≤ 400 → q0 ≤ e → ρ.1 0 23 = nI e → ρ.1 0 25 = nI q0 → ∃ υ, (if ((ρ.1 0 23) - (ρ.1 0 25)) ≤ (4 : Int32) then fX8_next_165 N (3 : Int32) ρ else fX8_next_165 N (0 : Int32) ρ) = some ((), υ) ∧ υ.1 0 23 = nI e ∧ υ.1 0 24 = nI (if e - q0 ≤ 4 then 3 else 0) ∧ υ.1 0 26 = nI e ∧ (∀ c, c ≠ 0 → υ.1 c = ρ.1 c) ∧ ∀ i, i ≠ 23 → i ≠ 24 → i ≠ 26 → υ.1 0 i = ρ.1 0 i := by
    intro e ρ he hq h23 h25
    have fin : ∀ v : Int32, ∃ υ, fX8_next_165 N v ρ = some ((), υ) ∧ υ.1 0 23 = nI e ∧ υ.1 0 24 = v ∧ υ.1 0 26 = nI e ∧ (∀ c, c ≠ 0 → υ.1 c = ρ.1 c) ∧ ∀ i, i ≠ 23 → i ≠ 24 → i ≠ 26 → υ.1 0 i = ρ.1 0 i := by
      intro v
      unfold fX8_next_165 fX8_next_196
      rw [zpf_eq, zpf_eq, show (zsi ρ 0 24 v).1 0 23 = nI e from (zsi_o (by decide)).trans h23]
      refine ⟨_, rfl, ?_, ?_, zsi_s, fun c hc => by rw [zsi_c hc, zsi_c hc], fun i q1 q2 q3 => by rw [zsi_o q3, zsi_o q2]⟩
      · rw [zsi_o (by decide), zsi_o (by decide)]; exact h23
      · rw [zsi_o (by decide), zsi_s]
    rw [h23, h25, pk_sub hq]
    by_cases w : e - q0 ≤ 4
    · rw [if_pos (show nI (e - q0) ≤ (4 : Int32) from nI_le (b := 4) w (by decide)), if_pos w]
      exact fin 3
    · rw [if_neg (show ¬ nI (e - q0) ≤ (4 : Int32) from nI_ge (a := 4) (by omega) (by omega)), if_neg w]
      exact fin 0
  intro g
  induction g with
  | zero =>
    intro f e ρ hf he hq hT h23 h25
    obtain ⟨f, rfl⟩ : ∃ f', f = f' + 1 := ⟨f - 1, by omega⟩
    have hl := hT.1
    have mb := zmbyte (N := N) (i := e) hT (by omega)
    rw [if_neg (by omega)] at mb
    rw [fX8_next_119, h23, mb, zbnd_some, zmfigN, zbnd_some, if_pos rfl]
    obtain ⟨υ, r⟩ := stop e ρ (by omega) hq h23 h25
    exact ⟨e, υ, ⟨by omega, by omega, fun i _ _ => by omega, fun _ => by omega⟩, r⟩
  | succ g ih =>
    intro f e ρ hf he hq hT h23 h25
    obtain ⟨f, rfl⟩ : ∃ f', f = f' + 1 := ⟨f - 1, by omega⟩
    have hl := hT.1
    have hb := hT.2.1 e (by omega)
    have mb := zmbyte (N := N) (i := e) hT (by omega)
    rw [if_pos (by omega)] at mb
    rw [fX8_next_119, h23, mb, zbnd_some, zmfig hb, zbnd_some]
    by_cases q : zsb (t e) = 2
    · have hT' : zTp σ (zsi ρ 0 23 (nI (e + 1))) t len := zTp_fr hT rfl rfl (zsi_o (by decide)) (zsi_c (by decide))
      obtain ⟨e', υ, r1, r2, r3, r4, r5, r6, r7⟩ := ih f (e + 1) (zsi ρ 0 23 (nI (e + 1))) (by omega) (by omega) (by omega) hT' zsi_s ((zsi_o (by decide)).trans h25)
      rw [if_pos q, if_neg (show ¬ nI 1 = (0 : Int32) by decide), zpf_eq, h23, nI_1]
      refine ⟨e', υ, ⟨by have := r1.1; omega, r1.2.1, fun i h1 h2 => ?_, r1.2.2.2⟩, r2, r3, r4, r5, fun c hc => (r6 c hc).trans (zsi_c hc), fun i q1 q2 q3 => (r7 i q1 q2 q3).trans (zsi_o q1)⟩
      by_cases w : i = e
      · rw [w]; exact q
      · exact r1.2.2.1 i (by omega) h2
    · rw [if_neg q, if_pos (show nI 0 = (0 : Int32) from rfl)]
      obtain ⟨υ, r⟩ := stop e ρ (by omega) hq h23 h25
      exact ⟨e, υ, ⟨by omega, by omega, fun i _ _ => by omega, fun _ => q⟩, r⟩
/-! the worth of figures -/
def znu (t : Nat → Nat) (q : Nat) : Nat → Nat
  | 0 => 0
  | j + 1 => 10 * znu t q j + t (q + j) - 48
theorem znu_lt {t : Nat → Nat} {q : Nat} : ∀ (j : Nat), (∀ i, i < j → 48 ≤ t (q + i) ∧ t (q + i) ≤ 57) → znu t q j < 10 ^ j
  | 0, _ => by show 0 < 1; omega
  | j + 1, h => by
    have ih := znu_lt (t := t) (q := q) j (fun i hi => h i (by omega))
    have hj := h j (by omega)
    rw [znu, Nat.pow_succ]
    omega
theorem zcworth {N q e len : Nat} {t : Nat → Nat} {ρ : zSt} (he : e ≤ len) (hqe : q ≤ e) (hd : ∀ i, q ≤ i → i < e → 48 ≤ t i ∧ t i ≤ 57) : ∀ (g f j : Nat) (σ : zSt), g < f → j + g = (if e - q ≤ 4 then e - q else 4) → zTp σ ρ t len → σ.1 5 2 = nI q → σ.1 5 3 = nI e → σ.1 5 5 = nI (znu t q j) → ∃ τ, fX5_takeWorth_10 N f (nI (q + j)) σ = fX5_takeWorth_55 N τ ∧ τ.1 5 5 = nI (znu t q (if e - q ≤ 4 then e - q else 4)) ∧ (∀ c, c ≠ 5 → τ.1 c = σ.1 c) ∧ ∀ i, i ≠ 5 → τ.1 5 i = σ.1 5 i
  | 0, f + 1, j, σ, _, hj, hT, h2, h3, h5 => by
    have hl := hT.1
    have e4 : nI q + (4 : Int32) = nI (q + 4) := nI_add q 4
    refine ⟨σ, ?_, ?_, fun _ _ => rfl, fun _ _ => rfl⟩
    · rw [fX5_takeWorth_10, h3, h2, e4]
      by_cases w : e - q ≤ 4
      · rw [if_pos w] at hj
        rw [if_pos (nI_le (by omega) (by omega))]
      · rw [if_neg w] at hj
        rw [if_neg (nI_ge (by omega) (by omega)), if_pos (nI_le (by omega) (by omega))]
    · rw [h5, ← hj, Nat.add_zero]
  | g + 1, f + 1, j, σ, hf, hj, hT, h2, h3, h5 => by
    have hl := hT.1
    have e4 : nI q + (4 : Int32) = nI (q + 4) := nI_add q 4
    have hje : j < e - q ∧ j < 4 := by
      by_cases w : e - q ≤ 4
      · rw [if_pos w] at hj; omega
      · rw [if_neg w] at hj; omega
    have hdj := hd (q + j) (by omega) (by omega)
    have hv : σ.1 6 (q + j) = nI (t (q + j)) := by
      rw [hT.2.2.2.1 (q + j) (by omega)]
      exact fa_byte_small (by omega)
    have ev : (10 : Int32) * nI (znu t q j) + nI (t (q + j)) - 48 = nI (znu t q (j + 1)) := by
      have : (10 : Int32) * nI (znu t q j) = nI (10 * znu t q j) := pk_mul 10 _
      rw [this, nI_add, show (48 : Int32) = nI 48 from rfl, pk_sub (by omega)]
      rfl
    have hT' : zTp (zsi σ 5 5 (nI (znu t q (j + 1)))) ρ t len := zTp_fr hT (zsi_o (by decide)) (zsi_c (by decide)) rfl rfl
    obtain ⟨τ, r1, r2, r3, r4⟩ := zcworth (N := N) he hqe hd g f (j + 1) (zsi σ 5 5 (nI (znu t q (j + 1)))) (by omega) (by omega) hT' ((zsi_o (by decide)).trans h2) ((zsi_o (by decide)).trans h3) zsi_s
    refine ⟨τ, ?_, r2, fun c hc => (r3 c hc).trans (zsi_c hc), fun i hi => (r4 i hi).trans (zsi_o hi)⟩
    rw [fX5_takeWorth_10, h3, h2, e4, if_neg (nI_ge (by omega) (by omega)), if_neg (nI_ge (by omega) (by omega)), zag_nI (by omega) (by omega), zpf_eq, hv, h5, ev, nI_1]
    exact r1
