/-! ===== the reference's rows ===== -/
def zRm (L : List (Nat × Int × Int)) (n r c : Nat) : Int := if c = n then (L.getD r (0, 0, 0)).2.2 else (L.getD r (0, 0, 0)).2.1 * (if (L.getD r (0, 0, 0)).1.testBit (c + 1) then 1 else 0)
theorem zRm_old {R : List (Nat × Int × Int)} {x : Nat × Int × Int} {n r c : Nat} (h : r < R.length) : zRm (R ++ [x]) n r c = zRm R n r c := by
  unfold zRm
  have : (R ++ [x]).getD r (0, 0, 0) = R.getD r (0, 0, 0) := by
    rw [List.getD_eq_getElem?_getD, List.getD_eq_getElem?_getD, List.getElem?_append_left h]
  rw [this]
theorem zRm_new {R : List (Nat × Int × Int)} {x : Nat × Int × Int} {n c : Nat} : zRm (R ++ [x]) n R.length c = if c = n then x.2.2 else x.2.1 * (if x.1.testBit (c + 1) then 1 else 0) := by
  unfold zRm
  have : (R ++ [x]).getD R.length (0, 0, 0) = x := by simp
  rw [this]
def zPL (σ : zSt) (L : List (Nat × Int × Int)) (n : Nat) : Prop := σ.1 0 36 = nI L.length ∧ σ.1 0 37 = nI n ∧ σ.2 0 38 = iL 1 ∧ ∀ r, r < L.length → ∀ c, c ≤ n → σ.2 19 (8 * r + c) = iL (zRm L n r c)
/-- what finding leaves alone -/
def zFF (σ τ : zSt) : Prop := (∀ k, k ≠ 20 → k ≠ 21 → k ≠ 0 → τ.1 k = σ.1 k) ∧ (∀ i, i ≠ 36 → i ≠ 37 → τ.1 0 i = σ.1 0 i)
theorem zFF_rfl {σ : zSt} : zFF σ σ := ⟨fun _ _ _ _ => rfl, fun _ _ _ => rfl⟩
theorem zFF_trans {σ τ υ : zSt} (h1 : zFF σ τ) (h2 : zFF τ υ) : zFF σ υ := ⟨fun k a b c => (h2.1 k a b c).trans (h1.1 k a b c), fun k a b => (h2.2 k a b).trans (h1.2 k a b)⟩
theorem zFF_of {σ τ : zSt} (h : zFM σ τ) : zFF σ τ := ⟨fun k a b _ => h.1 k a b, fun i _ _ => by rw [h.1 0 (by decide) (by decide)]⟩
theorem zisOf {N k w : Nat} {σ : zSt} (hk : k < 6) (hw : w < 8) : fX8_isOfWorld N (nI k) (nI w) σ = some (nI (if (zM k).testBit w then 1 else 0), σ) := by
  have key : ∀ (both : Int32) (M : Nat), (nI w &&& both = both ↔ M.testBit w = true) → fX8_isOfWorld_31 N (nI w) both σ = some (nI (if M.testBit w then 1 else 0), σ) := by
    intro both M h
    unfold fX8_isOfWorld_31
    by_cases z : M.testBit w = true
    · rw [if_pos (h.mpr z), if_pos z]; exact zrz_1
    · rw [if_neg (fun q => z (h.mp q)), if_neg z]; exact zrz_0
  have a0 : ∀ w, w < 8 → (nI w &&& ((1 : Int32) <<< (nI 0 &&& 31)) = (1 : Int32) <<< (nI 0 &&& 31) ↔ (zM 0).testBit w = true) := by decide
  have a1 : ∀ w, w < 8 → (nI w &&& ((1 : Int32) <<< (nI 1 &&& 31)) = (1 : Int32) <<< (nI 1 &&& 31) ↔ (zM 1).testBit w = true) := by decide
  have a2 : ∀ w, w < 8 → (nI w &&& ((1 : Int32) <<< (nI 2 &&& 31)) = (1 : Int32) <<< (nI 2 &&& 31) ↔ (zM 2).testBit w = true) := by decide
  have a3 : ∀ w, w < 8 → (nI w &&& (3 : Int32) = (3 : Int32) ↔ (zM 3).testBit w = true) := by decide
  have a4 : ∀ w, w < 8 → (nI w &&& (5 : Int32) = (5 : Int32) ↔ (zM 4).testBit w = true) := by decide
  have a5 : ∀ w, w < 8 → (nI w &&& (6 : Int32) = (6 : Int32) ↔ (zM 5).testBit w = true) := by decide
  unfold fX8_isOfWorld
  rcases (show k = 0 ∨ k = 1 ∨ k = 2 ∨ k = 3 ∨ k = 4 ∨ k = 5 by omega) with z | z | z | z | z | z <;> subst z
  · rw [if_neg (by decide)]; exact key _ _ (a0 w hw)
  · rw [if_neg (by decide)]; exact key _ _ (a1 w hw)
  · rw [if_neg (by decide)]; exact key _ _ (a2 w hw)
  · rw [if_pos (by decide), if_pos (by decide)]; exact key _ _ (a3 w hw)
  · rw [if_pos (by decide), if_neg (by decide), if_pos (by decide)]; exact key _ _ (a4 w hw)
  · rw [if_pos (by decide), if_neg (by decide), if_neg (by decide)]; exact key _ _ (a5 w hw)
/-- a span's number, or none: and its mask -/
def zSn (x1 : Int32) (M : Nat) : Prop := (x1 = -1000000 ∧ M = 255) ∨ ∃ k, k < 6 ∧ x1 = nI k ∧ M = zM k
theorem zmaddRow_loop {N n m M : Nat} {x1 : Int32} {sg b : Int} (hx : zSn x1 M) (hsg : sg = 1 ∨ sg = -1) (hb : 0 ≤ b ∧ b ≤ 100) (hn : n ≤ 7) (hm : m < 13) : ∀ (g f i : Nat) (σ : zSt), g < f → i + g = n → σ.1 0 36 = nI m → σ.1 0 37 = nI n →
    ∃ τ : zSt, fX8_addRow_3 N f x1 (iI sg) (iI b) (nI i) σ = some ((), zsi (zsl τ 19 (8 * m + n) (iL (sg * b))) 0 36 (nI (m + 1))) ∧ τ.1 = σ.1 ∧ (∀ k, k ≠ 19 → τ.2 k = σ.2 k) ∧ (∀ z, z < 8 * m + i → τ.2 19 z = σ.2 19 z) ∧ ∀ c, i ≤ c → c < n → τ.2 19 (8 * m + c) = iL (sg * (if M.testBit (c + 1) then 1 else 0))
  | 0, f + 1, i, σ, _, hi, h6, h7 => by
    have e1 : (zsl σ 19 (8 * m + n) (iL (sg * b))).1 0 36 = nI m := h6
    rw [fX8_addRow_3, h6, h7, if_pos (nI_le (by omega) (by omega)), zput_M (by omega), zbnd_some, zpf_eq, iI_L (by omega) (by omega), iI_L (by omega) (by omega), iL_mul, e1, nI_1]
    exact ⟨σ, rfl, rfl, fun _ _ => rfl, fun _ _ => rfl, fun c h1 h2 => by omega⟩
  | g + 1, f + 1, i, σ, hf, hi, h6, h7 => by
    have hrec : ∀ v : Int64, v = iL (sg * (if M.testBit (i + 1) then 1 else 0)) → ∃ τ : zSt, fX8_addRow_3 N f x1 (iI sg) (iI b) (nI (i + 1)) (zsl σ 19 (8 * m + i) v) = some ((), zsi (zsl τ 19 (8 * m + n) (iL (sg * b))) 0 36 (nI (m + 1))) ∧ τ.1 = σ.1 ∧ (∀ k, k ≠ 19 → τ.2 k = σ.2 k) ∧ (∀ z, z < 8 * m + i → τ.2 19 z = σ.2 19 z) ∧ ∀ c, i ≤ c → c < n → τ.2 19 (8 * m + c) = iL (sg * (if M.testBit (c + 1) then 1 else 0)) := by
      intro v hv
      obtain ⟨τ, e, e1, e2, e3, e4⟩ := zmaddRow_loop (N := N) (n := n) (m := m) hx hsg hb hn hm g f (i + 1) (zsl σ 19 (8 * m + i) v) (by omega) (by omega) h6 h7
      refine ⟨τ, e, e1.trans zsl_1, fun k hk => (e2 k hk).trans (zsl_c hk), fun z hz => (e3 z (by omega)).trans (zsl_o (by omega)), fun c h1 h2 => ?_⟩
      by_cases q : c = i
      · rw [e3 _ (by omega), q, zsl_s, hv]
      · exact e4 c (by omega) h2
    have full : fX8_addRow_36 N (fX8_addRow_3 N f) x1 (iI sg) (iI b) (nI i) (nI i) (nI m) σ = fX8_addRow_3 N f x1 (iI sg) (iI b) (nI (i + 1)) (zsl σ 19 (8 * m + i) (iL sg)) := by
      rw [fX8_addRow_36, fX8_addRow_42, zput_M (by omega), zbnd_some, iI_L (by omega) (by omega), nI_1]
    rw [fX8_addRow_3, h6, h7, if_neg (nI_ge (by omega) (by omega))]
    rcases hx with ⟨e, eM⟩ | ⟨k, hk, e, eM⟩
    · rw [if_pos e, full]
      refine hrec _ ?_
      have : (255 : Nat).testBit (i + 1) = true := by
        have : ∀ i, i < 7 → (255 : Nat).testBit (i + 1) = true := by decide
        exact this i (by omega)
      rw [eM, this, if_pos rfl, Int.mul_one]
    · rw [if_neg (by rw [e]; exact zNone_ne (by omega))]
      have ei := zisOf (N := N) (k := k) (w := i + 1) (σ := σ) hk (by omega)
      rw [← e, ← nI_1] at ei
      rw [ei, zbnd_some]
      by_cases z : (zM k).testBit (i + 1) = true
      · rw [if_pos z, if_neg (by decide), full]
        refine hrec _ ?_
        rw [eM, z, if_pos rfl, Int.mul_one]
      · rw [if_neg z, if_pos (by decide), fX8_addRow_42, zput_M (by omega), zbnd_some, nI_1]
        refine hrec _ ?_
        rw [eM, if_neg z, Int.mul_zero]
        rfl
theorem zmaddRow {N n M : Nat} {x1 : Int32} {sg b : Int} {L : List (Nat × Int × Int)} {σ : zSt} (h : zPL σ L n) (hx : zSn x1 M) (hsg : sg = 1 ∨ sg = -1) (hb : 0 ≤ b ∧ b ≤ 100) (hn : n ≤ 7) (hm : L.length < 13) (hN : 100 ≤ N) : ∃ τ, fX8_addRow N x1 (iI sg) (iI b) σ = some ((), τ) ∧ zPL τ (L ++ [(M, sg, sg * b)]) n ∧ zFF σ τ := by
  obtain ⟨τ, e, e1, e2, e3, e4⟩ := zmaddRow_loop (N := N) hx hsg hb hn hm n N 0 σ (by omega) (by omega) h.1 h.2.1
  have hl : (L ++ [(M, sg, sg * b)]).length = L.length + 1 := List.length_append
  refine ⟨_, e, ⟨?_, ?_, ?_, fun r hr c hc => ?_⟩, fun k h1 h2 h3 => ?_, fun i h1 h2 => ?_⟩
  · rw [zsi_s, hl]
  · rw [zsi_o (by decide)]
    show τ.1 0 37 = _
    rw [e1]; exact h.2.1
  · rw [zsi_2, zsl_c (by decide), e2 0 (by decide)]; exact h.2.2.1
  · rw [zsi_2]
    rw [hl] at hr
    by_cases q : r = L.length
    · rw [q, zRm_new]
      by_cases q2 : c = n
      · rw [q2, zsl_s, if_pos rfl]
      · rw [zsl_o (by omega), if_neg q2, e4 c (by omega) (by omega)]
    · rw [zsl_o (by omega), e3 _ (by omega), zRm_old (by omega)]
      exact h.2.2.2 r (by omega) c hc
  · rw [zsi_c h3]
    show τ.1 k = _
    rw [e1]
  · rw [zsi_o h1]
    show τ.1 0 i = _
    rw [e1]
/-! what the reference holds of the weights -/
def zWM (σ : zSt) (cnt : Nat) (lo hi : Nat → Nat) (has : Nat → Bool) : Prop :=
  cnt ≤ 3 ∧ σ.1 0 31 = nI cnt ∧ (∀ k, k < 6 → σ.1 16 k = nI (if has k then 1 else 0) ∧ (has k = true → σ.1 17 k = nI (lo k) ∧ σ.1 18 k = nI (hi k) ∧ zmx k < cnt) ∧ (has k = false → lo k = 0 ∧ hi k = 100) ∧ lo k ≤ 100 ∧ hi k ≤ 100)
theorem zWM_fr {σ τ : zSt} {cnt : Nat} {lo hi : Nat → Nat} {has : Nat → Bool} (h : zWM σ cnt lo hi has) (hf : zFF σ τ) : zWM τ cnt lo hi has := by
  obtain ⟨h1, h2, h3⟩ := h
  refine ⟨h1, ?_, fun k hk => ?_⟩
  · rw [hf.2 31 (by decide) (by decide)]; exact h2
  · rw [hf.1 16 (by decide) (by decide) (by decide), hf.1 17 (by decide) (by decide) (by decide), hf.1 18 (by decide) (by decide) (by decide)]
    exact h3 k hk
/-- the spans' rows from span k on; ll: the least, raised -/
def zML (ll hi : Nat → Nat) (has : Nat → Bool) : Nat → Nat → List (Nat × Int × Int)
  | 0, _ => []
  | g + 1, k => (if has k then [(zM k, 1, (hi k : Int)), (zM k, -1, -(ll k : Int))] else []) ++ zML ll hi has g (k + 1)
theorem zML_len {ll hi : Nat → Nat} {has : Nat → Bool} : ∀ g k, (zML ll hi has g k).length ≤ 2 * g
  | 0, _ => Nat.le_refl _
  | g + 1, k => by
    have := zML_len (ll := ll) (hi := hi) (has := has) g (k + 1)
    rw [zML, List.length_append]
    split
    · show 2 + _ ≤ _; omega
    · show 0 + _ ≤ _; omega
theorem zfind_rows {N n u cnt : Nat} {lo hi ll : Nat → Nat} {has : Nat → Bool} {x2 x3 : Int32} (hn : n ≤ 7) (hN : 600000 ≤ N) (hll : ∀ k, k < 6 → has k = true → ll k = if nI k = x3 then hi k else lo k) : ∀ (g f k : Nat) (σ : zSt) (L : List (Nat × Int × Int)), g < f → k + g = 6 → zWM σ cnt lo hi has → zPL σ L n → L.length ≤ 1 + 2 * k →
    ∃ τ, fX8_find_34 N f (nI u) x2 x3 (nI k) σ = fX8_find_109 N N (nI u) x2 (nI u &&& 1) 0 τ ∧ zPL τ (L ++ zML ll hi has g k) n ∧ zFF σ τ
  | 0, f + 1, k, σ, L, _, hk, hw, h, hm => by
    rw [fX8_find_34, if_pos (show (6 : Int32) ≤ nI k from nI_le (a := 6) (by omega) (by omega)), znm_eq]
    exact ⟨σ, rfl, by rw [zML, List.append_nil]; exact h, zFF_rfl⟩
  | g + 1, f + 1, k, σ, L, hf, hk, hw, h, hm => by
    obtain ⟨a1, a2, a3, a4⟩ := hw.2.2 k (by omega)
    rw [fX8_find_34, if_neg (show ¬ (6 : Int32) ≤ nI k from nI_ge (b := 6) (by omega) (by omega)), zag_nI (by omega) (by omega), a1]
    by_cases hk1 : has k = true
    · obtain ⟨b1, b2, b3⟩ := a2 hk1
      obtain ⟨τ, e, t1, f1⟩ := zmaddRow (N := N) (sg := 1) (b := (hi k : Int)) (M := zM k) (x1 := nI k) h (Or.inr ⟨k, by omega, rfl, rfl⟩) (Or.inl rfl) (by omega) hn (by omega) (by omega)
      have e : fX8_addRow N (nI k) 1 (nI (hi k)) σ = some ((), τ) := e
      have w1 := zWM_fr hw f1
      obtain ⟨c1, c2, c3, c4⟩ := w1.2.2 k (by omega)
      obtain ⟨d1, d2, d3⟩ := c2 hk1
      have hl1 : (L ++ [(zM k, (1 : Int), 1 * (hi k : Int))]).length = L.length + 1 := List.length_append
      have hlk : ll k ≤ 100 := by
        rw [hll k (by omega) hk1]
        split <;> omega
      obtain ⟨υ, e', t2, f2⟩ := zmaddRow (N := N) (sg := -1) (b := (ll k : Int)) (M := zM k) (x1 := nI k) t1 (Or.inr ⟨k, by omega, rfl, rfl⟩) (Or.inr rfl) (by omega) hn (by omega) (by omega)
      have e' : fX8_addRow N (nI k) (-1) (nI (ll k)) τ = some ((), υ) := e'
      have last : (if nI k = x3 then zag τ 18 6 (nI k) (fun (v6 : Int32) => fX8_find_92 N (fX8_find_34 N f) (nI u) x2 x3 (nI k) v6 (-1 : Int32) (nI k) τ) else zag τ 17 6 (nI k) (fun (v7 : Int32) => fX8_find_92 N (fX8_find_34 N f) (nI u) x2 x3 (nI k) v7 (-1 : Int32) (nI k) τ)) = fX8_find_34 N f (nI u) x2 x3 (nI (k + 1)) υ := by
        have hl := hll k (by omega) hk1
        by_cases z : nI k = x3
        · rw [if_pos z] at hl
          rw [if_pos z, zag_nI (by omega) (by omega), d2, fX8_find_92, ← hl, e', zbnd_some, nI_1]
        · rw [if_neg z] at hl
          rw [if_neg z, zag_nI (by omega) (by omega), d1, fX8_find_92, ← hl, e', zbnd_some, nI_1]
      rw [if_pos hk1, if_neg (by decide), zag_nI (by omega) (by omega), b2, e, zbnd_some, last]
      have hl2 : (L ++ [(zM k, (1 : Int), 1 * (hi k : Int))] ++ [(zM k, (-1 : Int), -1 * (ll k : Int))]).length = L.length + 1 + 1 := by rw [List.length_append, hl1]; rfl
      obtain ⟨φ, g0, g1, g2⟩ := zfind_rows (u := u) (x2 := x2) hn hN hll g f (k + 1) υ _ (by omega) (by omega) (zWM_fr w1 f2) t2 (by omega)
      refine ⟨φ, g0, ?_, zFF_trans f1 (zFF_trans f2 g2)⟩
      rw [zML, if_pos hk1]
      have r1 : (1 : Int) * (hi k : Int) = hi k := Int.one_mul _
      have r2 : (-1 : Int) * (ll k : Int) = -(ll k : Int) := by omega
      rw [r1, r2, List.append_assoc, List.append_assoc] at g1
      exact g1
    · have hk0 : has k = false := by simpa using hk1
      rw [if_neg hk1, if_pos (by decide), nI_1]
      obtain ⟨φ, g0, g1, g2⟩ := zfind_rows (u := u) (x2 := x2) hn hN hll g f (k + 1) σ L (by omega) (by omega) hw h (by omega)
      refine ⟨φ, g0, ?_, g2⟩
      rw [zML, if_neg hk1, List.nil_append]
      exact g1
