/-! ===== the reference's find ===== -/
theorem zFe_get {m n B ob : Nat} {t0 : Nat → Nat → Int} {x : Nat → Int} {D : Int} (h : zFe m n B ob t0 x D) : ∀ r, r < m → x (B + r) = t0 r n * D - fb_si (fun c => t0 r c * x c) n ∧ (r ≠ ob → fb_si (fun c => t0 r c * x c) n ≤ t0 r n * D) := by
  intro r hr
  have a1 := h.2.1 r hr
  have a1 : 1 * x (B + r) + fb_si (fun c => t0 r c * x c) n = t0 r n * D := a1
  refine ⟨by omega, fun ho => ?_⟩
  have := h.2.2.2 r hr ho
  omega
theorem zFe_mk {m n B ob : Nat} {t0 : Nat → Nat → Int} {y : Nat → Int} {D : Int} (hB : n ≤ B) (hD : 0 < D) (h0 : ∀ c, c < n → 0 ≤ y c) (hR : ∀ r, r < m → r ≠ ob → fb_si (fun c => t0 r c * y c) n ≤ t0 r n * D) : ∃ x, zFe m n B ob t0 x D ∧ ∀ c, c < n → x c = y c := by
  have hc : ∀ r, fb_si (fun c => t0 r c * (fun v => if v < n then y v else t0 (v - B) n * D - fb_si (fun c => t0 (v - B) c * y c) n) c) n = fb_si (fun c => t0 r c * y c) n := fun r => fb_si_cong (fun c hc => by
    try dsimp only
    rw [if_pos hc])
  refine ⟨fun v => if v < n then y v else t0 (v - B) n * D - fb_si (fun c => t0 (v - B) c * y c) n, ⟨hD, fun r hr => ?_, fun c hcn => ?_, fun r hr ho => ?_⟩, fun c hcn => if_pos hcn⟩
  · rw [hc r]
    try dsimp only
    rw [if_neg (by omega), show B + r - B = r by omega]
    omega
  · try dsimp only
    rw [if_pos hcn]
    exact h0 c hcn
  · try dsimp only
    rw [if_neg (by omega), show B + r - B = r by omega]
    have := hR r hr ho
    omega
def zSv (n u : Nat) (x : Nat → Int) : Int := fb_si (fun c => (if u.testBit (c + 1) then 1 else 0) * x c) n
def zY (n : Nat) (D : Int) (x : Nat → Int) (w : Nat) : Int := if w = 0 then 100 * D - fb_si x n else x (w - 1)
theorem zY_split (f : Nat → Int) (n : Nat) : fb_si f (n + 1) = f 0 + fb_si (fun c => f (c + 1)) n := by
  have h := fb_si_split f 1 n
  rw [show 1 + n = n + 1 by omega] at h
  rw [h]
  have e : fb_si f 1 = 0 + f 0 := rfl
  rw [e, fb_si_cong (f := fun k => f (1 + k)) (g := fun c => f (c + 1)) (fun c _ => by rw [Nat.add_comm])]
  omega
theorem zY_sum {n : Nat} {D : Int} {x : Nat → Int} : fb_si (zY n D x) (n + 1) = 100 * D := by
  rw [zY_split, fb_si_cong (f := fun c => zY n D x (c + 1)) (g := x) (fun c _ => by unfold zY; rw [if_neg (by omega)]; rfl)]
  have : zY n D x 0 = 100 * D - fb_si x n := if_pos rfl
  omega
theorem zY_su {n u : Nat} {D : Int} {x : Nat → Int} : zSu (n + 1) u (zY n D x) = (if u.testBit 0 then 1 else 0) * (100 * D - fb_si x n) + zSv n u x := by
  unfold zSu zSv
  rw [zY_split]
  have e0 : zY n D x 0 = 100 * D - fb_si x n := if_pos rfl
  rw [e0]
  congr 1
theorem zMb0 : ∀ k, k < 6 → (zM k).testBit 0 = false := by decide
theorem zML_iff {ll hi : Nat → Nat} {has : Nat → Bool} (P : Nat × Int × Int → Prop) : ∀ g k, (∀ z ∈ zML ll hi has g k, P z) ↔ ∀ j, k ≤ j → j < k + g → has j = true → P (zM j, 1, (hi j : Int)) ∧ P (zM j, -1, -(ll j : Int))
  | 0, k => ⟨fun _ j h1 h2 => by omega, fun _ z hz => absurd hz List.not_mem_nil⟩
  | g + 1, k => by
    rw [zML, List.forall_mem_append, zML_iff P g (k + 1)]
    constructor
    · rintro ⟨a, b⟩ j h1 h2 hj
      by_cases q : j = k
      · subst q
        rw [if_pos hj] at a
        exact ⟨a _ (List.mem_cons_self ..), a _ (List.mem_cons_of_mem _ (List.mem_cons_self ..))⟩
      · exact b j (by omega) (by omega) hj
    · intro h
      refine ⟨fun z hz => ?_, fun j h1 h2 hj => h j (by omega) (by omega) hj⟩
      by_cases q : has k = true
      · rw [if_pos q] at hz
        obtain ⟨p1, p2⟩ := h k (Nat.le_refl _) (by omega) q
        rcases List.mem_cons.mp hz with e | hz
        · rw [e]; exact p1
        · rw [List.mem_singleton.mp hz]; exact p2
      · rw [if_neg q] at hz
        exact absurd hz List.not_mem_nil
def zRov (n : Nat) (x : Nat → Int) (D : Int) (r : Nat × Int × Int) : Prop := r.2.1 * zSv n r.1 x ≤ r.2.2 * D
theorem zRm_sum {R : List (Nat × Int × Int)} {n r : Nat} {x : Nat → Int} : fb_si (fun c => zRm R n r c * x c) n = (R.getD r (0, 0, 0)).2.1 * zSv n (R.getD r (0, 0, 0)).1 x := by
  unfold zSv
  rw [← fb_si_mul]
  refine fb_si_cong (fun c hc => ?_)
  unfold zRm
  rw [if_neg (by omega), Int.mul_assoc]
abbrev zLL (ll hi : Nat → Nat) (has : Nat → Bool) : List (Nat × Int × Int) := (255, 1, 100) :: zML ll hi has 6 0
theorem zLL_iff {n cnt : Nat} {ll hi : Nat → Nat} {has : Nat → Bool} {x : Nat → Int} {D : Int} (hn : n + 1 = 2 ^ cnt) (hn7 : n ≤ 7) (hD : 0 < D) (h0 : ∀ c, c < n → 0 ≤ x c) (hw : ∀ k, k < 6 → (has k = true → zmx k < cnt) ∧ (has k = false → ll k = 0 ∧ hi k = 100)) :
    (∀ z ∈ zLL ll hi has, zRov n x D z) ↔ zShare cnt ll hi (zY n D x) D := by
  have e255 : zSv n 255 x = fb_si x n := fb_si_cong (fun c hc => by
    have : ∀ i, i < 7 → (255 : Nat).testBit (i + 1) = true := by decide
    rw [this c (by omega), if_pos rfl, Int.one_mul])
  have r0 : zRov n x D (255, 1, 100) ↔ fb_si x n ≤ 100 * D := by
    unfold zRov; dsimp only; rw [e255, Int.one_mul]
  have esu : ∀ k, k < 6 → zSu (n + 1) (zM k) (zY n D x) = zSv n (zM k) x := fun k hk => by
    rw [zY_su, zMb0 k hk, if_neg (by decide), Int.zero_mul, Int.zero_add]
  rw [List.forall_mem_cons, r0, zML_iff]
  unfold zShare
  rw [← hn, zY_sum]
  have e0 : zY n D x 0 = 100 * D - fb_si x n := if_pos rfl
  constructor
  · rintro ⟨a, b⟩
    have hnn : ∀ w, w < n + 1 → 0 ≤ zY n D x w := by
      intro w hw
      by_cases q : w = 0
      · rw [q, e0]; omega
      · unfold zY
        rw [if_neg q]
        exact h0 _ (by omega)
    refine ⟨hD, hnn, rfl, fun k hk hm => ?_⟩
    rw [esu k hk]
    by_cases q : has k = true
    · obtain ⟨p1, p2⟩ := b k (by omega) (by omega) q
      unfold zRov at p1 p2
      dsimp only at p1 p2
      have e9 := Int.neg_mul (ll k : Int) D
      omega
    · obtain ⟨z1, z2⟩ := (hw k hk).2 (by simpa using q)
      rw [z1, z2]
      have a1 := zSu_nn (u := zM k) hnn
      have a2 := zSu_le (u := zM k) hnn
      rw [esu k hk] at a1 a2
      rw [zY_sum] at a2
      constructor
      · show (0 : Int) * D ≤ _; omega
      · show _ ≤ (100 : Int) * D; omega
  · rintro ⟨-, hnn, -, hk⟩
    have a0 := hnn 0 (by omega)
    refine ⟨by omega, fun j _ h2 hj => ?_⟩
    have := hk j (by omega) ((hw j (by omega)).1 hj)
    rw [esu j (by omega)] at this
    unfold zRov
    dsimp only
    have e9 := Int.neg_mul (ll j : Int) D
    omega
def zMax (cnt : Nat) (lo hi : Nat → Nat) (u : Nat) (v d : Int) : Prop := 0 < d ∧ (∃ y D, zShare cnt lo hi y D ∧ zSu (2 ^ cnt) u y * d = v * D) ∧ ∀ y D, zShare cnt lo hi y D → zSu (2 ^ cnt) u y * d ≤ v * D
/-! the cost row -/
def zbt (u k : Nat) : Int := if u.testBit k then 1 else 0
theorem zbt01 (u k : Nat) : zbt u k = 0 ∨ zbt u k = 1 := by
  unfold zbt
  split
  · exact Or.inr rfl
  · exact Or.inl rfl
theorem nI_zbt (u k : Nat) : nI (if u.testBit k then 1 else 0) = iI (zbt u k) := by
  unfold zbt
  split <;> rfl
theorem zcost_loop {N n q u : Nat} {sg : Int} (hsg : sg = 1 ∨ sg = -1) (hu : u < 2 ^ 31) (hn : n ≤ 7) (hq : q ≤ 13) : ∀ (g f i : Nat) (σ : zSt), g < f → i + g = n → σ.1 0 36 = nI q → σ.1 0 37 = nI n →
    ∃ τ : zSt, fX8_find_109 N f (nI u) (iI sg) (iI (zbt u 0)) (nI i) σ = fX8_find_174 N N (iI sg) (iI (zbt u 0)) 0 (zsl τ 19 (8 * q + n) 0) ∧ (∀ k, k ≠ 21 → τ.1 k = σ.1 k) ∧ (∀ c, c < i → τ.1 21 c = σ.1 21 c) ∧ (∀ c, i ≤ c → c < n → τ.1 21 c = nI c) ∧ (∀ k, k ≠ 19 → τ.2 k = σ.2 k) ∧ (∀ z, z < 8 * q + i → τ.2 19 z = σ.2 19 z) ∧ ∀ c, i ≤ c → c < n → τ.2 19 (8 * q + c) = iL (-sg * (zbt u (c + 1) - zbt u 0))
  | 0, f + 1, i, σ, _, hi, h6, h7 => by
    rw [fX8_find_109, h6, h7, if_pos (nI_le (by omega) (by omega)), zput_M (by omega), zbnd_some]
    exact ⟨σ, rfl, fun _ _ => rfl, fun _ _ => rfl, fun c h1 h2 => by omega, fun _ _ => rfl, fun _ _ => rfl, fun c h1 h2 => by omega⟩
  | g + 1, f + 1, i, σ, hf, hi, h6, h7 => by
    have ev : ((-(iI sg)) * (((nI u >>> ((nI i + 1) &&& 31)) &&& (1 : Int32)) - iI (zbt u 0))).toInt64 = iL (-sg * (zbt u (i + 1) - zbt u 0)) := by
      rw [nI_1, zbit hu (by omega), nI_zbt, iI_neg, iI_sub, iI_mul]
      have b1 := zbt01 u (i + 1)
      have b2 := zbt01 u 0
      refine iI_L ?_ ?_
      · rcases hsg with e | e <;> rw [e] <;> omega
      · rcases hsg with e | e <;> rw [e] <;> omega
    rw [fX8_find_109, h6, h7, if_neg (nI_ge (by omega) (by omega)), zput_M (by omega), zbnd_some, zas_nI (by omega) (by omega), ev, nI_1]
    obtain ⟨τ, e, e1, e1b, e1c, e2, e3, e4⟩ := zcost_loop (N := N) (u := u) hsg hu hn hq g f (i + 1) (zsi (zsl σ 19 (8 * q + i) (iL (-sg * (zbt u (i + 1) - zbt u 0)))) 21 i (nI i)) (by omega) (by omega) (by rw [zsi_c (by decide)]; exact h6) (by rw [zsi_c (by decide)]; exact h7)
    refine ⟨τ, e, fun k hk => (e1 k hk).trans (zsi_c hk), fun c hc => (e1b c (by omega)).trans (zsi_o (by omega)), fun c h1 h2 => ?_, fun k hk => (e2 k hk).trans (zsl_c hk), fun z hz => (e3 z (by omega)).trans (by rw [zsi_2, zsl_o (by omega)]), fun c h1 h2 => ?_⟩
    · by_cases z : c = i
      · rw [e1b c (by omega), z, zsi_s]
      · exact e1c c (by omega) h2
    · by_cases z : c = i
      · rw [e3 _ (by omega), z, zsi_2, zsl_s]
      · exact e4 c (by omega) h2
theorem zname_loop {N n q : Nat} {x2 x4 : Int32} (hn : n ≤ 7) (hq : q ≤ 13) : ∀ (g f i : Nat) (σ : zSt), g < f → i + g = q → σ.1 0 36 = nI q → σ.1 0 37 = nI n →
    ∃ τ : zSt, fX8_find_174 N f x2 x4 (nI i) σ = zbnd (fX8_isSolved N τ) (fun (b1 : Int32) (σ2 : zSt) => if b1 = 0 then zrz (0 : Int32) σ2 else zbnd (fX8_at N (σ2.1 0 36) (σ2.1 0 37) σ2) (fun (b3 : Int64) (σ4 : zSt) => zpfL σ4 0 42 ((((100 : Int64) * x4.toInt64) * (σ2.2 0 38)) + (x2.toInt64 * b3)) (fun (σ5 : zSt) => zpfL σ5 0 43 (σ5.2 0 38) (fun (σ6 : zSt) => zrz (1 : Int32) σ6)))) ∧ (∀ k, k ≠ 20 → τ.1 k = σ.1 k) ∧ (∀ c, c < i → τ.1 20 c = σ.1 20 c) ∧ (∀ c, i ≤ c → c < q → τ.1 20 c = nI (n + c)) ∧ τ.2 = σ.2
  | 0, f + 1, i, σ, _, hi, h6, h7 => by
    rw [fX8_find_174, h6, if_pos (nI_le (by omega) (by omega))]
    exact ⟨σ, rfl, fun _ _ => rfl, fun _ _ => rfl, fun c h1 h2 => by omega, rfl⟩
  | g + 1, f + 1, i, σ, hf, hi, h6, h7 => by
    rw [fX8_find_174, h6, h7, if_neg (nI_ge (by omega) (by omega)), zas_nI (by omega) (by omega), nI_1, nI_add]
    obtain ⟨τ, e, e1, e2, e3, e4⟩ := zname_loop (N := N) (x2 := x2) (x4 := x4) hn hq g f (i + 1) (zsi σ 20 i (nI (n + i))) (by omega) (by omega) (by rw [zsi_c (by decide)]; exact h6) (by rw [zsi_c (by decide)]; exact h7)
    refine ⟨τ, e, fun k hk => (e1 k hk).trans (zsi_c hk), fun c hc => (e2 c (by omega)).trans (zsi_o (by omega)), fun c h1 h2 => ?_, e4⟩
    by_cases z : c = i
    · rw [e2 c (by omega), z, zsi_s]
    · exact e3 c (by omega) h2
