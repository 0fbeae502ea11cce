/-! ===== the class's least: the rows of the spans ===== -/
def zM (k : Nat) : Nat := ([170, 204, 240, 136, 160, 192] : List Nat).getD k 0
theorem zM_lt : ∀ k, k < 6 → zM k < 2 ^ 31 := by decide
theorem zTW_eq : ∀ i, i < 3 → zTW i = nI (zM i) := by decide
theorem zTW_and : ∀ i, i < 3 → ∀ j, j < i → nI (zM i) &&& nI (zM j) = nI (zM (i + j + 2)) := by decide
/-- what the class holds of the weights -/
def zWC (σ : zSt) (cnt : Nat) (lo hi : Nat → Nat) : Prop :=
  cnt ≤ 3 ∧ σ.1 23 0 = nI cnt ∧ (∀ k, k < cnt → σ.1 25 k = nI (lo k) ∧ σ.1 26 k = nI (hi k)) ∧ (∀ j, j < 3 → σ.1 27 j = nI (lo (3 + j)) ∧ σ.1 28 j = nI (hi (3 + j))) ∧ ∀ k, k < 6 → lo k ≤ 100 ∧ hi k ≤ 100
theorem zWC_fr {σ τ : zSt} {cnt : Nat} {lo hi : Nat → Nat} (h : zWC σ cnt lo hi) (hf : zFT σ τ) : zWC τ cnt lo hi := by
  obtain ⟨h1, h2, h3, h4, h5⟩ := h
  refine ⟨h1, ?_, fun k hk => ?_, fun j hj => ?_, h5⟩
  · rw [hf.1 23 (by decide) (by decide) (by decide)]; exact h2
  · rw [hf.1 25 (by decide) (by decide) (by decide), hf.1 26 (by decide) (by decide) (by decide)]; exact h3 k hk
  · rw [hf.1 27 (by decide) (by decide) (by decide), hf.1 28 (by decide) (by decide) (by decide)]; exact h4 j hj
abbrev zSk (lo hi : Nat → Nat) (k : Nat) : List (Nat × Int × Int) := zSpn (zM k) (lo k) (hi k)
section zLeast
variable {N n cnt : Nat} {lo hi : Nat → Nat}
theorem zfl_out {k : Int32 → zSt → Option (Int32 × zSt)} {f i : Nat} {σ : zSt} (hi3 : i < 2 ^ 20) : fX6_findLeast_75 N k (f + 1) (nI i) (nI i) σ = k (nI (i + 1)) σ := by
  rw [fX6_findLeast_75, if_pos (nI_le (Nat.le_refl _) (by omega)), nI_1]
theorem zfl_in (hn : n ≤ 8) (hN : 600000 ≤ N) {k : Int32 → zSt → Option (Int32 × zSt)} {f i j : Nat} {σ : zSt} {R : List (Nat × Int × Int)} (hw : zWC σ cnt lo hi) (h : zTR σ R n) (hi3 : i < 3) (hj : j < i) (hm : R.length ≤ 13) :
    ∃ τ, fX6_findLeast_75 N k (f + 1) (nI i) (nI j) σ = fX6_findLeast_75 N k f (nI i) (nI (j + 1)) τ ∧ zTR τ (R ++ zSk lo hi (i + j + 2)) n ∧ zFT σ τ := by
  obtain ⟨h1, h2, h3, h4, h5⟩ := hw
  have e1 : nI i + nI j - 1 = nI (i + j - 1) := by
    rw [nI_add, show i + j = (i + j - 1) + 1 by omega, nI_pred]
    rfl
  obtain ⟨a1, a2⟩ := h4 (i + j - 1) (by omega)
  obtain ⟨b1, b2⟩ := h5 (i + j + 2) (by omega)
  obtain ⟨τ, e, q1, q2⟩ := zaddSpan (N := N) (u := zM (i + j + 2)) (lo := lo (i + j + 2)) (hi := hi (i + j + 2)) h (zM_lt _ (by omega)) b1 b2 hn hm (by omega)
  rw [fX6_findLeast_75, if_neg (nI_ge hj (by omega)), ztab_nI hi3 (by omega), ztab_nI (by omega) (by omega), e1, zag_nI (by omega) (by omega), zag_nI (by omega) (by omega), zTW_eq i hi3, zTW_eq j (by omega), zTW_and i hi3 j hj, a1, a2, show 3 + (i + j - 1) = i + j + 2 by omega, e, zbnd_some, nI_1]
  exact ⟨τ, rfl, q1, q2⟩
theorem zfl_begin (hn : n ≤ 8) (hN : 600000 ≤ N) {f i : Nat} {σ : zSt} {R : List (Nat × Int × Int)} (hw : zWC σ cnt lo hi) (h : zTR σ R n) (hi3 : i < cnt) (hm : R.length ≤ 13) :
    ∃ τ, fX6_findLeast_44 N (f + 1) (nI i) σ = fX6_findLeast_75 N (fX6_findLeast_44 N f) N (nI i) (nI 0) τ ∧ zTR τ (R ++ zSk lo hi i) n ∧ zFT σ τ := by
  obtain ⟨h1, h2, h3, h4, h5⟩ := hw
  obtain ⟨a1, a2⟩ := h3 i hi3
  obtain ⟨b1, b2⟩ := h5 i (by omega)
  obtain ⟨τ, e, q1, q2⟩ := zaddSpan (N := N) (u := zM i) (lo := lo i) (hi := hi i) h (zM_lt _ (by omega)) b1 b2 hn hm (by omega)
  rw [fX6_findLeast_44, h2, if_neg (nI_ge hi3 (by omega)), ztab_nI (by omega) (by omega), zag_nI (by omega) (by omega), zag_nI (by omega) (by omega), zTW_eq i (by omega), a1, a2, e, zbnd_some]
  exact ⟨τ, rfl, q1, q2⟩
def zCR (cnt : Nat) (lo hi : Nat → Nat) : List (Nat × Int × Int) :=
  match cnt with
  | 0 => []
  | 1 => zSk lo hi 0
  | 2 => zSk lo hi 0 ++ zSk lo hi 1 ++ zSk lo hi 3
  | _ => zSk lo hi 0 ++ zSk lo hi 1 ++ zSk lo hi 3 ++ zSk lo hi 2 ++ zSk lo hi 4 ++ zSk lo hi 5
theorem zSk_len (k : Nat) : (zSk lo hi k).length ≤ 2 := zSpn_len
theorem zfl_rows (hn : n ≤ 8) (hN : 600000 ≤ N) {σ : zSt} {R : List (Nat × Int × Int)} (hw : zWC σ cnt lo hi) (h : zTR σ R n) (hm : R.length = 3) :
    ∃ f τ, 0 < f ∧ fX6_findLeast_44 N N (nI 0) σ = fX6_findLeast_44 N f (nI cnt) τ ∧ zTR τ (R ++ zCR cnt lo hi) n ∧ zFT σ τ := by
  obtain ⟨M, hM⟩ : ∃ M, N = M + 4 := ⟨N - 4, by omega⟩
  have hc := hw.1
  have len := fun k => zSk_len (lo := lo) (hi := hi) k
  have l0 := len 0
  have l1 := len 1
  have l3 := len 3
  have l2 := len 2
  have l4 := len 4
  by_cases q0 : cnt = 0
  · subst q0
    exact ⟨N, σ, by omega, rfl, by rw [show zCR 0 lo hi = [] from rfl, List.append_nil]; exact h, zFT_rfl⟩
  obtain ⟨τ0, e0, t0, f0⟩ := zfl_begin (f := M + 3) (i := 0) hn hN hw h (by omega) (by omega)
  have g0 : ∀ τ, fX6_findLeast_75 N (fX6_findLeast_44 N (M + 3)) N (nI 0) (nI 0) τ = fX6_findLeast_44 N (M + 3) (nI 1) τ := fun τ => by
    have := zfl_out (N := N) (k := fX6_findLeast_44 N (M + 3)) (f := M + 3) (i := 0) (σ := τ) (by omega)
    rw [show M + 3 + 1 = N by omega] at this
    exact this
  rw [g0] at e0
  rw [show M + 3 + 1 = N by omega] at e0
  by_cases q1 : cnt = 1
  · subst q1
    exact ⟨M + 3, τ0, by omega, e0, t0, f0⟩
  obtain ⟨τ1, e1, t1, f1⟩ := zfl_begin (f := M + 2) (i := 1) hn hN (zWC_fr hw f0) t0 (by omega) (by rw [List.length_append]; omega)
  obtain ⟨τ2, e2, t2, f2⟩ := zfl_in (k := fX6_findLeast_44 N (M + 2)) (f := M + 3) (i := 1) (j := 0) hn hN (zWC_fr (zWC_fr hw f0) f1) t1 (by omega) (by omega) (by rw [List.length_append, List.length_append]; omega)
  have g1 : ∀ τ, fX6_findLeast_75 N (fX6_findLeast_44 N (M + 2)) (M + 3) (nI 1) (nI 1) τ = fX6_findLeast_44 N (M + 2) (nI 2) τ := fun τ => zfl_out (N := N) (k := fX6_findLeast_44 N (M + 2)) (f := M + 2) (i := 1) (σ := τ) (by omega)
  rw [show M + 3 + 1 = N by omega, g1] at e2
  rw [e2] at e1
  have e1 : fX6_findLeast_44 N (M + 3) (nI 1) τ0 = fX6_findLeast_44 N (M + 2) (nI 2) τ2 := e1
  by_cases q2 : cnt = 2
  · subst q2
    refine ⟨M + 2, τ2, by omega, e0.trans e1, ?_, zFT_trans f0 (zFT_trans f1 f2)⟩
    rw [List.append_assoc, List.append_assoc] at t2
    rw [show zCR 2 lo hi = zSk lo hi 0 ++ zSk lo hi 1 ++ zSk lo hi 3 from rfl, List.append_assoc]
    exact t2
  have q3 : cnt = 3 := by omega
  have w2 : zWC τ2 cnt lo hi := zWC_fr (zWC_fr (zWC_fr hw f0) f1) f2
  have n2 : (R ++ zSk lo hi 0 ++ zSk lo hi 1 ++ zSk lo hi (1 + 0 + 2)).length ≤ 9 := by
    rw [List.length_append, List.length_append, List.length_append]
    have l3' : (zSk lo hi (1 + 0 + 2)).length ≤ 2 := l3
    omega
  obtain ⟨τ3, e3, t3, f3⟩ := zfl_begin (f := M + 1) (i := 2) hn hN w2 t2 (by omega) (by omega)
  obtain ⟨τ4, e4, t4, f4⟩ := zfl_in (k := fX6_findLeast_44 N (M + 1)) (f := M + 3) (i := 2) (j := 0) hn hN (zWC_fr w2 f3) t3 (by omega) (by omega) (by rw [List.length_append]; omega)
  have n4 : (R ++ zSk lo hi 0 ++ zSk lo hi 1 ++ zSk lo hi (1 + 0 + 2) ++ zSk lo hi 2 ++ zSk lo hi (2 + 0 + 2)).length ≤ 13 := by
    rw [List.length_append, List.length_append]
    have l4' : (zSk lo hi (2 + 0 + 2)).length ≤ 2 := l4
    omega
  obtain ⟨τ5, e5, t5, f5⟩ := zfl_in (k := fX6_findLeast_44 N (M + 1)) (f := M + 2) (i := 2) (j := 1) hn hN (zWC_fr (zWC_fr w2 f3) f4) t4 (by omega) (by omega) n4
  have g2 : ∀ τ, fX6_findLeast_75 N (fX6_findLeast_44 N (M + 1)) (M + 2) (nI 2) (nI 2) τ = fX6_findLeast_44 N (M + 1) (nI 3) τ := fun τ => zfl_out (N := N) (k := fX6_findLeast_44 N (M + 1)) (f := M + 1) (i := 2) (σ := τ) (by omega)
  have e5 : fX6_findLeast_75 N (fX6_findLeast_44 N (M + 1)) (M + 3) (nI 2) (nI 1) τ4 = fX6_findLeast_75 N (fX6_findLeast_44 N (M + 1)) (M + 2) (nI 2) (nI 2) τ5 := e5
  rw [g2] at e5
  rw [show M + 3 + 1 = N by omega] at e4
  have e4 : fX6_findLeast_75 N (fX6_findLeast_44 N (M + 1)) N (nI 2) (nI 0) τ3 = fX6_findLeast_75 N (fX6_findLeast_44 N (M + 1)) (M + 3) (nI 2) (nI 1) τ4 := e4
  rw [e4, e5] at e3
  have e3 : fX6_findLeast_44 N (M + 2) (nI 2) τ2 = fX6_findLeast_44 N (M + 1) (nI 3) τ5 := e3
  rw [q3]
  refine ⟨M + 1, τ5, by omega, (e0.trans e1).trans e3, ?_, zFT_trans (zFT_trans f0 (zFT_trans f1 f2)) (zFT_trans f3 (zFT_trans f4 f5))⟩
  rw [show zCR 3 lo hi = zSk lo hi 0 ++ zSk lo hi 1 ++ zSk lo hi 3 ++ zSk lo hi 2 ++ zSk lo hi 4 ++ zSk lo hi 5 from rfl]
  simp only [List.append_assoc] at t5 ⊢
  exact t5
end zLeast
