/-! ===== the class's least, most, raise ===== -/
theorem zSm_list {R : List (Nat × Int × Int)} {n : Nat} (h : ∀ x ∈ R, zOkR x) : zSm R.length n (zRw R n) := by
  intro r hr
  have e : R.getD r (0, 0, 0) = R[r] := by rw [List.getD_eq_getElem?_getD, List.getElem?_eq_getElem hr]; rfl
  obtain ⟨h1, h2, h3, h4⟩ := h R[r] (List.getElem_mem hr)
  unfold zRw
  rw [e]
  refine ⟨fun c hc => ?_, ?_⟩
  · rw [if_neg (by omega)]
    rcases h2 with q | q <;> rw [q] <;> cases R[r].1.testBit c <;> decide
  · rw [if_pos rfl]
    exact ⟨h3, h4⟩
theorem zCR_len {cnt : Nat} {lo hi : Nat → Nat} : (zCR cnt lo hi).length ≤ 12 := by
  have len := fun k => zSk_len (lo := lo) (hi := hi) k
  have l0 := len 0
  have l1 := len 1
  have l3 := len 3
  have l2 := len 2
  have l4 := len 4
  have l5 := len 5
  unfold zCR
  split
  · decide
  · omega
  · rw [List.length_append, List.length_append]; omega
  · rw [List.length_append, List.length_append, List.length_append, List.length_append, List.length_append]; omega
theorem zpow8 {cnt : Nat} (h : cnt ≤ 3) : 2 ^ cnt ≤ 8 := Nat.pow_le_pow_right (by decide) h
theorem zAll_lt {cnt : Nat} (h : cnt ≤ 3) : zAll cnt < 256 := by
  have := Nat.pow_le_pow_right (show 0 < 2 by decide) (zpow8 h)
  unfold zAll
  have : (2 : Nat) ^ 8 = 256 := by decide
  omega
theorem zallWorlds {N cnt : Nat} {lo hi : Nat → Nat} {σ : zSt} (hw : zWC σ cnt lo hi) : fX6_allWorlds N σ = some (nI (zAll cnt), σ) := by
  have hc := hw.1
  have h8 := zpow8 hc
  unfold fX6_allWorlds
  rw [hw.2.1, zshl1 (by omega), zshl1 (by omega)]
  have : 2 ^ (2 ^ cnt) = zAll cnt + 1 := by
    have := Nat.two_pow_pos (2 ^ cnt)
    unfold zAll
    omega
  rw [this, nI_pred]
theorem zfindLeast {N u cnt : Nat} {lo hi : Nat → Nat} {σ : zSt} (hw : zWC σ cnt lo hi) (hu : u < 2 ^ 31) (hN : 600000 ≤ N) :
    ∃ b τ, fX6_findLeast N (nI u) σ = some (b, τ) ∧ (∀ k, k ≠ 29 → k ≠ 31 → k ≠ 32 → τ.1 k = σ.1 k) ∧ ((b = 0 ∧ ∀ y D, ¬ zShare cnt lo hi y D) ∨ (b = 1 ∧ ∃ v d : Nat, 0 < d ∧ d ≤ 40320 ∧ v < 2 ^ 30 ∧ zMin cnt lo hi u v d ∧ τ.2 23 7 = iL ((v / Nat.gcd (100 * d) v : Nat) : Int) ∧ τ.2 23 8 = iL ((100 * d / Nat.gcd (100 * d) v : Nat) : Int))) := by
  have hc := hw.1
  have h8 := zpow8 hc
  have ha := zAll_lt hc
  obtain ⟨σ1, e1, t1, f1⟩ := zbegin (N := N) (σ := σ) hu h8 (by omega)
  have w1 := zWC_fr hw f1
  obtain ⟨σ2, e2, t2, f2⟩ := zaddRow (N := N) (x := (zAll cnt, 1, 100)) t1 ⟨by show zAll cnt < 2 ^ 31; omega, Or.inl rfl, by show (-100 : Int) ≤ 100; decide, by show (100 : Int) ≤ 100; decide⟩ h8 (by show 1 < 15; decide) (by omega)
  have w2 := zWC_fr w1 f2
  obtain ⟨σ3, e3, t3, f3⟩ := zaddRow (N := N) (x := (zAll cnt, -1, -100)) t2 ⟨by show zAll cnt < 2 ^ 31; omega, Or.inr rfl, by show (-100 : Int) ≤ -100; decide, by show (-100 : Int) ≤ 100; decide⟩ h8 (by show 2 < 15; decide) (by omega)
  have w3 := zWC_fr w2 f3
  obtain ⟨f, σ4, hf, e4, t4, f4⟩ := zfl_rows h8 hN w3 t3 rfl
  have w4 := zWC_fr w3 f4
  have e2 : fX4_addRow N (nI (zAll cnt)) 1 100 σ1 = some ((), σ2) := e2
  have e3 : fX4_addRow N (nI (zAll cnt)) (-1) (-100) σ2 = some ((), σ3) := e3
  have t4 : zTR σ4 ((u, 1, 0) :: zRR cnt lo hi) (2 ^ cnt) := t4
  unfold fX6_findLeast
  rw [hw.2.1, zshl1 (by omega), e1, zbnd_some, zallWorlds w1, zbnd_some, e2, zbnd_some, zallWorlds w2, zbnd_some, e3, zbnd_some, show (0 : Int32) = nI 0 from rfl, e4]
  obtain ⟨f', rfl⟩ : ∃ f', f = f' + 1 := ⟨f - 1, by omega⟩
  rw [fX6_findLeast_44, w4.2.1, if_pos (nI_le (Nat.le_refl _) (by omega))]
  have hl := zCR_len (cnt := cnt) (lo := lo) (hi := hi)
  have hok : ∀ x ∈ (u, (1 : Int), (0 : Int)) :: zRR cnt lo hi, zOkR x := by
    intro x hx
    rcases List.mem_cons.mp hx with q | hx
    · rw [q]
      exact ⟨hu, Or.inl rfl, by show (-100 : Int) ≤ 0; decide, by show (0 : Int) ≤ 100; decide⟩
    rcases List.mem_cons.mp hx with q | hx
    · rw [q]
      exact ⟨by show zAll cnt < 2 ^ 31; omega, Or.inl rfl, by show (-100 : Int) ≤ 100; decide, by show (100 : Int) ≤ 100; decide⟩
    rcases List.mem_cons.mp hx with q | hx
    · rw [q]
      exact ⟨by show zAll cnt < 2 ^ 31; omega, Or.inr rfl, by show (-100 : Int) ≤ -100; decide, by show (-100 : Int) ≤ 100; decide⟩
    exact (zCR_iff (lo := lo) (hi := hi) hc zOkR).mpr (fun k hk _ => zSpn_ok (zM_lt k hk) (w4.2.2.2.2 k hk).1) x hx
  obtain ⟨b, σ5, e5, f5, q5⟩ := zsettle (N := N) (t0 := zRw ((u, 1, 0) :: zRR cnt lo hi) (2 ^ cnt)) (by simp) (by simp; omega) h8 (zSm_list hok) hN (fun c hc => by
    unfold zRw
    rw [if_neg (by omega)]
    show 0 ≤ (1 : Int) * (if u.testBit c then 1 else 0)
    cases u.testBit c <;> decide) t4
  have hfr : ∀ k, k ≠ 29 → k ≠ 31 → k ≠ 32 → σ5.1 k = σ.1 k := fun k a b c => by
    rw [f5.1 k a b c, f4.1 k a b c, f3.1 k a b c, f2.1 k a b c, f1.1 k a b c]
  rw [e5, zbnd_some]
  have hh : ∀ k, k < 6 → hi k ≤ 100 := fun k hk => (hw.2.2.2.2 k hk).2
  rcases q5 with ⟨eb, t, d, rn, cn, hT, hb, ⟨x, hx, hx8⟩, hall⟩ | ⟨eb, hno⟩
  · rw [eb, if_neg (by decide)]
    obtain ⟨g1, g2, g3, g4⟩ := zFe_list hx
    have hsh : zShare cnt lo hi x d := (zRR_iff hc hh g1 g2).mp g3
    have hv : zSu (2 ^ cnt) u x = -(t 0 (2 ^ cnt)) := by omega
    have hv0 := zSu_nn (u := u) g2
    have hbt := hb.2.2.2.2.1 0 (by simp) (2 ^ cnt) (Nat.le_refl _)
    have hbd := hb.2.2.2.1
    have ev : -(t 0 (2 ^ cnt)) = (((-(t 0 (2 ^ cnt))).toNat : Nat) : Int) := by omega
    have ed : d = ((d.toNat : Nat) : Int) := by omega
    have hl : fX4_least N σ5 = some (iL (((-(t 0 (2 ^ cnt))).toNat : Nat) : Int), σ5) := by
      unfold fX4_least
      rw [show (0 : Int32) = nI 0 from rfl, zrow_nI (by omega) (by omega), hT.2.1, zagL_nI (by omega) (by omega), hT.2.2.2.1 0 (by simp) _ (Nat.le_refl _), iL_neg, ← ev]
    have h100 : (100 : Int64) * σ5.2 29 5 = iL ((100 * d.toNat : Nat) : Int) := by
      rw [hT.2.2.1, show (100 : Int64) = iL 100 from rfl, iL_mul]
      congr 1
      omega
    rw [hl, zbnd_some, h100, zreduce (by omega) (by omega) (by omega) (by omega), zbnd_some]
    refine ⟨1, _, zrz_1, fun k a b c => hfr k a b c, Or.inr ⟨rfl, (-(t 0 (2 ^ cnt))).toNat, d.toNat, by omega, by omega, by omega, ?_, ?_, ?_⟩⟩
    · rw [← ev, ← ed]
      refine ⟨g1, ⟨x, d, hsh, by rw [hv]⟩, fun y D hy => ?_⟩
      obtain ⟨x', hx', hx8'⟩ := zFe_back (u := u) h8 hy.1 hy.2.1 ((zRR_iff hc hh hy.1 hy.2.1).mpr hy)
      have := hall x' D hx'
      rw [hx8'] at this
      have e1 : d * -(zSu (2 ^ cnt) u y) = -(zSu (2 ^ cnt) u y * d) := by grind
      have e2 : -(t 0 (2 ^ cnt)) * D = -(t 0 (2 ^ cnt) * D) := by grind
      omega
    · rw [zsl_o (by decide), zsl_s]
    · rw [zsl_s]
  · rw [eb, if_pos rfl]
    refine ⟨0, σ5, zrz_0, hfr, Or.inl ⟨rfl, fun y D hy => ?_⟩⟩
    obtain ⟨x', hx', -⟩ := zFe_back (u := u) h8 hy.1 hy.2.1 ((zRR_iff hc hh hy.1 hy.2.1).mpr hy)
    exact hno x' D hx'
