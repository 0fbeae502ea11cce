/-! ===== the reference's find, whole ===== -/
theorem zRm_n {R : List (Nat × Int × Int)} {n r : Nat} : zRm R n r n = (R.getD r (0, 0, 0)).2.2 := if_pos rfl
def zT0 (L : List (Nat × Int × Int)) (n u : Nat) (sg : Int) (r c : Nat) : Int := if r = L.length then (if c = n then 0 else -sg * (zbt u (c + 1) - zbt u 0)) else zRm L n r c
theorem zcost_sum {L : List (Nat × Int × Int)} {n u : Nat} {sg : Int} {x : Nat → Int} : fb_si (fun c => zT0 L n u sg L.length c * x c) n = -sg * (zSv n u x - zbt u 0 * fb_si x n) := by
  unfold zSv
  rw [← fb_si_mul, ← fb_si_sub, ← fb_si_mul]
  refine fb_si_cong (fun c hc => ?_)
  unfold zT0
  rw [if_pos rfl, if_neg (by omega)]
  show -sg * (zbt u (c + 1) - zbt u 0) * x c = -sg * (zbt u (c + 1) * x c - zbt u 0 * x c)
  grind
theorem zrow_sum {L : List (Nat × Int × Int)} {n u r : Nat} {sg : Int} {x : Nat → Int} (hr : r < L.length) : fb_si (fun c => zT0 L n u sg r c * x c) n = (L.getD r (0, 0, 0)).2.1 * zSv n (L.getD r (0, 0, 0)).1 x ∧ zT0 L n u sg r n = (L.getD r (0, 0, 0)).2.2 := by
  refine ⟨?_, ?_⟩
  · rw [← zRm_sum]
    refine fb_si_cong (fun c hc => ?_)
    unfold zT0
    rw [if_neg (by omega)]
  · unfold zT0
    rw [if_neg (by omega), zRm_n]
theorem zget {L : List (Nat × Int × Int)} {r : Nat} (hr : r < L.length) : L.getD r (0, 0, 0) = L[r] := by rw [List.getD_eq_getElem?_getD, List.getElem?_eq_getElem hr]; rfl
/-- points of the reference's plan are shares -/
theorem zmFe_to {n cnt u : Nat} {ll hi : Nat → Nat} {has : Nat → Bool} {sg : Int} {x : Nat → Int} {D : Int} (hn : n + 1 = 2 ^ cnt) (hn7 : n ≤ 7) (hw : ∀ k, k < 6 → (has k = true → zmx k < cnt) ∧ (has k = false → ll k = 0 ∧ hi k = 100))
    (h : zFe ((zLL ll hi has).length + 1) n n (zLL ll hi has).length (zT0 (zLL ll hi has) n u sg) x D) : zShare cnt ll hi (zY n D x) D ∧ x (n + (zLL ll hi has).length) = sg * (zSu (2 ^ cnt) u (zY n D x) - zbt u 0 * (100 * D)) := by
  have hg := zFe_get h
  refine ⟨(zLL_iff hn hn7 h.1 h.2.2.1 hw).mp (fun z hz => ?_), ?_⟩
  · obtain ⟨i, hi', e⟩ := List.mem_iff_getElem.mp hz
    have := (hg i (by omega)).2 (by omega)
    obtain ⟨r1, r2⟩ := zrow_sum (L := zLL ll hi has) (n := n) (u := u) (sg := sg) (x := x) hi'
    rw [r1, r2, zget hi', e] at this
    exact this
  · have := (hg (zLL ll hi has).length (by omega)).1
    rw [zcost_sum] at this
    have e0 : zT0 (zLL ll hi has) n u sg (zLL ll hi has).length n = 0 := by
      unfold zT0
      rw [if_pos rfl, if_pos rfl]
    rw [this, e0, ← hn, zY_su]
    show 0 * D - -sg * (zSv n u x - zbt u 0 * fb_si x n) = sg * (zbt u 0 * (100 * D - fb_si x n) + zSv n u x - zbt u 0 * (100 * D))
    grind
theorem zmFe_of {n cnt u : Nat} {ll hi : Nat → Nat} {has : Nat → Bool} {sg : Int} {y : Nat → Int} {D : Int} (hn : n + 1 = 2 ^ cnt) (hn7 : n ≤ 7) (hw : ∀ k, k < 6 → (has k = true → zmx k < cnt) ∧ (has k = false → ll k = 0 ∧ hi k = 100))
    (h : zShare cnt ll hi y D) : ∃ x, zFe ((zLL ll hi has).length + 1) n n (zLL ll hi has).length (zT0 (zLL ll hi has) n u sg) x D ∧ x (n + (zLL ll hi has).length) = sg * (zSu (2 ^ cnt) u y - zbt u 0 * (100 * D)) := by
  have hD := h.1
  have h0 : ∀ c, c < n → 0 ≤ (fun c => y (c + 1)) c := fun c hc => h.2.1 (c + 1) (by omega)
  have hy : ∀ w, w < 2 ^ cnt → zY n D (fun c => y (c + 1)) w = y w := by
    intro w hw
    unfold zY
    by_cases q : w = 0
    · rw [if_pos q, q]
      have := h.2.2.1
      rw [← hn, zY_split] at this
      omega
    · rw [if_neg q]
      show y (w - 1 + 1) = y w
      congr 1
      omega
  have hsh : zShare cnt ll hi (zY n D (fun c => y (c + 1))) D := by
    refine ⟨hD, fun w hw' => by rw [hy w hw']; exact h.2.1 w hw', by rw [fb_si_cong hy]; exact h.2.2.1, fun k hk hm => ?_⟩
    rw [zSu_cong hy]
    exact h.2.2.2 k hk hm
  have hrows := (zLL_iff (has := has) hn hn7 hD h0 hw).mpr hsh
  obtain ⟨x, hx, hxe⟩ := zFe_mk (m := (zLL ll hi has).length + 1) (n := n) (B := n) (ob := (zLL ll hi has).length) (t0 := zT0 (zLL ll hi has) n u sg) (y := fun c => y (c + 1)) (D := D) (Nat.le_refl n) hD h0 (fun r hr hro => by
    have hr' : r < (zLL ll hi has).length := by omega
    obtain ⟨r1, r2⟩ := zrow_sum (L := zLL ll hi has) (n := n) (u := u) (sg := sg) (x := fun c => y (c + 1)) hr'
    rw [r1, r2, zget hr']
    exact hrows _ (List.getElem_mem hr'))
  refine ⟨x, hx, ?_⟩
  rw [(zmFe_to hn hn7 hw hx).2]
  congr 2
  refine zSu_cong (fun w hw' => ?_)
  rw [← hy w hw']
  unfold zY
  by_cases q : w = 0
  · rw [if_pos q, if_pos q, fb_si_cong hxe]
  · rw [if_neg q, if_neg q, hxe _ (by omega)]
theorem zLL_len {ll hi : Nat → Nat} {has : Nat → Bool} : (zLL ll hi has).length ≤ 13 := by
  have := zML_len (ll := ll) (hi := hi) (has := has) 6 0
  show (zML ll hi has 6 0).length + 1 ≤ 13
  omega
theorem zmfind {N u cnt : Nat} {lo hi ll : Nat → Nat} {has : Nat → Bool} {sg : Int} {x3 : Int32} {σ : zSt} (hw : zWM σ cnt lo hi has) (hu : u < 2 ^ 31) (hsg : sg = 1 ∨ sg = -1) (hN : 600000 ≤ N) (hll : ∀ k, k < 6 → has k = true → ll k = if nI k = x3 then hi k else lo k) (hll0 : ∀ k, k < 6 → has k = false → ll k = 0) :
    ∃ b τ, fX8_find N (nI u) (iI sg) x3 σ = some (b, τ) ∧ zFF σ τ ∧ ((b = 0 ∧ ∀ y D, ¬ zShare cnt ll hi y D) ∨ (b = 1 ∧ ∃ v d : Nat, 0 < d ∧ d ≤ 40320 ∧ v ≤ 100 * d ∧ (sg = -1 → zMin cnt ll hi u v d) ∧ (sg = 1 → zMax cnt ll hi u v d) ∧ τ.2 0 42 = iL (v : Int) ∧ τ.2 0 43 = iL (d : Int))) := by
  have hc := hw.1
  have h8 := zpow8 hc
  have hp := Nat.two_pow_pos cnt
  obtain ⟨n, hn⟩ : ∃ n, n + 1 = 2 ^ cnt := ⟨2 ^ cnt - 1, by omega⟩
  have hn7 : n ≤ 7 := by omega
  have hw' : ∀ k, k < 6 → (has k = true → zmx k < cnt) ∧ (has k = false → ll k = 0 ∧ hi k = 100) := fun k hk => ⟨fun q => ((hw.2.2 k hk).2.1 q).2.2, fun q => ⟨hll0 k hk q, ((hw.2.2 k hk).2.2.1 q).2⟩⟩
  have hq13 := zLL_len (ll := ll) (hi := hi) (has := has)
  have e37 : ((1 : Int32) <<< ((zsi σ 0 36 0).1 0 31 &&& 31)) - 1 = nI n := by
    rw [zsi_o (by decide), hw.2.1, zshl1 (by omega), ← hn, nI_pred]
  unfold fX8_find
  rw [zpf_eq, zpf_eq, zpfL_eq, e37]
  have f0 : zFF σ (zsl (zsi (zsi σ 0 36 0) 0 37 (nI n)) 0 38 1) := ⟨fun k _ _ h => by rw [zsl_1, zsi_c h, zsi_c h], fun i h1 h2 => by rw [zsl_1, zsi_o h2, zsi_o h1]⟩
  have p0 : zPL (zsl (zsi (zsi σ 0 36 0) 0 37 (nI n)) 0 38 1) [] n := ⟨by rw [zsl_1, zsi_o (by decide), zsi_s]; rfl, by rw [zsl_1, zsi_s], zsl_s, fun r hr => absurd hr (Nat.not_lt_zero r)⟩
  obtain ⟨σ1, e1, p1, f1⟩ := zmaddRow (N := N) (sg := 1) (b := 100) (x1 := -1000000) (M := 255) p0 (Or.inl ⟨rfl, rfl⟩) (Or.inl rfl) (by omega) hn7 (by decide) (by omega)
  have e1 : fX8_addRow N (-1000000) 1 100 (zsl (zsi (zsi σ 0 36 0) 0 37 (nI n)) 0 38 1) = some ((), σ1) := e1
  rw [e1, zbnd_some]
  obtain ⟨σ2, e2, p2, f2⟩ := zfind_rows (N := N) (u := u) (x2 := iI sg) (x3 := x3) hn7 hN hll 6 N 0 σ1 _ (by omega) (by omega) (zWM_fr (zWM_fr hw f0) f1) p1 (by decide)
  have e2 : fX8_find_34 N N (nI u) (iI sg) x3 0 σ1 = fX8_find_109 N N (nI u) (iI sg) (nI u &&& 1) 0 σ2 := e2
  have p2 : zPL σ2 (zLL ll hi has) n := p2
  have eb : nI u &&& 1 = iI (zbt u 0) := by
    rw [← nI_zbt, ← zbit hu (show 0 < 31 by decide)]
    congr 1
    show nI u = nI u >>> 0
    rw [← Int32.toBitVec_inj]
    simp
  rw [e2, eb]
  obtain ⟨σ3, e3, c1, c2, c3, c4, c5, c6⟩ := zcost_loop (N := N) (u := u) (q := (zLL ll hi has).length) hsg hu hn7 hq13 n N 0 σ2 (by omega) (by omega) p2.1 p2.2.1
  rw [show (0 : Int32) = nI 0 from rfl, e3]
  obtain ⟨σ4, e4, d1, d2, d3, d4⟩ := zname_loop (N := N) (n := n) (q := (zLL ll hi has).length) (x2 := iI sg) (x4 := iI (zbt u 0)) hn7 hq13 (zLL ll hi has).length N 0 (zsl σ3 19 (8 * (zLL ll hi has).length + n) 0) (by omega) (by omega) (by rw [zsl_1, c1 0 (by decide)]; exact p2.1) (by rw [zsl_1, c1 0 (by decide)]; exact p2.2.1)
  rw [show (0 : Int32) = nI 0 from rfl, e4]
  have hT : zTM σ4 (zLL ll hi has).length n (zT0 (zLL ll hi has) n u sg) 1 (fun r => n + r) (fun c => c) := by
    refine ⟨?_, ?_, ?_, fun r hr c hcn => ?_, fun r hr => d3 r (by omega) hr, fun c hcn => ?_⟩
    · rw [d1 0 (by decide), zsl_1, c1 0 (by decide)]; exact p2.1
    · rw [d1 0 (by decide), zsl_1, c1 0 (by decide)]; exact p2.2.1
    · rw [d4, zsl_c (by decide), c4 0 (by decide)]; exact p2.2.2.1
    · rw [d4]
      unfold zT0
      by_cases q : r = (zLL ll hi has).length
      · rw [q, if_pos rfl]
        by_cases q2 : c = n
        · rw [q2, zsl_s, if_pos rfl]; rfl
        · rw [zsl_o (by omega), if_neg q2, c6 c (by omega) (by omega)]
      · rw [if_neg q, zsl_o (by omega), c5 _ (by omega)]
        exact p2.2.2.2 r (by omega) c hcn
    · rw [d1 21 (by decide), zsl_1, c3 c (by omega) hcn]
  have hsm : zSm ((zLL ll hi has).length + 1) n (zT0 (zLL ll hi has) n u sg) := by
    intro r hr
    by_cases q : r = (zLL ll hi has).length
    · unfold zT0
      rw [if_pos q]
      refine ⟨fun c hcn => ?_, ?_⟩
      · rw [if_pos q, if_neg (by omega)]
        have b1 := zbt01 u (c + 1)
        have b2 := zbt01 u 0
        rcases hsg with e | e <;> rw [e] <;> omega
      · rw [if_pos rfl]; omega
    · have hr' : r < (zLL ll hi has).length := by omega
      have hok : ∀ z ∈ zLL ll hi has, (z.2.1 = 1 ∨ z.2.1 = -1) ∧ -100 ≤ z.2.2 ∧ z.2.2 ≤ 100 := by
        rw [List.forall_mem_cons]
        refine ⟨⟨Or.inl rfl, by show (-100 : Int) ≤ 100; decide, by show (100 : Int) ≤ 100; decide⟩, ?_⟩
        rw [zML_iff (fun z => (z.2.1 = 1 ∨ z.2.1 = -1) ∧ -100 ≤ z.2.2 ∧ z.2.2 ≤ 100)]
        intro j _ hj hj2
        have a1 := (hw.2.2 j (by omega)).2.2.2
        have a2 := hll j (by omega) hj2
        have a3 : ll j ≤ 100 := by
          rw [a2]
          split <;> omega
        refine ⟨⟨Or.inl rfl, ?_, ?_⟩, ⟨Or.inr rfl, ?_, ?_⟩⟩
        · show (-100 : Int) ≤ (hi j : Int); omega
        · show (hi j : Int) ≤ 100; omega
        · show (-100 : Int) ≤ -(ll j : Int); omega
        · show -(ll j : Int) ≤ 100; omega
      obtain ⟨g1, g2, g3⟩ := hok _ (List.getElem_mem hr')
      rw [← zget hr'] at g1 g2 g3
      unfold zT0
      rw [if_neg q]
      refine ⟨fun c hcn => ?_, ?_⟩
      · rw [if_neg q]
        unfold zRm
        rw [if_neg (by omega)]
        rcases g1 with e | e <;> rw [e] <;> cases ((zLL ll hi has).getD r (0, 0, 0)).1.testBit (c + 1) <;> decide
      · rw [zRm_n]
        exact ⟨g2, g3⟩
  have h1 : ∀ c, c < n → zT0 (zLL ll hi has) n u sg 0 c = 1 := by
    intro c hcn
    unfold zT0
    rw [if_neg (by show ¬ 0 = (zML ll hi has 6 0).length + 1; omega)]
    unfold zRm
    rw [if_neg (by omega)]
    have : ∀ i, i < 7 → (255 : Nat).testBit (i + 1) = true := by decide
    show (1 : Int) * (if (255 : Nat).testBit (c + 1) then 1 else 0) = 1
    rw [this c (by omega), if_pos rfl, Int.one_mul]
  obtain ⟨b, σ5, e5, f5, q5⟩ := zsolve (N := N) (by show 1 ≤ (zML ll hi has 6 0).length + 1; omega) hq13 hn7 hsm hN h1 hT
  have f6 : zFF σ σ5 := by
    refine zFF_trans f0 (zFF_trans f1 (zFF_trans f2 (zFF_trans ?_ (zFF_of f5))))
    exact ⟨fun k h1 h2 _ => by rw [d1 k h1, zsl_1, c1 k h2], fun i _ _ => by rw [d1 0 (by decide), zsl_1, c1 0 (by decide)]⟩
  rw [e5, zbnd_some]
  rcases q5 with ⟨eb', t, d, rn, cn, hT', hb, ⟨x, hx, hxo⟩, hall⟩ | ⟨eb', hno⟩
  · rw [eb', if_neg (by decide), hT'.1, hT'.2.1, zat_M (by omega), zbnd_some, hT'.2.2.2.1 _ (Nat.le_refl _) n (Nat.le_refl _), hT'.2.2.1, zpfL_eq, zpfL_eq]
    obtain ⟨hsh, hxv⟩ := zmFe_to hn hn7 hw' hx
    have hbd := hb.2.2.2.1
    have hd0 := hb.2.2.1
    have hbt := hb.2.2.2.2.1 (zLL ll hi has).length (by omega) n (Nat.le_refl _)
    have hz := zbt01 u 0
    have hsn := zSu_nn (u := u) hsh.2.1
    have hsl := zSu_le (u := u) hsh.2.1
    rw [hsh.2.2.1] at hsl
    have hV : 100 * zbt u 0 * d + sg * t (zLL ll hi has).length n = zSu (2 ^ cnt) u (zY n d x) := by
      rw [← hxo, hxv]
      rcases hsg with e | e <;> rw [e] <;> grind
    have hvn : 0 ≤ 100 * zbt u 0 * d + sg * t (zLL ll hi has).length n := by omega
    have ev : (100 : Int64) * (iI (zbt u 0)).toInt64 * iL d + (iI sg).toInt64 * iL (t (zLL ll hi has).length n) = iL (((100 * zbt u 0 * d + sg * t (zLL ll hi has).length n).toNat : Nat) : Int) := by
      rw [iI_L (by omega) (by omega), iI_L (by omega) (by omega), show (100 : Int64) = iL 100 from rfl, iL_mul, iL_mul, iL_mul, iL_add]
      congr 1
      omega
    have ed : ((d.toNat : Nat) : Int) = d := by omega
    have evn : (((100 * zbt u 0 * d + sg * t (zLL ll hi has).length n).toNat : Nat) : Int) = 100 * zbt u 0 * d + sg * t (zLL ll hi has).length n := by omega
    refine ⟨1, _, zrz_1, zFF_trans f6 ⟨fun _ _ _ _ => rfl, fun _ _ _ => rfl⟩, Or.inr ⟨rfl, (100 * zbt u 0 * d + sg * t (zLL ll hi has).length n).toNat, d.toNat, by omega, by omega, by omega, fun es => ?_, fun es => ?_, ?_, ?_⟩⟩
    · rw [evn, ed]
      refine ⟨hd0, ⟨_, _, hsh, by rw [hV]⟩, fun y D hy => ?_⟩
      obtain ⟨x', hx', hxo'⟩ := zmFe_of (u := u) (sg := sg) (has := has) hn hn7 hw' hy
      have := hall x' D hx'
      rw [hxo', es] at this
      rw [es]
      grind
    · rw [evn, ed]
      refine ⟨hd0, ⟨_, _, hsh, by rw [hV]⟩, fun y D hy => ?_⟩
      obtain ⟨x', hx', hxo'⟩ := zmFe_of (u := u) (sg := sg) (has := has) hn hn7 hw' hy
      have := hall x' D hx'
      rw [hxo', es] at this
      rw [es]
      grind
    · rw [zsl_o (by decide), zsl_s, ev]
    · rw [zsl_s, zsl_o (by decide), hT'.2.2.1, ed]
  · rw [eb', if_pos rfl]
    refine ⟨0, σ5, zrz_0, f6, Or.inl ⟨rfl, fun y D hy => ?_⟩⟩
    obtain ⟨x', hx', -⟩ := zmFe_of (u := u) (sg := sg) (has := has) hn hn7 hw' hy
    exact hno x' D hx'
