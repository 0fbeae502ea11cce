/-! ===== sentences that tell a step ===== -/
theorem zm329 {N s : Nat} (hs : s < 16) : ∀ (g f j : Nat) (ρ : zSt), g < f → j + g = 3 → ∃ υ, fX8_readStep_329 N f (nI s) (nI j) ρ = some ((), υ) ∧ (∀ c, c ≠ 0 → c ≠ 13 → υ.1 c = ρ.1 c) ∧ (∀ i, i ≠ 8 → υ.1 0 i = ρ.1 0 i) ∧ υ.1 0 8 = ρ.1 0 8 + 1 ∧ ∀ i, υ.1 13 i = if 3 * s + j ≤ i ∧ i < 3 * s + 3 then 0 else ρ.1 13 i
  | 0, f + 1, j, ρ, _, hj => by
    have e : j = 3 := by omega
    subst e
    rw [fX8_readStep_329, if_pos (by decide), zpf_eq]
    refine ⟨_, rfl, fun c c1 _ => zsi_c c1, fun i hi => zsi_o hi, zsi_s, fun i => ?_⟩
    rw [zsi_c (by decide), if_neg (by omega)]
  | g + 1, f + 1, j, ρ, hf, hj => by
    obtain ⟨υ, r1, r2, r3, r4, r5⟩ := zm329 (N := N) hs g f (j + 1) (zsi ρ 13 (3 * s + j) 0) (by omega) (by omega)
    rw [fX8_readStep_329, if_neg (show ¬ (3 : Int32) ≤ nI j from nI_ge (b := 3) (by omega) (by omega)), z3, zas_nI (by omega) (by decide), nI_1]
    refine ⟨υ, r1, fun c c1 c2 => (r2 c c1 c2).trans (zsi_c c2), fun i hi => (r3 i hi).trans (by rw [zsi_c (by decide)]), r4.trans (by rw [zsi_c (by decide)]), fun i => ?_⟩
    rw [r5 i, zsi_if]
    by_cases q : i = 3 * s + j
    · rw [if_pos q, if_neg (by omega), if_pos (by omega)]
    · rw [if_neg q]
      by_cases w : 3 * s + (j + 1) ≤ i ∧ i < 3 * s + 3
      · rw [if_pos w, if_pos (by omega)]
      · rw [if_neg w, if_neg (by omega)]
theorem zm329fs {s : Nat} {ρ υ : zSt} (h1 : ∀ c, c ≠ 0 → c ≠ 13 → υ.1 c = ρ.1 c) (h2 : ∀ i, i ≠ 8 → υ.1 0 i = ρ.1 0 i) (h3 : ∀ i, υ.1 13 i = if 3 * s + 0 ≤ i ∧ i < 3 * s + 3 then 0 else ρ.1 13 i) : zfsM s ρ υ := ⟨fun c c1 c2 => h1 c c1 (by omega), fun i i1 _ => h2 i i1, fun i _ => ⟨by rw [h1 9 (by decide) (by decide)], by rw [h1 10 (by decide) (by decide)], by rw [h1 11 (by decide) (by decide)]⟩, fun i _ => by rw [h1 12 (by decide) (by decide)], fun i hi => by rw [h3, if_neg (by omega)]⟩
theorem zm182_0 {N : Nat} {ρ : zSt} {x1 : Int32} : ∀ F, 1 ≤ F → fX8_readStep_182 N F x1 0 ρ = fX8_readStep_329 N N x1 0 ρ
  | F + 1, _ => by rw [fX8_readStep_182, if_pos rfl]
theorem zc78f {N fk : Nat} {σ : zSt} {x3 x5 : Int32} (h1 : 1 ≤ fk) (h3 : fk ≤ 3) : ∀ F, 1 ≤ F → fX5_readStep_78 N F x3 (nI fk) x5 σ = some (nI fk, σ)
  | F + 1, _ => by
    have hne : ¬ nI fk = 0 := nI_ne0 h1 (by omega)
    have e : fX5_readStep_112 N (nI fk) σ = some (nI fk, σ) := by
      unfold fX5_readStep_112
      rw [if_neg hne]
    rw [fX5_readStep_78, e, if_neg hne]
    by_cases v : (6 : Int32) ≤ x5
    · rw [if_pos v]
    · rw [if_neg v]
/-- all the parts from the second on -/
theorem zparts {N f cl len : Nat} {a : zA} {t : Nat → Nat} (hN : 600000 ≤ N) : ∀ (g fu fu' c q e k : Nat) (G : Nat → Nat) (σ ρ : zSt), c + g = 6 → 1 ≤ c → g + 2 ≤ fu → g + 3 ≤ fu' → zPp σ ρ a t len q e k f cl c G → (∃ τ υ q' e' k' c' G', fX5_readStep_78 N fu (nI (a 0 1)) 0 (nI (c - 1)) σ = fX5_readStep_112 N 0 τ ∧ fX8_readStep_182 N fu' (nI (a 0 1)) (if k = 2 then 1 else 0) ρ = fX8_readStep_329 N N (nI (a 0 1)) 0 υ ∧ zPp τ υ a t len q' e' k' f cl c' G' ∧ 1 ≤ c' ∧ e ≤ e' ∧ zfsC (a 0 1) σ τ ∧ zfsM (a 0 1) ρ υ) ∨ (∃ fk pos τ υ, 1 ≤ fk ∧ fk ≤ 3 ∧ fX5_readStep_78 N fu (nI (a 0 1)) 0 (nI (c - 1)) σ = some (nI fk, τ) ∧ fX8_readStep_182 N fu' (nI (a 0 1)) (if k = 2 then 1 else 0) ρ = fX8_readStep_329 N N (nI (a 0 1)) 0 υ ∧ τ.1 5 2 = nI pos ∧ υ.1 0 27 = nI fk ∧ υ.1 0 28 = nI pos ∧ zfsC (a 0 1) σ τ ∧ zfsM (a 0 1) ρ υ) := by
  intro g
  induction g with
  | zero =>
    intro fu fu' c q e k G σ ρ hc hc1 hf hf' hp
    have hp' := hp
    obtain ⟨ho, h16, hC, c70, c71, c72, hSC, m7, m8, hM, hSM, hP, m27, hc6, hG, hGd⟩ := hp'
    have k5 := zTk_5 hP.2.1
    obtain ⟨fu, rfl⟩ : ∃ f', fu = f' + 2 := ⟨fu - 2, by omega⟩
    obtain ⟨fu', rfl⟩ : ∃ f', fu' = f' + 2 := ⟨fu' - 2, by omega⟩
    by_cases v : k = 2
    · rcases zpart2 (N := N) hN hp with ⟨fk, f1, f3, r1, r2⟩ | ⟨w6, -⟩
      · refine Or.inr ⟨fk, q, σ, _, f1, f3, ?_, ?_, hP.2.2.1, (zbad_27 f1 f3).1, zsi_s, zfsC_rfl, zfsM_bad⟩
        · rw [fX5_readStep_78, if_neg (show ¬ (6 : Int32) ≤ nI (c - 1) from nI_ge (b := 6) (by omega) (by omega)), if_pos rfl, hP.2.2.2.2.1, if_pos (show nI k = (2 : Int32) by rw [v]; rfl), r1, zbnd_some, zc78f f1 f3 _ (by omega)]
        · rw [if_pos v, r2, zm182_0 _ (by omega)]
      · omega
    · refine Or.inl ⟨σ, ρ, q, e, k, c, G, ?_, ?_, hp, hc1, Nat.le_refl _, zfsC_rfl, zfsM_rfl⟩
      · rw [fX5_readStep_78, if_neg (show ¬ (6 : Int32) ≤ nI (c - 1) from nI_ge (b := 6) (by omega) (by omega)), if_pos rfl, hP.2.2.2.2.1, if_neg (show ¬ nI k = (2 : Int32) from fun z => v ((nI_eq (b := 2) (by omega) (by omega)).mp z))]
      · rw [if_neg v, zm182_0 _ (by omega)]
  | succ g ih =>
    intro fu fu' c q e k G σ ρ hc hc1 hf hf' hp
    have hp' := hp
    obtain ⟨ho, h16, hC, c70, c71, c72, hSC, m7, m8, hM, hSM, hP, m27, hc6, hG, hGd⟩ := hp'
    have k5 := zTk_5 hP.2.1
    obtain ⟨fu, rfl⟩ : ∃ f', fu = f' + 2 := ⟨fu - 2, by omega⟩
    obtain ⟨fu', rfl⟩ : ∃ f', fu' = f' + 2 := ⟨fu' - 2, by omega⟩
    by_cases v : k = 2
    · rcases zpart2 (N := N) hN hp with ⟨fk, f1, f3, r1, r2⟩ | ⟨w6, τ, υ, q', e', k', G', r1, r2, r3, r4, r5, r6⟩
      · refine Or.inr ⟨fk, q, σ, _, f1, f3, ?_, ?_, hP.2.2.1, (zbad_27 f1 f3).1, zsi_s, zfsC_rfl, zfsM_bad⟩
        · rw [fX5_readStep_78, if_neg (show ¬ (6 : Int32) ≤ nI (c - 1) from nI_ge (b := 6) (by omega) (by omega)), if_pos rfl, hP.2.2.2.2.1, if_pos (show nI k = (2 : Int32) by rw [v]; rfl), r1, zbnd_some, zc78f f1 f3 _ (by omega)]
        · rw [if_pos v, r2, zm182_0 _ (by omega)]
      · have ec : fX5_readStep_78 N (fu + 2) (nI (a 0 1)) 0 (nI (c - 1)) σ = fX5_readStep_78 N (fu + 1) (nI (a 0 1)) 0 (nI (c + 1 - 1)) τ := by
          rw [fX5_readStep_78, if_neg (show ¬ (6 : Int32) ≤ nI (c - 1) from nI_ge (b := 6) (by omega) (by omega)), if_pos rfl, hP.2.2.2.2.1, if_pos (show nI k = (2 : Int32) by rw [v]; rfl), r1, zbnd_some, nI_1, show c - 1 + 1 = c + 1 - 1 by omega]
        have em := r2 (fu' + 1)
        have he' := r3.2.2.2.2.2.2.2.2.2.2.2.1.2.1.1
        rw [if_pos v, ec, em]
        rcases ih (fu + 1) (fu' + 1) (c + 1) q' e' k' G' τ υ (by omega) (by omega) (by omega) (by omega) r3 with ⟨τ2, υ2, q2, e2, k2, c2, G2, s1, s2, s3, s4, s5, s6, s7⟩ | ⟨fk, pos, τ2, υ2, s1, s2, s3, s4, s5, s6, s7, s8, s9⟩
        · exact Or.inl ⟨τ2, υ2, q2, e2, k2, c2, G2, s1, s2, s3, s4, by omega, zfsC_trans r5 s6, zfsM_trans r6 s7⟩
        · exact Or.inr ⟨fk, pos, τ2, υ2, s1, s2, s3, s4, s5, s6, s7, zfsC_trans r5 s8, zfsM_trans r6 s9⟩
    · refine Or.inl ⟨σ, ρ, q, e, k, c, G, ?_, ?_, hp, hc1, Nat.le_refl _, zfsC_rfl, zfsM_rfl⟩
      · rw [fX5_readStep_78, if_neg (show ¬ (6 : Int32) ≤ nI (c - 1) from nI_ge (b := 6) (by omega) (by omega)), if_pos rfl, hP.2.2.2.2.1, if_neg (show ¬ nI k = (2 : Int32) from fun z => v ((nI_eq (b := 2) (by omega) (by omega)).mp z))]
      · rw [if_neg v, zm182_0 _ (by omega)]
/-! a step more -/
def zns (a : zA) (f cl c : Nat) (G : Nat → Nat) : zA := zup (zup (zup (zup (zup (zup a 0 (zu1 (a 0) 1 (a 0 1 + 1))) 6 (zu1 (a 6) (a 0 1) f)) 7 (zu1 (a 7) (a 0 1) cl)) 8 (zu1 (a 8) (a 0 1) c)) 9 (fun i => if i < 6 * a 0 1 then a 9 i else G (i - 6 * a 0 1))) 10 (fun i => if i < 3 * a 0 1 then a 10 i else 0)
theorem zns_px {a : zA} {f cl c : Nat} {G : Nat → Nat} : zPx a (zns a f cl c G) := by
  refine ⟨Nat.le_refl _, by show a 0 1 ≤ a 0 1 + 1; omega, rfl, fun _ _ => ⟨rfl, rfl, rfl, rfl, rfl⟩, fun s hs => ?_⟩
  have hne : s ≠ a 0 1 := by omega
  exact ⟨if_neg hne, if_neg hne, if_neg hne, fun j hj => if_pos (by omega), fun k hk => if_pos (by omega)⟩
theorem zns_9 {a : zA} {f cl c j : Nat} {G : Nat → Nat} : zns a f cl c G 9 (6 * a 0 1 + j) = G j := by
  show (if 6 * a 0 1 + j < 6 * a 0 1 then a 9 (6 * a 0 1 + j) else G (6 * a 0 1 + j - 6 * a 0 1)) = G j
  rw [if_neg (by omega)]
  congr 1
  omega
theorem zns_10 {a : zA} {f cl c k : Nat} {G : Nat → Nat} : zns a f cl c G 10 (3 * a 0 1 + k) = 0 := by
  show (if 3 * a 0 1 + k < 3 * a 0 1 then a 10 (3 * a 0 1 + k) else 0) = 0
  rw [if_neg (by omega)]
theorem zns_678 {a : zA} {f cl c : Nat} {G : Nat → Nat} : zns a f cl c G 6 (a 0 1) = f ∧ zns a f cl c G 7 (a 0 1) = cl ∧ zns a f cl c G 8 (a 0 1) = c := ⟨if_pos rfl, if_pos rfl, if_pos rfl⟩
theorem zns_ok {a : zA} {f cl c : Nat} {G : Nat → Nat} (ho : zOk a) (h16 : a 0 1 < 16) (hf : f ≤ 3) (hcl : cl < a 0 0) (hcl2 : a 1 cl = 2) (hc1 : 1 ≤ c) (hc6 : c ≤ 6) (hG : ∀ j, j < c → G j < a 0 0) (hGd : ∀ j i, j < i → i < c → G j ≠ G i) : zOk (zns a f cl c G) := by
  obtain ⟨e6, e7, e8⟩ := zns_678 (a := a) (f := f) (cl := cl) (c := c) (G := G)
  refine ⟨ho.1, by show a 0 1 + 1 ≤ 16; omega, ho.2.2.1, ho.2.2.2.1, fun s hs => ?_⟩
  have hs : s < a 0 1 + 1 := hs
  by_cases q : s = a 0 1
  · subst q
    unfold zOkS
    rw [e6, e7, e8]
    refine ⟨hf, hcl, hcl2, hc1, hc6, fun j hj => ?_, fun j k hjk hk => ?_, fun k hk => ?_⟩
    · rw [zns_9]; exact hG j hj
    · rw [zns_9, zns_9]; exact hGd j k hjk hk
    · rw [zns_10]; exact ⟨by omega, fun _ => rfl⟩
  · have hs' : s < a 0 1 := by omega
    obtain ⟨o1, o2, o3, o4, o5, o6, o7, o8⟩ := ho.2.2.2.2 s hs'
    obtain ⟨x1, x2, x3, x4, x5⟩ := (zns_px (a := a) (f := f) (cl := cl) (c := c) (G := G)).2.2.2.2 s hs'
    unfold zOkS
    rw [x1, x2, x3]
    refine ⟨o1, o2, o3, o4, o5, fun j hj => ?_, fun j k hjk hk => ?_, fun k hk => ?_⟩
    · rw [x4 j (by omega)]; exact o6 j hj
    · rw [x4 j (by omega), x4 k (by omega)]; exact o7 j k hjk hk
    · rw [x5 k hk]; exact o8 k hk
theorem zns_C {σ : zSt} {a : zA} {f cl c : Nat} {G : Nat → Nat} (ho : zOk a) (hf : f ≤ 3) (hc6 : c ≤ 6) (h : zCr σ a) (hs : zStC σ (a 0 1) f cl c G) (h0 : σ.1 7 0 = nI (a 0 0)) (h1 : σ.1 7 1 = nI (a 0 1 + 1)) (h2 : σ.1 7 2 = nI (a 0 2)) : zCN σ (zns a f cl c G) := by
  obtain ⟨e6, e7, e8⟩ := zns_678 (a := a) (f := f) (cl := cl) (c := c) (G := G)
  refine ⟨h0, h1, h2, h.1, fun s hs' => ?_⟩
  have hs' : s < a 0 1 + 1 := hs'
  by_cases q : s = a 0 1
  · subst q
    obtain ⟨s1, s2, s3, s4, s5, s6, s7⟩ := hs
    have od := zdo_b f (by omega)
    unfold zCS
    rw [e6, e7, e8]
    refine ⟨s1, s2, s3, ?_, ?_, fun j hj => by rw [zns_9]; exact s6 j hj, fun k hk => by rw [zns_10, s7 k hk]; rfl⟩
    · rw [s4]
      refine zS_eq.mpr (fun n _ => ?_)
      unfold zpt
      rw [e8]
      exact zim_cong (fun j _ => zns_9.symm)
    · rw [s5]
      unfold zop
      rw [e6, fb_ct_all.mpr (fun k hk => by
        show (zns a f cl c G 10 (3 * a 0 1 + k) == 0) = true
        rw [zns_10]; rfl)]
  · have hs2 : s < a 0 1 := by omega
    obtain ⟨x1, x2, x3, x4, x5⟩ := (zns_px (a := a) (f := f) (cl := cl) (c := c) (G := G)).2.2.2.2 s hs2
    obtain ⟨o1, o2, o3, o4, o5, -⟩ := ho.2.2.2.2 s hs2
    have od := zdo_b (a 6 s) (by omega)
    obtain ⟨c1, c2, c3, c4, c5, c6, c7⟩ := h.2 s hs2
    unfold zCS
    rw [x1, x2, x3]
    refine ⟨c1, c2, c3, ?_, ?_, fun j hj => by rw [x4 j (by omega)]; exact c6 j hj, fun k hk => by rw [x5 k hk]; exact c7 k hk⟩
    · rw [c4]
      refine zS_eq.mpr (fun n _ => ?_)
      unfold zpt
      rw [x3]
      exact zim_cong (fun j hj => (x4 j (by omega)).symm)
    · rw [c5]
      unfold zop
      rw [x1]
      congr 1
      exact fb_ct_cong (fun k hk => by rw [x5 k (by omega)])
theorem zns_M {ρ : zSt} {a : zA} {f cl c : Nat} {G : Nat → Nat} (ho : zOk a) (h : zMr ρ a) (hs : zStM ρ (a 0 1) f cl c G) (hd : ∀ k, k < 3 → ρ.1 13 (3 * a 0 1 + k) = 0) : zMr ρ (zns a f cl c G) := by
  obtain ⟨e6, e7, e8⟩ := zns_678 (a := a) (f := f) (cl := cl) (c := c) (G := G)
  refine ⟨h.1, fun s hs' => ?_⟩
  have hs' : s < a 0 1 + 1 := hs'
  by_cases q : s = a 0 1
  · subst q
    obtain ⟨s1, s2, s3, s6⟩ := hs
    unfold zMS
    rw [e6, e7, e8]
    exact ⟨s1, s2, s3, fun j hj => by rw [zns_9]; exact s6 j hj, fun k hk => by rw [zns_10, hd k hk]; rfl⟩
  · have hs2 : s < a 0 1 := by omega
    obtain ⟨x1, x2, x3, x4, x5⟩ := (zns_px (a := a) (f := f) (cl := cl) (c := c) (G := G)).2.2.2.2 s hs2
    obtain ⟨o1, o2, o3, o4, o5, -⟩ := ho.2.2.2.2 s hs2
    obtain ⟨c1, c2, c3, c6, c7⟩ := h.2 s hs2
    unfold zMS
    rw [x1, x2, x3]
    exact ⟨c1, c2, c3, fun j hj => by rw [x4 j (by omega)]; exact c6 j hj, fun k hk => by rw [x5 k hk]; exact c7 k hk⟩
theorem zcadd52 {N s : Nat} (hs : s < 16) : ∀ (g f j : Nat) (σ : zSt), g < f → j + g = 3 → ∃ τ, fX2_addStep_52 N f (nI s) (nI j) σ = some (nI s, τ) ∧ (∀ c, c ≠ 7 → c ≠ 19 → τ.1 c = σ.1 c) ∧ (∀ i, i ≠ 1 → τ.1 7 i = σ.1 7 i) ∧ τ.1 7 1 = nI (s + 1) ∧ ∀ i, τ.1 19 i = if 3 * s + j ≤ i ∧ i < 3 * s + 3 then 0 else σ.1 19 i
  | 0, f + 1, j, σ, _, hj => by
    have e : j = 3 := by omega
    subst e
    rw [fX2_addStep_52, if_pos (by decide), zpf_eq, nI_1]
    refine ⟨_, rfl, fun c c1 _ => zsi_c c1, fun i hi => zsi_o hi, zsi_s, fun i => ?_⟩
    rw [zsi_c (by decide), if_neg (by omega)]
  | g + 1, f + 1, j, σ, hf, hj => by
    obtain ⟨τ, r1, r2, r3, r4, r5⟩ := zcadd52 (N := N) hs g f (j + 1) (zsi σ 19 (3 * s + j) 0) (by omega) (by omega)
    rw [fX2_addStep_52, if_neg (show ¬ (3 : Int32) ≤ nI j from nI_ge (b := 3) (by omega) (by omega)), z3', zas_nI (by omega) (by decide), nI_1]
    refine ⟨τ, r1, fun c c1 c2 => (r2 c c1 c2).trans (zsi_c c2), fun i hi => (r3 i hi).trans (by rw [zsi_c (by decide)]), r4, fun i => ?_⟩
    rw [r5 i, zsi_if]
    by_cases q : i = 3 * s + j
    · rw [if_pos q, if_neg (by omega), if_pos (by omega)]
    · rw [if_neg q]
      by_cases w : 3 * s + (j + 1) ≤ i ∧ i < 3 * s + 3
      · rw [if_pos w, if_pos (by omega)]
      · rw [if_neg w, if_neg (by omega)]
theorem zcaddS {N f cl s : Nat} {σ : zSt} (hN : 600000 ≤ N) (hs : s < 16) (hf : f ≤ 3) (h71 : σ.1 7 1 = nI s) : ∃ τ, fX2_addStep N (nI f) (nI cl) σ = some (nI s, τ) ∧ zStC τ s f cl 0 (fun _ => 0) ∧ τ.1 7 1 = nI (s + 1) ∧ zfsC s σ τ ∧ τ.1 5 = σ.1 5 := by
  have e : ∀ f, f < 4 → zTD f = nI (zdo f) := by decide
  obtain ⟨τ, r1, r2, r3, r4, r5⟩ := zcadd52 (N := N) hs 3 N 0 (zsi (zsi (zsi (zsi (zsi σ 13 s (nI f)) 14 s (nI cl)) 15 s 0) 16 s 0) 18 s (nI (zdo f))) (by omega) (by omega)
  have r1 : fX2_addStep_52 N N (nI s) 0 (zsi (zsi (zsi (zsi (zsi σ 13 s (nI f)) 14 s (nI cl)) 15 s 0) 16 s 0) 18 s (nI (zdo f))) = some (nI s, τ) := r1
  have tc : ∀ c, c ≠ 7 → (c < 13 ∨ 19 < c ∨ c = 17) → τ.1 c = σ.1 c := fun c c1 c2 => by rw [r2 c c1 (by omega), zsi_c (by omega), zsi_c (by omega), zsi_c (by omega), zsi_c (by omega), zsi_c (by omega)]
  have t13 : ∀ i, τ.1 13 i = if i = s then nI f else σ.1 13 i := fun i => by rw [r2 13 (by decide) (by decide), zsi_c (by decide), zsi_c (by decide), zsi_c (by decide), zsi_c (by decide), zsi_if]
  have t14 : ∀ i, τ.1 14 i = if i = s then nI cl else σ.1 14 i := fun i => by rw [r2 14 (by decide) (by decide), zsi_c (by decide), zsi_c (by decide), zsi_c (by decide), zsi_if, zsi_c (by decide)]
  have t15 : ∀ i, τ.1 15 i = if i = s then 0 else σ.1 15 i := fun i => by rw [r2 15 (by decide) (by decide), zsi_c (by decide), zsi_c (by decide), zsi_if, zsi_c (by decide), zsi_c (by decide)]
  have t16 : ∀ i, τ.1 16 i = if i = s then 0 else σ.1 16 i := fun i => by rw [r2 16 (by decide) (by decide), zsi_c (by decide), zsi_if, zsi_c (by decide), zsi_c (by decide), zsi_c (by decide)]
  have t18 : ∀ i, τ.1 18 i = if i = s then nI (zdo f) else σ.1 18 i := fun i => by rw [r2 18 (by decide) (by decide), zsi_if, zsi_c (by decide), zsi_c (by decide), zsi_c (by decide), zsi_c (by decide)]
  have t19 : ∀ i, τ.1 19 i = if 3 * s + 0 ≤ i ∧ i < 3 * s + 3 then 0 else σ.1 19 i := fun i => by rw [r5 i, zsi_c (by decide), zsi_c (by decide), zsi_c (by decide), zsi_c (by decide), zsi_c (by decide)]
  have t7 : ∀ i, i ≠ 1 → τ.1 7 i = σ.1 7 i := fun i hi => by rw [r3 i hi, zsi_c (by decide), zsi_c (by decide), zsi_c (by decide), zsi_c (by decide), zsi_c (by decide)]
  refine ⟨τ, ?_, ⟨by rw [t13, if_pos rfl], by rw [t14, if_pos rfl], by rw [t15, if_pos rfl]; rfl, ?_, by rw [t18, if_pos rfl], fun j hj => absurd hj (Nat.not_lt_zero j), fun k hk => by rw [t19, if_pos (by omega)]⟩, r4, ⟨fun c c1 c2 c3 => tc c c2 (by omega), by rw [tc 5 (by decide) (by omega)], t7 0 (by decide), t7 2 (by decide), fun i hi => ⟨by rw [t13, if_neg (by omega)], by rw [t14, if_neg (by omega)], by rw [t15, if_neg (by omega)], by rw [t16, if_neg (by omega)], by rw [t18, if_neg (by omega)]⟩, fun i _ => by rw [tc 17 (by decide) (by omega)], fun i hi => by rw [t19, if_neg (by omega)]⟩, tc 5 (by decide) (by omega)⟩
  · unfold fX2_addStep
    rw [h71, if_neg (show ¬ (15 : Int32) < nI s from nI_nlt (a := 15) (by omega) (by omega)), znm_eq, zas_nI hs (by decide), zas_nI hs (by decide), zas_nI hs (by decide), zas_nI hs (by decide), ztab_nI (by omega) (by decide), e f (by omega), zas_nI hs (by decide)]
    exact r1
  · rw [t16, if_pos rfl]
    have : zS (zim (fun _ => 0) 0) = zS (fun _ => false) := zset_cong (fun _ _ => rfl)
    rw [this, zS_0]
    rfl
