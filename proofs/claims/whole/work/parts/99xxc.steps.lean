/-! ===== the sentence of a step ===== -/
theorem zm97 {N q e k len : Nat} {a : zA} {t : Nat → Nat} {σ ρ : zSt} (h : zQx σ ρ a t len q e k) : (a 0 1 = 16 → ∀ k48, fX8_net_97 N k48 1937007984 0 ρ = k48 (zsi (zsi ρ 0 27 (nI 3)) 0 28 (nI q))) ∧ (a 0 1 < 16 → ∀ υ, fX8_next N ρ = some ((), υ) → υ.1 0 27 = 0 → ∀ k48, fX8_net_97 N k48 1937007984 0 ρ = zbnd (fX8_readStep N υ) (fun _ σ2 => fX8_net_184 N k48 σ2)) := by
  obtain ⟨h1, h2, h3, h4, h5, h6, h7⟩ := h
  have r25 := h6.2.2.2.2.2.2.2.2.1
  refine ⟨fun hn k48 => ?_, fun hn υ hx hu k48 => ?_⟩
  · have hb : fX8_bad N 3 ρ = some ((), zsi (zsi ρ 0 27 (nI 3)) 0 28 (nI q)) := zbad0 h7 r25
    have h27 := (zbad_27 (ρ := ρ) (v := nI q) (x := 3) (by decide) (by decide)).2
    unfold fX8_net_97 fX8_net_111 fX8_net_128 fX8_net_133 fX8_net_146 fX8_net_151 fX8_net_173
    rw [if_pos rfl, if_pos rfl, h4, hn, if_pos (show nI 16 = (16 : Int32) from rfl), hb, zbnd_some, if_pos rfl, if_pos rfl, zmust1 h27, zbnd_some, if_neg h27, if_neg h27, zm184f h27]
  · unfold fX8_net_97 fX8_net_111 fX8_net_133 fX8_net_146 fX8_net_151 fX8_net_173
    rw [if_pos rfl, if_pos rfl, h4, if_neg (show ¬ nI (a 0 1) = (16 : Int32) from fun z => by have := (nI_eq (b := 16) (by omega) (by omega)).mp z; omega), if_pos rfl, if_pos rfl, zmustk h7 hx, zbnd_some, if_pos hu, if_pos rfl, if_pos hu]
def zfo (t : Nat → Nat) (q e k : Nat) : Nat := if zwd t q e k 4 then 0 else if zwd t q e k 5 then 1 else if zwd t q e k 6 then 2 else if zwd t q e k 7 then 3 else 4
theorem zfo_lt {t : Nat → Nat} {q e k : Nat} : zfo t q e k ≤ 4 := by
  unfold zfo
  repeat' split
  all_goals omega
theorem zcform {N q e k len : Nat} {t : Nat → Nat} {σ ρ : zSt} (hP : zPT σ ρ t len q e k) (hN : 600000 ≤ N) : fX5_formTold N σ = some (if zfo t q e k = 4 then -1 else nI (zfo t q e k), σ) := by
  unfold fX5_formTold zfo
  rw [zcword hP (by decide) hN, zbnd_some]
  cases zwd t q e k 4
  · rw [if_neg (show ¬ false = true by decide), if_pos (show nI 0 = (0 : Int32) from rfl), zcword hP (by decide) hN, zbnd_some]
    cases zwd t q e k 5
    · rw [if_neg (show ¬ false = true by decide), if_pos (show nI 0 = (0 : Int32) from rfl), zcword hP (by decide) hN, zbnd_some]
      cases zwd t q e k 6
      · rw [if_neg (show ¬ false = true by decide), if_pos (show nI 0 = (0 : Int32) from rfl), zcword hP (by decide) hN, zbnd_some]
        cases zwd t q e k 7
        · rfl
        · rfl
      · rfl
    · rfl
  · rfl
theorem zmform {N q e k len s : Nat} {t : Nat → Nat} {σ ρ : zSt} (hP : zPT σ ρ t len q e k) (h8 : ρ.1 0 8 = nI s) (hN : 600000 ≤ N) : fX8_readStep N ρ = fX8_readStep_65 N (nI s) (if zfo t q e k = 4 then -1000000 else nI (zfo t q e k)) (nI s) ρ := by
  have hk := hP.2.1
  have c4 : (6384748 : Int64) = lN (zpk (zwc 4) (zwl 4)) := by decide
  have c5 : (6385273 : Int64) = lN (zpk (zwc 5) (zwl 5)) := by decide
  have c6 : (1836020596 : Int64) = lN (zpk (zwc 6) (zwl 6)) := by decide
  have c7 : (1818848101 : Int64) = lN (zpk (zwc 7) (zwl 7)) := by decide
  unfold fX8_readStep zfo
  rw [znm_eq, h8, zmword hP hN, zbnd_some, c4, c5, c6, c7]
  by_cases v4 : zwd t q e k 4 = true
  · rw [if_pos ((zwv_iff hk (by decide)).mpr v4), if_pos v4]; rfl
  · rw [if_neg (fun z => v4 ((zwv_iff hk (by decide)).mp z)), if_neg v4]
    by_cases v5 : zwd t q e k 5 = true
    · rw [if_pos ((zwv_iff hk (by decide)).mpr v5), if_pos v5]; rfl
    · rw [if_neg (fun z => v5 ((zwv_iff hk (by decide)).mp z)), if_neg v5]
      by_cases v6 : zwd t q e k 6 = true
      · rw [if_pos ((zwv_iff hk (by decide)).mpr v6), if_pos v6]; rfl
      · rw [if_neg (fun z => v6 ((zwv_iff hk (by decide)).mp z)), if_neg v6]
        by_cases v7 : zwd t q e k 7 = true
        · rw [if_pos ((zwv_iff hk (by decide)).mpr v7), if_pos v7]; rfl
        · rw [if_neg (fun z => v7 ((zwv_iff hk (by decide)).mp z)), if_neg v7]; rfl
theorem zfsM_w {s c : Nat} {ρ : zSt} {v : Int32} (hc : c = 9 ∨ c = 10 ∨ c = 11) : zfsM s ρ (zsi ρ c s v) := by
  refine ⟨fun x x1 x2 => zsi_c (by omega), fun i _ _ => by rw [zsi_c (by omega)], fun i hi => ?_, fun i _ => by rw [zsi_c (by omega)], fun i _ => by rw [zsi_c (by omega)]⟩
  rcases hc with z | z | z <;> subst z
  · exact ⟨zsi_o (by omega), by rw [zsi_c (by decide)], by rw [zsi_c (by decide)]⟩
  · exact ⟨by rw [zsi_c (by decide)], zsi_o (by omega), by rw [zsi_c (by decide)]⟩
  · exact ⟨by rw [zsi_c (by decide)], by rw [zsi_c (by decide)], zsi_o (by omega)⟩
theorem zm161f {N s : Nat} {ρ : zSt} (hs : s < 16) (hN : 600000 ≤ N) (h : ¬ ρ.1 0 27 = 0) : fX8_readStep_161 N (nI s) ρ = fX8_readStep_329 N N (nI s) 0 (zsi ρ 11 s 0) := by
  have e : (zsi ρ 11 s 0).1 0 27 = ρ.1 0 27 := by rw [zsi_c (by decide)]
  unfold fX8_readStep_161 fX8_readStep_180
  rw [zas_nI hs (by decide), e, if_neg h, zm182_0 N (by omega)]
/-- a fault in a step -/
theorem zoutF {N fk pos e len : Nat} {a : zA} {t : Nat → Nat} {σ ρ τ υ1 υx : zSt} (hN : 600000 ≤ N) (ho : zOk a) (h16 : a 0 1 < 16) (hr : ∀ k48, fX8_net_97 N k48 1937007984 0 ρ = zbnd (fX8_readStep N υ1) (fun _ σ2 => fX8_net_184 N k48 σ2)) (ex : fX8_readStep N υ1 = fX8_readStep_329 N N (nI (a 0 1)) 0 υx) (f1 : 1 ≤ fk) (f3 : fk ≤ 3) (s2 : τ.1 5 2 = nI pos) (u27 : υx.1 0 27 = nI fk) (u28 : υx.1 0 28 = nI pos) (hC : zCr σ a) (hM : zMr ρ a) (hfC : zfsC (a 0 1) σ τ) (hfM : zfsM (a 0 1) ρ υx) : zOut a σ ρ t len e (some (nI fk, τ)) (fun k48 => fX8_net_97 N k48 1937007984 0 ρ) := by
  obtain ⟨υ, r1, r2, r3, r4, r5⟩ := zm329 (N := N) h16 3 N 0 υx (by omega) (by omega)
  have r1 : fX8_readStep_329 N N (nI (a 0 1)) 0 υx = some ((), υ) := r1
  have hfM2 := zfsM_trans hfM (zm329fs r2 r3 r5)
  have v27 : υ.1 0 27 = nI fk := (r3 27 (by decide)).trans u27
  refine Or.inr ⟨fk, pos, τ, υ, f1, f3, rfl, fun k48 => ?_, s2, v27, (r3 28 (by decide)).trans u28, zCr_fs ho hC hfC, zMr_fs ho hM hfM2, zfsC_fc hfC, zfsM_fm hfM2⟩
  show fX8_net_97 N k48 1937007984 0 ρ = _
  rw [hr k48, ex, r1, zbnd_some, zm184f (by rw [v27]; exact nI_ne0 f1 (by omega))]
theorem zcisc {N w : Nat} {a : zA} {σ : zSt} (hc : zCN σ a) (ho : zOk a) (hw : w < 2 ^ 31) : fX2_isClaim N (nI w) σ = some (nI (if w < a 0 0 ∧ a 1 w = 2 then 1 else 0), σ) := by
  have h20 := ho.1
  by_cases q : w < a 0 0
  · rw [zcclaim1 hc ho q]
    by_cases v : a 1 w = 2
    · rw [if_pos v, if_pos ⟨q, v⟩]
    · rw [if_neg v, if_neg (fun z => v z.2)]
  · have e1 : fX2_hasNode N (nI w) σ = some (0, σ) := by
      unfold fX2_hasNode
      rw [hc.1, if_neg (nI_pos hw), if_pos (nI_le (by omega) hw)]; exact zrz_0
    unfold fX2_isClaim
    rw [e1, zbnd_some, if_pos rfl, if_neg (fun z => q z.1)]
    exact zrz_0
theorem zst_s {N q e k len : Nat} {a : zA} {t : Nat → Nat} {σ ρ : zSt} (hN : 600000 ≤ N) (h : zQx σ ρ a t len q e k) : zOut a σ ρ t len e (fX5_readStep N σ) (fun k48 => fX8_net_97 N k48 1937007984 0 ρ) := by
  have ho := h.1
  have h16' := ho.2.1
  have h20 := ho.1
  unfold fX5_readStep
  by_cases hn : a 0 1 = 16
  · refine Or.inr ⟨3, q, σ, _, by decide, by decide, ?_, (zm97 h).1 hn, h.2.2.2.2.2.1.2.2.1, (zbad_27 (by decide) (by decide)).1, zsi_s, ⟨h.2.1.2.2.2.1, h.2.1.2.2.2.2⟩, zMr_fr h.2.2.2.2.1 (fun c q1 q2 => by rw [zsi_c (by omega), zsi_c (by omega)]), zfc_rfl, zfmm_bad⟩
    rw [h.2.1.2.1, hn, if_neg (by decide)]
    rfl
  · have h16 : a 0 1 < 16 := by omega
    obtain ⟨τ1, υ1, q1, e1, k1, r1, r2, r3, r4, r5, r6, r7, r8⟩ := zQx_take (N := N) hN h
    have hr := (zm97 (N := N) h).2 h16 υ1 r2 r4.2.2.2.2.2.2
    obtain ⟨-, g2, g3, g4, g5, g6, g7⟩ := r4
    have hC : zCr σ a := ⟨h.2.1.2.2.2.1, h.2.1.2.2.2.2⟩
    have hM : zMr ρ a := h.2.2.2.2.1
    have fC1 : zfsC (a 0 1) σ τ1 := zfsC_5 r5 r6
    have fM1 : zfsM (a 0 1) ρ υ1 := zfsM_0 r7 (fun i i1 i2 => r8 i (by omega))
    have hform := zmform (N := N) g6 g4 hN
    have hf4 := zfo_lt (t := t) (q := q1) (e := e1) (k := k1)
    rw [h.2.1.2.1, if_pos (show nI (a 0 1) < (16 : Int32) from nI_lt (b := 16) h16 (by decide)), r1, zbnd_some, zcform g6 hN, zbnd_some]
    generalize zfo t q1 e1 k1 = f at *
    by_cases vf : f = 4
    · rw [if_pos vf] at hform ⊢
      rw [if_neg (by decide)]
      have u27 : (zsi υ1 9 (a 0 1) (-1000000)).1 0 27 = 0 := by rw [zsi_c (by decide)]; exact g7
      have u25 : (zsi υ1 9 (a 0 1) (-1000000)).1 0 25 = nI q1 := by rw [zsi_c (by decide)]; exact g6.2.2.2.2.2.2.2.2.1
      have hb : fX8_must N 0 (zsi υ1 9 (a 0 1) (-1000000)) = some ((), zsi (zsi (zsi υ1 9 (a 0 1) (-1000000)) 0 27 (nI 1)) 0 28 (nI q1)) := zmust0 u27 u25
      have b27 := zbad_27 (ρ := zsi υ1 9 (a 0 1) (-1000000)) (v := nI q1) (x := 1) (by decide) (by decide)
      have ex : fX8_readStep N υ1 = fX8_readStep_329 N N (nI (a 0 1)) 0 (zsi (zsi (zsi (zsi υ1 9 (a 0 1) (-1000000)) 0 27 (nI 1)) 0 28 (nI q1)) 11 (a 0 1) 0) := by
        rw [hform]
        unfold fX8_readStep_65 fX8_readStep_83
        rw [zas_nI h16 (by decide), zag_nI h16 (by decide), zsi_s, if_pos rfl, hb, zbnd_some, if_neg b27.2, zm161f h16 hN b27.2]
      exact zoutF (fk := 1) (pos := q1) hN ho h16 hr ex (by decide) (by decide) g6.2.2.1 (by rw [zsi_c (by decide)]; exact b27.1) (by rw [zsi_c (by decide), zsi_s]) hC hM fC1 (zfsM_trans fM1 (zfsM_trans (zfsM_w (c := 9) (by omega)) (zfsM_trans zfsM_bad (zfsM_w (c := 11) (by omega)))))
    · rw [if_neg vf] at hform ⊢
      have hf3 : f ≤ 3 := by omega
      rw [if_pos (nI_pos' (by omega))]
      -- the second token
      have hP2 : zPT τ1 (zsi υ1 9 (a 0 1) (nI f)) t len q1 e1 k1 := zPT_fr g6 rfl rfl (fun i _ _ => by rw [zsi_c (by decide)]) (zsi_c (by decide))
      obtain ⟨τ2, υ3, q2, e2, k2, p1, p2, p3, p4, p5, p6, p7, p8⟩ := ztake2 (N := N) hN hP2.1 hP2.2.1.2.1 hP2.2.2.2.1 hP2.2.2.2.2.2.2.1
      have k5 := zTk_5 p4.2.1
      have kr := zrt_lt k5
      have u27 : (zsi υ1 9 (a 0 1) (nI f)).1 0 27 = 0 := by rw [zsi_c (by decide)]; exact g7
      have v27 : υ3.1 0 27 = 0 := (p8 27 (by omega)).trans u27
      have v7 : υ3.1 0 7 = nI (a 0 0) := by rw [p8 7 (by omega), zsi_c (by decide)]; exact g3
      have v8 : υ3.1 0 8 = nI (a 0 1) := by rw [p8 8 (by omega), zsi_c (by decide)]; exact g4
      have fC2 : zfsC (a 0 1) σ τ2 := zfsC_trans fC1 (zfsC_5 p5 p6)
      have fM2 : zfsM (a 0 1) ρ υ3 := zfsM_trans fM1 (zfsM_trans (zfsM_w (c := 9) (v := nI f) (by omega)) (zfsM_0 p7 (fun i i1 i2 => p8 i (by omega))))
      have hc2 : zCN τ2 a := zCN_fr g2 (fun c c1 c2 => p5 c (by omega))
      have hnum := zmnum (N := N) p4 hN
      rw [p1, zbnd_some, p4.2.2.2.2.1]
      generalize hwd : (if k2 = 2 then znu t q2 (e2 - q2) else 0) = w at hnum
      have x24 : (zsi υ3 10 (a 0 1) (nI w)).1 0 24 = nI (zrt k2) := by rw [zsi_c (by decide)]; exact p4.2.2.2.2.2.2.2.1
      have x25 : (zsi υ3 10 (a 0 1) (nI w)).1 0 25 = nI q2 := by rw [zsi_c (by decide)]; exact p4.2.2.2.2.2.2.2.2.1
      have x27 : (zsi υ3 10 (a 0 1) (nI w)).1 0 27 = 0 := by rw [zsi_c (by decide)]; exact v27
      have x7 : (zsi υ3 10 (a 0 1) (nI w)).1 0 7 = nI (a 0 0) := by rw [zsi_c (by decide)]; exact v7
      have fM3 : zfsM (a 0 1) ρ (zsi υ3 10 (a 0 1) (nI w)) := zfsM_trans fM2 (zfsM_w (c := 10) (by omega))
      have e83 : fX8_readStep N υ1 = (if nI (zrt k2) = (3 : Int32) then (if nI (a 0 0) ≤ nI w then fX8_readStep_139 N (nI (a 0 1)) (zsi υ3 10 (a 0 1) (nI w)) else zag (zsi υ3 10 (a 0 1) (nI w)) 4 20 (nI w) (fun (v8 : Int32) => if v8 = (2 : Int32) then fX8_readStep_144 N (nI (a 0 1)) (zsi υ3 10 (a 0 1) (nI w)) else fX8_readStep_139 N (nI (a 0 1)) (zsi υ3 10 (a 0 1) (nI w)))) else fX8_readStep_144 N (nI (a 0 1)) (zsi υ3 10 (a 0 1) (nI w))) := by
        rw [hform]
        unfold fX8_readStep_65 fX8_readStep_83
        rw [zas_nI h16 (by decide), zag_nI h16 (by decide), zsi_s, if_neg (show ¬ nI f = -1000000 from zNone_ne (by omega)), zmustk u27 p2, zbnd_some, if_pos v27, hnum, zbnd_some, zas_nI h16 (by decide), x24, zag_nI h16 (by decide), zsi_s, x7, zag_nI h16 (by decide), zsi_s]
      have hb2 : fX8_bad N 2 (zsi υ3 10 (a 0 1) (nI w)) = some ((), zsi (zsi (zsi υ3 10 (a 0 1) (nI w)) 0 27 (nI 2)) 0 28 (nI q2)) := zbad0 x27 x25
      have b27 := zbad_27 (ρ := zsi υ3 10 (a 0 1) (nI w)) (v := nI q2) (x := 2) (by decide) (by decide)
      have e139 : fX8_readStep_139 N (nI (a 0 1)) (zsi υ3 10 (a 0 1) (nI w)) = fX8_readStep_329 N N (nI (a 0 1)) 0 (zsi (zsi (zsi (zsi υ3 10 (a 0 1) (nI w)) 0 27 (nI 2)) 0 28 (nI q2)) 11 (a 0 1) 0) := by
        unfold fX8_readStep_139 fX8_readStep_144 fX8_readStep_158
        rw [hb2, zbnd_some, zmust1 b27.2, zbnd_some, zmust1 b27.2, zbnd_some, zm161f h16 hN b27.2]
        split <;> rfl
      have no2 : fX8_readStep N υ1 = fX8_readStep_139 N (nI (a 0 1)) (zsi υ3 10 (a 0 1) (nI w)) → zOut a σ ρ t len e (some (nI 2, τ2)) (fun k48 => fX8_net_97 N k48 1937007984 0 ρ) := fun ex => zoutF (fk := 2) (pos := q2) hN ho h16 hr (ex.trans e139) (by decide) (by decide) p4.2.2.1 (by rw [zsi_c (by decide)]; exact b27.1) (by rw [zsi_c (by decide), zsi_s]) hC hM fC2 (zfsM_trans fM3 (zfsM_trans zfsM_bad (zfsM_w (c := 11) (by omega))))
      by_cases v : k2 = 2
      · have z3 : nI (zrt k2) = (3 : Int32) := by rw [v]; rfl
        rw [if_pos v] at hwd
        have hwb : w < 10000 := by rw [← hwd]; exact znu_b (by rw [← v]; exact p4.2.1)
        have s5 : τ2.1 5 5 = nI w := by rw [p4.2.2.2.2.2.1 v, hwd]
        rw [if_pos z3] at e83
        rw [if_pos (show nI k2 = (2 : Int32) by rw [v]; rfl), s5, zcisc hc2 ho (by omega), zbnd_some]
        by_cases wc : w < a 0 0 ∧ a 1 w = 2
        · rw [if_pos wc, if_neg (show ¬ nI 1 = (0 : Int32) by decide), s5]
          have w4 : (zsi υ3 10 (a 0 1) (nI w)).1 4 w = nI 2 := by
            rw [zsi_c (by decide), p7 4 (by decide), zsi_c (by decide), (g5.1 w wc.1).1, wc.2]
          rw [if_neg (nI_ge wc.1 (by omega)), zag_nI (by omega) (by decide), w4, if_pos (show nI 2 = (2 : Int32) from rfl)] at e83
          obtain ⟨τ3, t1, t2, t3, t4, t5⟩ := zcaddS (N := N) (f := f) (cl := w) (s := a 0 1) (σ := τ2) hN h16 hf3 hc2.2.1
          have hP3 : zPT τ3 (zsi υ3 10 (a 0 1) (nI w)) t len q2 e2 k2 := zPT_fr p4 t5 (t4.1 6 (by decide) (by decide) (by omega)) (fun i _ _ => by rw [zsi_c (by decide)]) (zsi_c (by decide))
          obtain ⟨τ4, υ5, q3, e3, k3, d1, d2, d3, d4, d5, d6, d7, d8⟩ := ztake2 (N := N) hN hP3.1 hP3.2.1.2.1 hP3.2.2.2.1 hP3.2.2.2.2.2.2.1
          have y27 : υ5.1 0 27 = 0 := (d8 27 (by omega)).trans x27
          have fC4 : zfsC (a 0 1) σ τ4 := zfsC_trans fC2 (zfsC_trans t4 (zfsC_5 d5 d6))
          have fM5 : zfsM (a 0 1) ρ (zsi υ5 11 (a 0 1) 0) := zfsM_trans fM3 (zfsM_trans (zfsM_0 d7 (fun i i1 i2 => d8 i (by omega))) (zfsM_w (c := 11) (by omega)))
          have e182 : fX8_readStep N υ1 = fX8_readStep_182 N N (nI (a 0 1)) 1 (zsi υ5 11 (a 0 1) 0) := by
            rw [e83]
            unfold fX8_readStep_144 fX8_readStep_158 fX8_readStep_161 fX8_readStep_180
            rw [x24, if_pos z3, zmustk x27 d2, zbnd_some, zas_nI h16 (by decide), show (zsi υ5 11 (a 0 1) 0).1 0 27 = 0 by rw [zsi_c (by decide)]; exact y27, if_pos rfl]
          rw [t1, zbnd_some, d1, zbnd_some]
          have hp : zPp τ4 (zsi υ5 11 (a 0 1) 0) a t len q3 e3 k3 f w 0 (fun _ => 0) := by
            have a13 : ∀ x, 13 ≤ x → x ≤ 19 → τ4.1 x = τ3.1 x := fun x x1 x2 => d5 x (by omega)
            refine ⟨ho, h16, zCr_fs ho hC fC4, fC4.2.2.1.trans h.2.1.1, by rw [d5 7 (by decide)]; exact t3, fC4.2.2.2.1.trans h.2.1.2.2.1, ?_, ?_, ?_, zMr_fs ho hM fM5, ⟨?_, ?_, zsi_s, fun j hj => absurd hj (Nat.not_lt_zero j)⟩, zPT_fr d4 rfl rfl (fun i _ _ => by rw [zsi_c (by decide)]) (zsi_c (by decide)), by rw [zsi_c (by decide)]; exact y27, by omega, fun j hj => absurd hj (Nat.not_lt_zero j), fun j i _ hi => absurd hi (Nat.not_lt_zero i)⟩
            · unfold zStC at *
              rw [a13 13 (by decide) (by decide), a13 14 (by decide) (by decide), a13 15 (by decide) (by decide), a13 16 (by decide) (by decide), a13 17 (by decide) (by decide), a13 18 (by decide) (by decide), a13 19 (by decide) (by decide)]
              exact t2
            · rw [zsi_c (by decide), d8 7 (by omega)]; exact x7
            · rw [zsi_c (by decide), d8 8 (by omega), zsi_c (by decide)]; exact v8
            · rw [zsi_c (by decide), d7 9 (by decide), zsi_c (by decide), p7 9 (by decide), zsi_s]
            · rw [zsi_c (by decide), d7 10 (by decide), zsi_s]
          rcases zpart2 (N := N) hN hp with ⟨fk, f1, f3, m1, m2⟩ | ⟨-, τ5, υ7, q4, e4, k4, G, m1, m2, m3, m4, m5, m6⟩
          · have ex : fX8_readStep N υ1 = fX8_readStep_329 N N (nI (a 0 1)) 0 (zsi (zsi (zsi υ5 11 (a 0 1) 0) 0 27 (nI fk)) 0 28 (nI q3)) := by
              have := m2 (N - 1)
              rw [show N - 1 + 1 = N by omega] at this
              rw [e182, this, zm182_0 _ (by omega)]
            rw [m1, zbnd_some, zc78f f1 f3 N (by omega)]
            exact zoutF (fk := fk) (pos := q3) hN ho h16 hr ex f1 f3 d4.2.2.1 (zbad_27 f1 f3).1 zsi_s hC hM fC4 (zfsM_trans fM5 zfsM_bad)
          · have ex := m2 (N - 1)
            rw [show N - 1 + 1 = N by omega] at ex
            have he4 := m3.2.2.2.2.2.2.2.2.2.2.2.1.2.1.1
            have he3 := d4.2.1.1
            have he2 := p4.2.1.1
            have he1 := g6.2.1.1
            rw [m1, zbnd_some]
            rcases zparts (N := N) (f := f) (cl := w) (a := a) (t := t) (len := len) hN 5 N (N - 1) 1 q4 e4 k4 G τ5 υ7 (by omega) (by omega) (by omega) (by omega) m3 with ⟨τ6, υ8, q5, e5, k5', c5, G5, n1, n2, n3, n4, n5, n6, n7⟩ | ⟨fk, pos, τ6, υ8, n1, n2, n3, n4, n5, n6, n7, n8, n9⟩
            · have n1 : fX5_readStep_78 N N (nI (a 0 1)) 0 0 τ5 = fX5_readStep_112 N 0 τ6 := n1
              obtain ⟨υ9, l1, l2, l3, l4, l5⟩ := zm329 (N := N) h16 3 N 0 υ8 (by omega) (by omega)
              have l1 : fX8_readStep_329 N N (nI (a 0 1)) 0 υ8 = some ((), υ9) := l1
              have ex2 : fX8_readStep N υ1 = some ((), υ9) := by rw [e182, ex, n2, l1]
              obtain ⟨-, -, i3, i4, i5, i6, i7, i8, i9, i10, i11, i12, i13, i14, i15, i16⟩ := n3
              have fC6 := zfsC_trans fC4 (zfsC_trans m5 n6)
              have fM8 := zfsM_trans fM5 (zfsM_trans m6 n7)
              have fM9 := zfsM_trans fM8 (zm329fs l2 l3 l5)
              have hQ : zQx τ6 υ9 (zns a f w c5 G5) t len q5 e5 k5' := by
                refine ⟨zns_ok ho h16 hf3 wc.1 wc.2 n4 i14 i15 i16, zns_C ho hf3 i14 i3 i7 i4 i5 i6, (l3 7 (by decide)).trans i8, ?_, zns_M ho (zMr_fs ho hM fM9) ?_ (fun kk hkk => by rw [l5, if_pos (by omega)]), zPT_fr i12 rfl rfl (fun i i1 i2 => l3 i (by omega)) (l2 14 (by decide) (by decide)), (l3 27 (by decide)).trans i13⟩
                · rw [l4, i9, nI_1]; rfl
                · unfold zStM at *
                  rw [l2 9 (by decide) (by decide), l2 10 (by decide) (by decide), l2 11 (by decide) (by decide), l2 12 (by decide) (by decide)]
                  exact i11
              refine zout_sign hN ho hQ zns_px (zfsC_fc fC6) (zfsM_fm fM9) (by omega) ?_ (fun k48 => ?_)
              · rw [n1]
                unfold fX5_readStep_112
                rw [if_pos rfl]
                cases hx : fX5_readSign N τ6 with
                | none => rfl
                | some p => rfl
              · rw [hr k48, ex2, zbnd_some]
            · have n3 : fX5_readStep_78 N N (nI (a 0 1)) 0 0 τ5 = some (nI fk, τ6) := n3
              rw [n3]
              exact zoutF (fk := fk) (pos := pos) hN ho h16 hr (by rw [e182, ex, n4]) n1 n2 n5 n6 n7 hC hM (zfsC_trans fC4 (zfsC_trans m5 n8)) (zfsM_trans fM5 (zfsM_trans m6 n9))
        · rw [if_neg wc, if_pos (show nI 0 = (0 : Int32) from rfl)]
          refine no2 ?_
          by_cases wn : w < a 0 0
          · have o1 := (ho.2.2.2.1 w wn).1
            have w4 : (zsi υ3 10 (a 0 1) (nI w)).1 4 w = nI (a 1 w) := by
              rw [zsi_c (by decide), p7 4 (by decide), zsi_c (by decide), (g5.1 w wn).1]
            rw [e83, if_neg (nI_ge wn (by omega)), zag_nI (by omega) (by decide), w4, if_neg (show ¬ nI (a 1 w) = (2 : Int32) from fun z => wc ⟨wn, (nI_eq (b := 2) (by omega) (by omega)).mp z⟩)]
          · rw [e83, if_pos (nI_le (by omega) (by omega))]
      · have z3 : ¬ nI (zrt k2) = (3 : Int32) := fun z => v ((zrt_3 k5).mp ((nI_eq (b := 3) (by omega) (by omega)).mp z))
        rw [if_neg z3] at e83
        rw [if_neg (show ¬ nI k2 = (2 : Int32) from fun z => v ((nI_eq (b := 2) (by omega) (by omega)).mp z))]
        have hb1 : fX8_must N 0 (zsi υ3 10 (a 0 1) (nI w)) = some ((), zsi (zsi (zsi υ3 10 (a 0 1) (nI w)) 0 27 (nI 1)) 0 28 (nI q2)) := zmust0 x27 x25
        have c27 := zbad_27 (ρ := zsi υ3 10 (a 0 1) (nI w)) (v := nI q2) (x := 1) (by decide) (by decide)
        have ex : fX8_readStep N υ1 = fX8_readStep_329 N N (nI (a 0 1)) 0 (zsi (zsi (zsi (zsi υ3 10 (a 0 1) (nI w)) 0 27 (nI 1)) 0 28 (nI q2)) 11 (a 0 1) 0) := by
          rw [e83]
          unfold fX8_readStep_144 fX8_readStep_158
          rw [x24, if_neg z3, hb1, zbnd_some, zm161f h16 hN c27.2]
        exact zoutF (fk := 1) (pos := q2) hN ho h16 hr ex (by decide) (by decide) p4.2.2.1 (by rw [zsi_c (by decide)]; exact c27.1) (by rw [zsi_c (by decide), zsi_s]) hC hM fC2 (zfsM_trans fM3 (zfsM_trans zfsM_bad (zfsM_w (c := 11) (by omega))))
