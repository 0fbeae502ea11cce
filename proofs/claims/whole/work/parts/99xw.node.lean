/-! ===== sentences that tell a node ===== -/
theorem zsi_if {σ : zSt} {k i b : Nat} {v : Int32} : (zsi σ k i v).1 k b = if b = i then v else σ.1 k b := by
  by_cases q : b = i
  · rw [if_pos q, q, zsi_s]
  · rw [if_neg q, zsi_o q]
theorem zm92 {N q e k len : Nat} {a : zA} {t : Nat → Nat} {σ ρ : zSt} {y1 : Int64} (hy : ¬ y1 = 1937007984) (h : zQx σ ρ a t len q e k) : (a 0 0 = 20 → ∀ k48, fX8_net_92 N k48 y1 ρ = k48 (zsi (zsi ρ 0 27 (nI 3)) 0 28 (nI q))) ∧ (a 0 0 < 20 → ∀ υ, fX8_next N ρ = some ((), υ) → υ.1 0 27 = 0 → ∀ k48, fX8_net_92 N k48 y1 ρ = zbnd (fX8_readNode N y1 υ) (fun _ σ4 => fX8_net_184 N k48 σ4)) := by
  obtain ⟨h1, h2, h3, h4, h5, h6, h7⟩ := h
  have r25 := h6.2.2.2.2.2.2.2.2.1
  refine ⟨fun hn k48 => ?_, fun hn υ hx hu k48 => ?_⟩
  · have hb : fX8_bad N 3 ρ = some ((), zsi (zsi ρ 0 27 (nI 3)) 0 28 (nI q)) := zbad0 h7 r25
    have h27 := (zbad_27 (ρ := ρ) (v := nI q) (x := 3) (by decide) (by decide)).2
    unfold fX8_net_92 fX8_net_97 fX8_net_128 fX8_net_133 fX8_net_146 fX8_net_151 fX8_net_173
    rw [if_neg (show ¬ (1 : Int32) = 0 by decide), h3, hn, if_pos (show nI 20 = (20 : Int32) from rfl), hb, zbnd_some, if_neg (show ¬ (1 : Int32) = 0 by decide), zmust1 h27, zbnd_some, if_neg h27, if_neg h27, zm184f h27]
  · unfold fX8_net_92 fX8_net_97 fX8_net_111 fX8_net_133 fX8_net_146 fX8_net_151
    rw [if_neg (show ¬ (1 : Int32) = 0 by decide), h3, if_neg (show ¬ nI (a 0 0) = (20 : Int32) from fun z => by have := (nI_eq (b := 20) (by omega) (by omega)).mp z; omega), if_neg hy, if_neg (show ¬ (1 : Int32) = 0 by decide), zmustk h7 hx, zbnd_some, if_pos hu, if_neg (show ¬ (1 : Int32) = 0 by decide)]
theorem zm152 {N : Nat} {ρ : zSt} {x : Int32} (h : ¬ ρ.1 0 27 = 0) : fX8_readNode_149 N x ρ = some ((), zsi ρ 0 7 (ρ.1 0 7 + 1)) := by
  unfold fX8_readNode_149 fX8_readNode_152
  rw [zmust1 h, zbnd_some, zpf_eq]
theorem zgr_s {N srt q e k len : Nat} {a : zA} {t : Nat → Nat} {σ ρ : zSt} {y1 : Int64} (hN : 600000 ≤ N) (hy : (y1 = 1818583398 ∧ srt = 0) ∨ (y1 = 444150998382 ∧ srt = 1)) (h : zQx σ ρ a t len q e k) : zOut a σ ρ t len e (fX5_readGround N (nI srt) σ) (fun k48 => fX8_net_92 N k48 y1 ρ) := by
  have hst : ¬ y1 = 1937007984 := by rcases hy with z | z <;> rw [z.1] <;> decide
  have hcl : ¬ y1 = 427020085613 := by rcases hy with z | z <;> rw [z.1] <;> decide
  have hs2 : srt < 2 := by rcases hy with z | z <;> omega
  have ho := h.1
  have h20 := ho.1
  unfold fX5_readGround
  by_cases hn : a 0 0 = 20
  · refine Or.inr ⟨3, q, σ, _, by decide, by decide, ?_, (zm92 hst h).1 hn, h.2.2.2.2.2.1.2.2.1, (zbad_27 (by decide) (by decide)).1, zsi_s, ⟨h.2.1.2.2.2.1, h.2.1.2.2.2.2⟩, zMr_fr h.2.2.2.2.1 (fun c q1 q2 => by rw [zsi_c (by omega), zsi_c (by omega)]), zfc_rfl, zfmm_bad⟩
    rw [h.2.1.1, hn, if_neg (by decide)]
    rfl
  · have hn' : a 0 0 < 20 := by omega
    obtain ⟨τ, υ, q', e', k', r1, r2, r3, r4, r5, r6, r7, r8⟩ := zQx_take (N := N) hN h
    have hr := (zm92 (N := N) hst h).2 hn' υ r2 r4.2.2.2.2.2.2
    have hk := zQx_k r4
    obtain ⟨-, g2, g3, g4, g5, g6, g7⟩ := r4
    have s4 := g6.2.2.2.2.1
    have s3 := g6.2.2.2.1
    have s2 := g6.2.2.1
    have s5 := g6.2.2.2.2.2.1
    have u24 := g6.2.2.2.2.2.2.2.1
    have u25 := g6.2.2.2.2.2.2.2.2.1
    rw [h.2.1.1, if_pos (show nI (a 0 0) < (20 : Int32) from nI_lt (b := 20) hn' (by decide)), r1, zbnd_some, s4]
    -- the reference's writes
    have n0 : vp_nar .boolean (0 : Int32) = 0 := by decide
    have hPw : zPT τ (zwr υ (a 0 0) (nI srt) (-1000000) 0 9999) t len q' e' k' := zPT_fr g6 rfl rfl (fun i _ _ => by rw [zwr_c (by omega)]) (zwr_c (by omega))
    have hw := zmnum (N := N) hPw hN
    generalize hwd : (if k' = 2 then znu t q' (e' - q') else 0) = w at hw
    have er : fX8_readNode N y1 υ = (if nI (zrt k') = (3 : Int32) then (if nI w ≤ (9 : Int32) then fX8_readNode_135 N (zsi (zwr υ (a 0 0) (nI srt) (-1000000) 0 9999) 5 (a 0 0) (nI w)) else zbnd (fX8_bad N (2 : Int32) (zsi (zwr υ (a 0 0) (nI srt) (-1000000) 0 9999) 5 (a 0 0) (nI w))) (fun (b7 : Unit) (σ8 : zSt) => fX8_readNode_135 N σ8)) else fX8_readNode_135 N (zsi (zwr υ (a 0 0) (nI srt) (-1000000) 0 9999) 5 (a 0 0) (nI w))) := by
      have e35 : fX8_readNode N y1 υ = fX8_readNode_35 N y1 (nI (a 0 0)) (nI srt) (nI (a 0 0)) υ := by
        unfold fX8_readNode
        rw [znm_eq, g3]
        rcases hy with z | z
        · rw [if_pos z.1, z.2]; rfl
        · rw [if_neg (by rw [z.1]; decide), if_pos z.1, z.2]; rfl
      have et : (zsi (zwr υ (a 0 0) (nI srt) (-1000000) 0 9999) 5 (a 0 0) (nI w)).1 0 24 = nI (zrt k') := by
        rw [zsi_c (by decide), zwr_c (by omega)]; exact u24
      rw [e35, fX8_readNode_35, zas_nI hn' (by decide), zas_nI hn' (by decide), if_neg hcl, fX8_readNode_63, zas_nI hn' (by decide), if_neg hcl, fX8_readNode_85, zas_nI hn' (by decide), zas_nI hn' (by decide), if_neg hcl, n0]
      have hw : fX8_numberHere N (zsi (zsi (zsi (zsi (zsi υ 4 (a 0 0) (nI srt)) 5 (a 0 0) (-1000000)) 6 (a 0 0) 0) 7 (a 0 0) 9999) 8 (a 0 0) 0) = some (nI w, zwr υ (a 0 0) (nI srt) (-1000000) 0 9999) := hw
      rw [hw, zbnd_some, zas_nI hn' (by decide), et]
      by_cases v : nI (zrt k') = (3 : Int32)
      · rw [if_pos v, if_pos v, zag_nI hn' (by decide), zsi_s]
      · rw [if_neg v, if_neg v]
    generalize hG : zsi (zwr υ (a 0 0) (nI srt) (-1000000) 0 9999) 5 (a 0 0) (nI w) = υg at er
    have gc : ∀ c, (c < 4 ∨ 8 < c) → υg.1 c = υ.1 c := fun c hc => by rw [← hG, zsi_c (by omega), zwr_c hc]
    have gM : zMr υg (znn a srt w) := by
      refine zmadd (v5 := nI w) (v6 := nI 0) (v7 := nI 9999) g5 (Or.inl ⟨hs2, rfl, rfl, rfl⟩) (fun m => ?_) (fun m => ?_) (fun m => ?_) (fun m => ?_) (fun m => ?_) (fun c c1 c2 => gc c (by omega))
      · rw [← hG, zsi_c (by decide)]
        unfold zwr
        rw [zsi_c (by decide), zsi_c (by decide), zsi_c (by decide), zsi_c (by decide), zsi_if]
      · rw [← hG, zsi_if]
        unfold zwr
        rw [zsi_c (by decide), zsi_c (by decide), zsi_c (by decide), zsi_if, zsi_c (by decide)]
        by_cases z : m = a 0 0
        · rw [if_pos z, if_pos z]
        · rw [if_neg z, if_neg z, if_neg z]
      · rw [← hG, zsi_c (by decide)]
        unfold zwr
        rw [zsi_c (by decide), zsi_c (by decide), zsi_if, zsi_c (by decide), zsi_c (by decide)]
        rfl
      · rw [← hG, zsi_c (by decide)]
        unfold zwr
        rw [zsi_c (by decide), zsi_if, zsi_c (by decide), zsi_c (by decide), zsi_c (by decide)]
        rfl
      · rw [← hG, zsi_c (by decide)]
        unfold zwr
        rw [zsi_if, zsi_c (by decide), zsi_c (by decide), zsi_c (by decide), zsi_c (by decide)]
    have fg : zfmm υ υg := ⟨fun c c1 c2 => gc c (by omega), fun i _ _ _ => by rw [gc 0 (by omega)]⟩
    have f1 : zfmm ρ υg := zfmm_trans (zfmm_0 r7 r8) fg
    have g24 : υg.1 0 24 = nI (zrt k') := by rw [gc 0 (by omega)]; exact u24
    have g25 : υg.1 0 25 = nI q' := by rw [gc 0 (by omega)]; exact u25
    have g27 : υg.1 0 27 = 0 := by rw [gc 0 (by omega)]; exact g7
    have fault : ∀ x : Nat, 1 ≤ x → x ≤ 3 → fX8_readNode N y1 υ = some ((), zsi (zsi (zsi υg 0 27 (nI x)) 0 28 (nI q')) 0 7 ((zsi (zsi υg 0 27 (nI x)) 0 28 (nI q')).1 0 7 + 1)) → zOut a σ ρ t len e (some (nI x, τ)) (fun k48 => fX8_net_92 N k48 y1 ρ) := by
      intro x x1 x3 ex
      have b27 := zbad_27 (ρ := υg) (v := nI q') x1 x3
      have v27 : (zsi (zsi (zsi υg 0 27 (nI x)) 0 28 (nI q')) 0 7 ((zsi (zsi υg 0 27 (nI x)) 0 28 (nI q')).1 0 7 + 1)).1 0 27 = nI x := (zsi_o (by decide)).trans b27.1
      refine Or.inr ⟨x, q', τ, _, x1, x3, rfl, fun k48 => ?_, s2, v27, ?_, zCr_fr ⟨h.2.1.2.2.2.1, h.2.1.2.2.2.2⟩ (fun c q1 q2 => r5 c (by omega)), zMr_px ho (zMr_fr gM (fun c q1 q2 => ?_)) znn_px, zfc_5 r5 r6, zfmm_trans f1 (zfmm_trans (zfmm_bad (x := nI x) (v := nI q')) ⟨fun c c1 _ => zsi_c c1, fun i i1 _ _ => zsi_o i1⟩)⟩
      · show fX8_net_92 N k48 y1 ρ = _
        rw [hr k48, ex, zbnd_some, zm184f (by rw [v27, ← b27.1]; exact b27.2)]
      · rw [zsi_o (by decide), zsi_s]
      · rw [zsi_c (by omega), zsi_c (by omega), zsi_c (by omega)]
    by_cases v : k' = 2
    · have z3 : nI (zrt k') = (3 : Int32) := by rw [v]; rfl
      rw [if_pos v] at hwd
      have hwb : w < 10000 := by rw [← hwd]; exact znu_b (by rw [← v]; exact g6.2.1)
      have s5' : τ.1 5 5 = nI w := by rw [s5 v, hwd]
      rw [if_pos z3] at er
      rw [if_pos (show nI k' = (2 : Int32) by rw [v]; rfl), s5']
      by_cases w9 : w ≤ 9
      · obtain ⟨τ2, t1, t2, t3, t4⟩ := zcadd (N := N) (srt := srt) (hd := w) g2 hn'
        have hP2 : zPT τ2 υg t len q' e' k' := zPT_fr g6 (t3 5 (by omega)) (t3 6 (by omega)) (fun i _ _ => by rw [gc 0 (by omega)]) (gc 14 (by omega))
        obtain ⟨τ3, υ3, q2, e2, k2, p1, p2, p3, p4, p5, p6, p7, p8⟩ := ztake2 (N := N) hN hP2.1 hP2.2.1.2.1 hP2.2.2.2.1 hP2.2.2.2.2.2.2.1
        have e152 : fX8_readNode N y1 υ = some ((), zsi υ3 0 7 (nI (a 0 0 + 1))) := by
          rw [er, if_pos (show nI w ≤ (9 : Int32) from nI_le (b := 9) w9 (by decide))]
          unfold fX8_readNode_135 fX8_readNode_149 fX8_readNode_152
          rw [g24, if_pos z3, zmustk g27 p2, zbnd_some, zpf_eq, show υ3.1 0 7 = nI (a 0 0) by rw [p8 7 (by omega), gc 0 (by omega)]; exact g3, nI_1]
        have hQ : zQx τ3 (zsi υ3 0 7 (nI (a 0 0 + 1))) (znn a srt w) t len q2 e2 k2 := by
          refine ⟨znn_ok ho hn' (by omega) w9, zCN_fr t2 (fun c q1 q2 => p5 c (by omega)), zsi_s, ?_, zMr_fr gM (fun c q1 q2 => by rw [zsi_c (by omega)]; exact p7 c (by omega)), zPT_fr p4 rfl rfl (fun i i1 i2 => zsi_o (by omega)) (zsi_c (by decide)), ?_⟩
          · rw [zsi_o (by decide), p8 8 (by omega), gc 0 (by omega)]; exact g4
          · rw [zsi_o (by decide), p8 27 (by omega)]; exact g27
        have he' := g6.2.1.1
        have he2 := p4.2.1.1
        refine zout_sign hN ho hQ znn_px (zfc_trans (zfc_5 r5 r6) (zfc_trans ⟨fun c c1 c2 => t3 c (by omega), by rw [t3 5 (by omega)], t4⟩ (zfc_5 p5 p6))) (zfmm_trans f1 (zfmm_trans (zfmm_0 p7 p8) ⟨fun c c1 _ => zsi_c c1, fun i i1 _ _ => zsi_o i1⟩)) (by omega) ?_ (fun k48 => ?_)
        · rw [if_pos (show nI w ≤ (9 : Int32) from nI_le (b := 9) w9 (by decide)), t1, zbnd_some, p1, zbnd_some]
          cases hx : fX5_readSign N τ3 with
          | none => rfl
          | some p => rfl
        · rw [hr k48, e152, zbnd_some]
      · have w9' : ¬ nI w ≤ (9 : Int32) := nI_ge (a := 9) (by omega) (by omega)
        rw [if_neg w9']
        refine fault 2 (by decide) (by decide) ?_
        have hb : fX8_bad N 2 υg = some ((), zsi (zsi υg 0 27 (nI 2)) 0 28 (nI q')) := zbad0 g27 g25
        have b24 : (zsi (zsi υg 0 27 (nI 2)) 0 28 (nI q')).1 0 24 = nI (zrt k') := by rw [zsi_o (by decide), zsi_o (by decide)]; exact g24
        rw [er, if_neg w9', hb, zbnd_some]
        unfold fX8_readNode_135
        rw [b24, if_pos z3, zm152 (zbad_27 (by decide) (by decide)).2]
    · have z3 : ¬ nI (zrt k') = (3 : Int32) := fun z => v ((zrt_3 hk.1).mp ((nI_eq (b := 3) (by omega) (by omega)).mp z))
      rw [if_neg z3] at er
      rw [if_neg (show ¬ nI k' = (2 : Int32) from fun z => v ((nI_eq (b := 2) (by omega) (by omega)).mp z))]
      refine fault 1 (by decide) (by decide) ?_
      have hb : fX8_must N 0 υg = some ((), zsi (zsi υg 0 27 (nI 1)) 0 28 (nI q')) := zmust0 g27 g25
      rw [er]
      unfold fX8_readNode_135 fX8_readNode_149 fX8_readNode_152
      rw [g24, if_neg z3, hb, zbnd_some, zpf_eq]
theorem zcl_s {N q e k len : Nat} {a : zA} {t : Nat → Nat} {σ ρ : zSt} (hN : 600000 ≤ N) (h : zQx σ ρ a t len q e k) : zOut a σ ρ t len e (fX5_readClaim N σ) (fun k48 => fX8_net_92 N k48 427020085613 ρ) := by
  have hst : ¬ (427020085613 : Int64) = 1937007984 := by decide
  have ho := h.1
  have h20 := ho.1
  unfold fX5_readClaim
  by_cases hn : a 0 0 = 20
  · refine Or.inr ⟨3, q, σ, _, by decide, by decide, ?_, (zm92 hst h).1 hn, h.2.2.2.2.2.1.2.2.1, (zbad_27 (by decide) (by decide)).1, zsi_s, ⟨h.2.1.2.2.2.1, h.2.1.2.2.2.2⟩, zMr_fr h.2.2.2.2.1 (fun c q1 q2 => by rw [zsi_c (by omega), zsi_c (by omega)]), zfc_rfl, zfmm_bad⟩
    rw [h.2.1.1, hn, if_neg (by decide)]
    rfl
  · have hn' : a 0 0 < 20 := by omega
    obtain ⟨h1, h2, h3, h4, h5, h6, h7⟩ := h
    obtain ⟨τ, t1, t2, t3, t4⟩ := zcadd (N := N) (srt := 2) (hd := 0) h2 hn'
    have t1 : fX2_addNode N 2 0 σ = some ((), τ) := t1
    have hP : zPT τ ρ t len q e k := zPT_fr h6 (t3 5 (by omega)) (t3 6 (by omega)) (fun _ _ _ => rfl) rfl
    obtain ⟨τ2, υ, q', e', k', p1, p2, p3, p4, p5, p6, p7, p8⟩ := ztake2 (N := N) hN hP.1 hP.2.1.2.1 hP.2.2.2.1 hP.2.2.2.2.2.2.1
    have u27 : υ.1 0 27 = 0 := (p8 27 (by omega)).trans h7
    have hr := (zm92 (N := N) hst ⟨h1, h2, h3, h4, h5, h6, h7⟩).2 hn' υ p2 u27
    have u7 : υ.1 0 7 = nI (a 0 0) := (p8 7 (by omega)).trans h3
    have n0 : vp_nar .boolean (0 : Int32) = 0 := by decide
    have er : fX8_readNode N 427020085613 υ = some ((), zsi (zwr υ (a 0 0) (nI 2) (-1000000) (-1000000) (-1000000)) 0 7 (nI (a 0 0 + 1))) := by
      have e7 : (zwr υ (a 0 0) (nI 2) (-1000000) (-1000000) (-1000000)).1 0 7 = nI (a 0 0) := by rw [zwr_c (by omega)]; exact u7
      unfold fX8_readNode
      rw [znm_eq, u7, if_neg (by decide), if_neg (by decide), fX8_readNode_35, zas_nI hn' (by decide), zas_nI hn' (by decide), if_pos rfl, fX8_readNode_63, zas_nI hn' (by decide), if_pos rfl, fX8_readNode_85, zas_nI hn' (by decide), zas_nI hn' (by decide), if_pos rfl, n0]
      unfold fX8_readNode_152
      show some ((), zsi (zwr υ (a 0 0) (nI 2) (-1000000) (-1000000) (-1000000)) 0 7 ((zwr υ (a 0 0) (nI 2) (-1000000) (-1000000) (-1000000)).1 0 7 + 1)) = _
      rw [e7, nI_1]
    have hMu : zMr υ a := zMr_fr h5 (fun c q1 q2 => p7 c (by omega))
    have gM : zMr (zwr υ (a 0 0) (nI 2) (-1000000) (-1000000) (-1000000)) (znn a 2 0) := by
      unfold zwr
      refine zmadd (v5 := -1000000) (v6 := -1000000) (v7 := -1000000) hMu (Or.inr ⟨rfl, rfl, rfl, rfl⟩) (fun m => ?_) (fun m => ?_) (fun m => ?_) (fun m => ?_) (fun m => ?_) (fun c c1 c2 => ?_)
      · rw [zsi_c (by decide), zsi_c (by decide), zsi_c (by decide), zsi_c (by decide), zsi_if]
      · rw [zsi_c (by decide), zsi_c (by decide), zsi_c (by decide), zsi_if, zsi_c (by decide)]
      · rw [zsi_c (by decide), zsi_c (by decide), zsi_if, zsi_c (by decide), zsi_c (by decide)]
      · rw [zsi_c (by decide), zsi_if, zsi_c (by decide), zsi_c (by decide), zsi_c (by decide)]
      · rw [zsi_if, zsi_c (by decide), zsi_c (by decide), zsi_c (by decide), zsi_c (by decide)]
      · rw [zsi_c (by omega), zsi_c (by omega), zsi_c (by omega), zsi_c (by omega), zsi_c (by omega)]
    have hQ : zQx τ2 (zsi (zwr υ (a 0 0) (nI 2) (-1000000) (-1000000) (-1000000)) 0 7 (nI (a 0 0 + 1))) (znn a 2 0) t len q' e' k' := by
      refine ⟨znn_ok ho hn' (by omega) (by omega), zCN_fr t2 (fun c q1 q2 => p5 c (by omega)), zsi_s, ?_, zMr_fr gM (fun c q1 q2 => zsi_c (by omega)), zPT_fr p4 rfl rfl (fun i i1 i2 => by rw [zsi_o (by omega), zwr_c (by omega)]) (by rw [zsi_c (by decide), zwr_c (by omega)]), ?_⟩
      · rw [zsi_o (by decide), zwr_c (by omega)]; exact (p8 8 (by omega)).trans h4
      · rw [zsi_o (by decide), zwr_c (by omega)]; exact u27
    have he' := p4.2.1.1
    refine zout_sign hN ho hQ znn_px (zfc_trans ⟨fun c c1 c2 => t3 c (by omega), by rw [t3 5 (by omega)], t4⟩ (zfc_5 p5 p6)) (zfmm_trans (zfmm_0 p7 p8) ⟨fun c c1 c2 => by rw [zsi_c c1, zwr_c (by omega)], fun i i1 _ _ => by rw [zsi_o i1, zwr_c (by omega)]⟩) (by omega) ?_ (fun k48 => ?_)
    · rw [h2.1, if_pos (show nI (a 0 0) < (20 : Int32) from nI_lt (b := 20) hn' (by decide)), t1, zbnd_some, p1, zbnd_some]
      cases hx : fX5_readSign N τ2 with
      | none => rfl
      | some p => rfl
    · show fX8_net_92 N k48 427020085613 ρ = _
      rw [hr k48, er, zbnd_some]
