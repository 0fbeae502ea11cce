/-! ===== the whole text, and net ===== -/
theorem zbnd_id {S : Type} {o : Option (Int32 × S)} : zbnd o (fun (b : Int32) (s : S) => some (b, s)) = o := by
  cases o with
  | none => rfl
  | some p => rfl
theorem zsent2 {N q e k len : Nat} {a : zA} {t : Nat → Nat} {σ ρ : zSt} (hN : 600000 ≤ N) (h : zQx σ ρ a t len q e k) (hk0 : k ≠ 0) : ∃ rr : (zSt → Option (Int32 × zSt)) → Option (Int32 × zSt), zOut a σ ρ t len e (fX5_readSentence N σ) rr ∧ ∀ f, fX8_net_48 N (f + 1) ρ = rr (fX8_net_48 N f) := by
  have hk := zQx_k h
  have hP := h.2.2.2.2.2.1
  have hT := hP.2.1
  have m27 := h.2.2.2.2.2.2
  have u24 := hP.2.2.2.2.2.2.2.1
  have u25 := hP.2.2.2.2.2.2.2.2.1
  have c0 : (1818583398 : Int64) = lN (zpk (zwc 0) (zwl 0)) := by decide
  have c1 : (444150998382 : Int64) = lN (zpk (zwc 1) (zwl 1)) := by decide
  have c2 : (427020085613 : Int64) = lN (zpk (zwc 2) (zwl 2)) := by decide
  have c3 : (1937007984 : Int64) = lN (zpk (zwc 3) (zwl 3)) := by decide
  have turn : ∀ f, fX8_net_48 N (f + 1) ρ = (if lN (zwv t q e k) = (1818583398 : Int64) then fX8_net_92 N (fX8_net_48 N f) (lN (zwv t q e k)) ρ else if lN (zwv t q e k) = (444150998382 : Int64) then fX8_net_92 N (fX8_net_48 N f) (lN (zwv t q e k)) ρ else if lN (zwv t q e k) = (427020085613 : Int64) then fX8_net_92 N (fX8_net_48 N f) (lN (zwv t q e k)) ρ else fX8_net_97 N (fX8_net_48 N f) (lN (zwv t q e k)) (0 : Int32) ρ) := by
    intro f
    rw [fX8_net_48, if_pos m27, u24, if_neg (show ¬ nI (zrt k) = (1 : Int32) from fun z => hk0 ((zrt_1 hk.1).mp ((nI_eq (b := 1) (by omega) (by omega)).mp z))), zmword hP hN, zbnd_some]
  unfold fX5_readSentence
  rw [zcword hP (by decide) hN, zbnd_some]
  by_cases v0 : zwd t q e k 0 = true
  · have e0 : lN (zwv t q e k) = (1818583398 : Int64) := by rw [c0]; exact (zwv_iff hT (by decide)).mpr v0
    refine ⟨fun k48 => fX8_net_92 N k48 1818583398 ρ, ?_, fun f => ?_⟩
    · rw [v0, if_pos rfl, if_neg (show ¬ nI 1 = (0 : Int32) by decide), zbnd_id]
      exact zgr_s (srt := 0) hN (Or.inl ⟨rfl, rfl⟩) h
    · rw [turn f, if_pos e0, e0]
  · have e0 : ¬ lN (zwv t q e k) = (1818583398 : Int64) := by rw [c0]; exact fun z => v0 ((zwv_iff hT (by decide)).mp z)
    rw [if_neg v0, if_pos (show nI 0 = (0 : Int32) from rfl), zcword hP (by decide) hN, zbnd_some]
    by_cases v1 : zwd t q e k 1 = true
    · have e1 : lN (zwv t q e k) = (444150998382 : Int64) := by rw [c1]; exact (zwv_iff hT (by decide)).mpr v1
      refine ⟨fun k48 => fX8_net_92 N k48 444150998382 ρ, ?_, fun f => ?_⟩
      · rw [v1, if_pos rfl, if_neg (show ¬ nI 1 = (0 : Int32) by decide), zbnd_id]
        exact zgr_s (srt := 1) hN (Or.inr ⟨rfl, rfl⟩) h
      · rw [turn f, if_neg e0, if_pos e1, e1]
    · have e1 : ¬ lN (zwv t q e k) = (444150998382 : Int64) := by rw [c1]; exact fun z => v1 ((zwv_iff hT (by decide)).mp z)
      rw [if_neg v1, if_pos (show nI 0 = (0 : Int32) from rfl), zcword hP (by decide) hN, zbnd_some]
      by_cases v2 : zwd t q e k 2 = true
      · have e2 : lN (zwv t q e k) = (427020085613 : Int64) := by rw [c2]; exact (zwv_iff hT (by decide)).mpr v2
        refine ⟨fun k48 => fX8_net_92 N k48 427020085613 ρ, ?_, fun f => ?_⟩
        · rw [v2, if_pos rfl, if_neg (show ¬ nI 1 = (0 : Int32) by decide), zbnd_id]
          exact zcl_s hN h
        · rw [turn f, if_neg e0, if_neg e1, if_pos e2, e2]
      · have e2 : ¬ lN (zwv t q e k) = (427020085613 : Int64) := by rw [c2]; exact fun z => v2 ((zwv_iff hT (by decide)).mp z)
        rw [if_neg v2, if_pos (show nI 0 = (0 : Int32) from rfl), zcword hP (by decide) hN, zbnd_some]
        by_cases v3 : zwd t q e k 3 = true
        · have e3 : lN (zwv t q e k) = (1937007984 : Int64) := by rw [c3]; exact (zwv_iff hT (by decide)).mpr v3
          refine ⟨fun k48 => fX8_net_97 N k48 1937007984 0 ρ, ?_, fun f => ?_⟩
          · rw [v3, if_pos rfl, if_neg (show ¬ nI 1 = (0 : Int32) by decide), zbnd_id]
            exact zst_s hN h
          · rw [turn f, if_neg e0, if_neg e1, if_neg e2, e3]
        · have e3 : ¬ lN (zwv t q e k) = (1937007984 : Int64) := by rw [c3]; exact fun z => v3 ((zwv_iff hT (by decide)).mp z)
          have hb : fX8_must N 0 ρ = some ((), zsi (zsi ρ 0 27 (nI 1)) 0 28 (nI q)) := zmust0 m27 u25
          have b27 := zbad_27 (ρ := ρ) (v := nI q) (x := 1) (by decide) (by decide)
          refine ⟨fun k48 => fX8_net_97 N k48 (lN (zwv t q e k)) 0 ρ, Or.inr ⟨1, q, σ, _, by decide, by decide, ?_, fun k48 => ?_, hP.2.2.1, b27.1, zsi_s, ⟨h.2.1.2.2.2.1, h.2.1.2.2.2.2⟩, zMr_fr h.2.2.2.2.1 (fun c q1 q2 => by rw [zsi_c (by omega), zsi_c (by omega)]), zfc_rfl, zfmm_bad⟩, fun f => ?_⟩
          · rw [if_neg v3, if_pos (show nI 0 = (0 : Int32) from rfl)]
            rfl
          · show fX8_net_97 N k48 (lN (zwv t q e k)) 0 ρ = _
            unfold fX8_net_97 fX8_net_111 fX8_net_133 fX8_net_151 fX8_net_173
            rw [if_pos rfl, if_neg e3, if_pos rfl, if_neg e3, hb, zbnd_some, if_neg b27.2, if_neg b27.2, zm184f b27.2]
          · rw [turn f, if_neg e0, if_neg e1, if_neg e2]
theorem zc43 {N i : Nat} {σ : zSt} {x2 : Int32} (hx : ¬ x2 = 0) : ∀ F, 1 ≤ F → fX5_read_13 N F x2 (nI i) σ = some (x2, zsi σ 5 1 0)
  | F + 1, _ => by
    have e : fX5_read_43 N x2 σ = some (x2, zsi σ 5 1 0) := rfl
    rw [fX5_read_13, e, if_neg hx]
    by_cases v : (400 : Int32) ≤ nI i
    · rw [if_pos v]
    · rw [if_neg v]
      by_cases w : σ.1 5 4 = 0
      · rw [if_pos w]
      · rw [if_neg w]
theorem zread {N len : Nat} {a0 : zA} {t : Nat → Nat} {σ0 ρ0 : zSt} (hN : 600000 ≤ N) (ho0 : zOk a0) : ∀ (g f f' i q e k : Nat) (a : zA) (σ ρ : zSt), len ≤ q + g → g + 2 ≤ f → g + 2 ≤ f' → i ≤ q → zQx σ ρ a t len q e k → zPx a0 a → zfc σ0 σ → zfmm ρ0 ρ →
    (∃ a2 τ υ, fX5_read_13 N f 0 (nI i) σ = some (0, zsi τ 5 1 0) ∧ fX8_net_48 N f' ρ = fX8_net_211 N υ ∧ zOk a2 ∧ zCN τ a2 ∧ υ.1 0 7 = nI (a2 0 0) ∧ υ.1 0 8 = nI (a2 0 1) ∧ zMr υ a2 ∧ υ.1 0 27 = 0 ∧ zPx a0 a2 ∧ zfc σ0 τ ∧ zfmm ρ0 υ) ∨
    (∃ fk pos τ υ, 1 ≤ fk ∧ fk ≤ 3 ∧ fX5_read_13 N f 0 (nI i) σ = some (nI fk, zsi τ 5 1 0) ∧ fX8_net_48 N f' ρ = fX8_net_211 N υ ∧ τ.1 5 2 = nI pos ∧ υ.1 0 27 = nI fk ∧ υ.1 0 28 = nI pos ∧ zCr τ a0 ∧ zMr υ a0 ∧ zfc σ0 τ ∧ zfmm ρ0 υ) := by
  intro g
  induction g with
  | zero =>
    intro f f' i q e k a σ ρ hg hf hf' hi h hp hc hm
    have h' := h
    obtain ⟨h1, h2, h3, h4, h5, h6, h7⟩ := h'
    have hl := h6.1.1
    have hke := h6.2.1
    obtain ⟨f, rfl⟩ : ∃ f2, f = f2 + 1 := ⟨f - 1, by omega⟩
    obtain ⟨f', rfl⟩ : ∃ f2, f' = f2 + 1 := ⟨f' - 1, by omega⟩
    have k0 : k = 0 := by
      obtain ⟨y1, y2, y3⟩ := hke
      rcases y3 with z | z | z | z | z <;> omega
    have e43 : fX5_read_43 N 0 σ = some (0, zsi σ 5 1 0) := rfl
    refine Or.inl ⟨a, σ, ρ, ?_, ?_, h1, h2, h3, h4, h5, h7, hp, hc, hm⟩
    · rw [fX5_read_13, e43, h6.2.2.2.2.1, k0, if_pos (show nI 0 = (0 : Int32) from rfl)]
      by_cases v : (400 : Int32) ≤ nI i
      · rw [if_pos v]
      · rw [if_neg v]
    · rw [fX8_net_48, if_pos h7, h6.2.2.2.2.2.2.2.1, k0, if_pos (show nI (zrt 0) = (1 : Int32) from rfl)]
  | succ g ih =>
    intro f f' i q e k a σ ρ hg hf hf' hi h hp hc hm
    have h' := h
    obtain ⟨h1, h2, h3, h4, h5, h6, h7⟩ := h'
    have hl := h6.1.1
    have hke := h6.2.1
    have k5 := zTk_5 hke
    obtain ⟨f, rfl⟩ : ∃ f2, f = f2 + 1 := ⟨f - 1, by omega⟩
    obtain ⟨f', rfl⟩ : ∃ f2, f' = f2 + 1 := ⟨f' - 1, by omega⟩
    by_cases k0 : k = 0
    · have e43 : fX5_read_43 N 0 σ = some (0, zsi σ 5 1 0) := rfl
      refine Or.inl ⟨a, σ, ρ, ?_, ?_, h1, h2, h3, h4, h5, h7, hp, hc, hm⟩
      · rw [fX5_read_13, e43, h6.2.2.2.2.1, k0, if_pos (show nI 0 = (0 : Int32) from rfl)]
        by_cases v : (400 : Int32) ≤ nI i
        · rw [if_pos v]
        · rw [if_neg v]
      · rw [fX8_net_48, if_pos h7, h6.2.2.2.2.2.2.2.1, k0, if_pos (show nI (zrt 0) = (1 : Int32) from rfl)]
    · have hqe : q < e := by
        obtain ⟨y1, y2, y3⟩ := hke
        rcases y3 with z | z | z | z | z <;> omega
      have hel := hke.2.1
      obtain ⟨rr, hout, hrr⟩ := zsent2 (N := N) hN h k0
      rw [hrr f', fX5_read_13, if_neg (show ¬ (400 : Int32) ≤ nI i from nI_ge (b := 400) (by omega) (by omega)), h6.2.2.2.2.1, if_neg (nI_ne0 (by omega) (by omega)), if_pos rfl]
      rcases hout with ⟨a2, τ, υ, q', e', k', o1, o2, o3, o4, o5, o6, o7⟩ | ⟨fk, pos, τ, υ, o1, o2, o3, o4, o5, o6, o7, o8, o9, o10, o11⟩
      · rw [o1, zbnd_some, nI_1, o2]
        exact ih f f' (i + 1) q' e' k' a2 τ υ (by omega) (by omega) (by omega) (by omega) o3 (zPx_trans hp o5) (zfc_trans hc o6) (zfmm_trans hm o7)
      · have hne : ¬ nI fk = 0 := nI_ne0 o1 (by omega)
        obtain ⟨f', rfl⟩ : ∃ f2, f' = f2 + 1 := ⟨f' - 1, by omega⟩
        rw [o3, zbnd_some, nI_1, o4, zc43 hne f (by omega), fX8_net_48, o6, if_neg hne]
        exact Or.inr ⟨fk, pos, τ, υ, o1, o2, rfl, rfl, o5, o6, o7, zCr_px ho0 o8 hp, zMr_px ho0 o9 hp, zfc_trans hc o10, zfmm_trans hm o11⟩
theorem zp_net {N : Nat} (hN : 600000 ≤ N) : zP2 (fX7_net N) (fX8_net N) := by
  intro σ ρ hR
  obtain ⟨a, ho, hc, hm, ⟨cnt, lo, hi, has, nd, w1, w2, w3⟩, hS, ⟨len, l1, l2, l3, l4⟩, hF, hA⟩ := hR
  have h20 := ho.1
  have h16 := ho.2.1
  -- the tape
  obtain ⟨t, ht⟩ : ∃ t : Nat → Nat, ∀ i, i < len → t i < 256 ∧ ρ.1 14 i = nI (t i) ∧ σ.1 6 i = (nI (t i)).toInt8.toInt32 := by
    refine ⟨fun i => (ρ.1 14 i).toNatClampNeg, fun i hi => ?_⟩
    obtain ⟨b, b1, b2, b3⟩ := l4 i hi
    have e : (ρ.1 14 i).toNatClampNeg = b := by rw [b2]; exact nI_clamp (by omega)
    show (ρ.1 14 i).toNatClampNeg < 256 ∧ ρ.1 14 i = nI (ρ.1 14 i).toNatClampNeg ∧ σ.1 6 i = (nI (ρ.1 14 i).toNatClampNeg).toInt8.toInt32
    rw [e]
    exact ⟨b1, b2, b3⟩
  unfold fX7_net fX8_net fX5_read
  rw [znm_eq, znm_eq, hc.1, hc.2.1, zpf_eq, zpf_eq, zpf_eq, zpf_eq, zpf_eq, zpf_eq, zpf_eq, zpf_eq]
  have x20 : (zsi ρ 0 0 0).1 0 20 = nI len := (zsi_o (by decide)).trans l3
  rw [x20]
  have x5 : (zsi (zsi (zsi (zsi (zsi ρ 0 0 0) 0 22 (nI len)) 0 20 0) 0 23 0) 0 27 0).1 0 5 = nI (a 0 0) := by rw [zsi_o (by decide), zsi_o (by decide), zsi_o (by decide), zsi_o (by decide), zsi_o (by decide)]; exact hm.1
  rw [x5]
  have x6 : (zsi (zsi (zsi (zsi (zsi (zsi ρ 0 0 0) 0 22 (nI len)) 0 20 0) 0 23 0) 0 27 0) 0 7 (nI (a 0 0))).1 0 6 = nI (a 0 1) := by rw [zsi_o (by decide), zsi_o (by decide), zsi_o (by decide), zsi_o (by decide), zsi_o (by decide), zsi_o (by decide)]; exact hm.2.1
  rw [x6]
  generalize hρ : zsi (zsi (zsi (zsi (zsi (zsi (zsi ρ 0 0 0) 0 22 (nI len)) 0 20 0) 0 23 0) 0 27 0) 0 7 (nI (a 0 0))) 0 8 (nI (a 0 1)) = ρ7
  have pc : ∀ c, c ≠ 0 → ρ7.1 c = ρ.1 c := fun c h => by rw [← hρ, zsi_c h, zsi_c h, zsi_c h, zsi_c h, zsi_c h, zsi_c h, zsi_c h]
  have pi : ∀ i, i ≠ 0 → i ≠ 7 → i ≠ 8 → i ≠ 20 → i ≠ 22 → i ≠ 23 → i ≠ 27 → ρ7.1 0 i = ρ.1 0 i := fun i i0 i7 i8 i20 i22 i23 i27 => by rw [← hρ, zsi_o i8, zsi_o i7, zsi_o i27, zsi_o i23, zsi_o i20, zsi_o i22, zsi_o i0]
  have p8 : ρ7.1 0 8 = nI (a 0 1) := by rw [← hρ, zsi_s]
  have p7 : ρ7.1 0 7 = nI (a 0 0) := by rw [← hρ, zsi_o (by decide), zsi_s]
  have p27 : ρ7.1 0 27 = 0 := by rw [← hρ, zsi_o (by decide), zsi_o (by decide), zsi_s]
  have p23 : ρ7.1 0 23 = nI 0 := by rw [← hρ, zsi_o (by decide), zsi_o (by decide), zsi_o (by decide), zsi_s]; rfl
  have p20 : ρ7.1 0 20 = nI 0 := by rw [← hρ, zsi_o (by decide), zsi_o (by decide), zsi_o (by decide), zsi_o (by decide), zsi_s]; rfl
  have p22 : ρ7.1 0 22 = nI len := by rw [← hρ, zsi_o (by decide), zsi_o (by decide), zsi_o (by decide), zsi_o (by decide), zsi_o (by decide), zsi_s]
  have hT : zTp (zsi σ 5 3 0) ρ7 t len := ⟨l1, fun i hi => (ht i hi).1, (zsi_o (by decide)).trans l2, fun i hi => by rw [zsi_c (by decide)]; exact (ht i hi).2.2, p22, fun i hi => by rw [pc 14 (by decide)]; exact (ht i hi).2.1⟩
  obtain ⟨τ, υ, q, e, k, r1, r2, r3, r4, r5, r6, r7, r8⟩ := ztake2 (N := N) (p := 0) hN hT (Nat.zero_le _) zsi_s p23
  have hM0 : zMr ρ a := ⟨hm.2.2.2.1, hm.2.2.2.2⟩
  have hQ : zQx τ υ a t len q e k := ⟨ho, zCN_fr hc (fun c c1 c2 => by rw [r5 c (by omega), zsi_c (by omega)]), (r8 7 (by omega)).trans p7, (r8 8 (by omega)).trans p8, zMr_fr hM0 (fun c c1 c2 => by rw [r7 c (by omega), pc c (by omega)]), r4, (r8 27 (by omega)).trans p27⟩
  rw [r1, zbnd_some, r2, zbnd_some]
  have hfc : zfc σ τ := zfc_5 (fun c c1 => by rw [r5 c c1, zsi_c c1]) (by rw [r6, zsi_o (by decide)])
  have hql := r4.2.1.1
  have hel := r4.2.1.2.1
  have fin : ∀ (τ2 υ2 : zSt), zfc σ τ2 → zfmm ρ7 υ2 → ∀ (τ3 υ3 : zSt) (a2 : zA), zOk a2 → zCN τ3 a2 → zMN υ3 a2 → a 0 0 ≤ a2 0 0 → (∀ c, c ≠ 0 → c ≠ 5 → c ≠ 7 → τ3.1 c = τ2.1 c) → τ3.1 0 7 = τ2.1 0 7 → τ3.1 5 1 = nI 0 → (∀ c, c ≠ 0 → υ3.1 c = υ2.1 c) → (∀ i, i ≠ 5 → i ≠ 6 → i ≠ 21 → υ3.1 0 i = υ2.1 0 i) → τ3.1 0 6 = υ3.1 0 21 → zR τ3 υ3 := by
    intro τ2 υ2 f1 f2 τ3 υ3 a2 b1 b2 b3 b4 b5 b6 b7 b8 b9 b10
    have tc : ∀ c, c ≠ 0 → c ≠ 5 → (c < 7 ∨ 19 < c) → τ3.1 c = σ.1 c := fun c c0 c5 c7 => (b5 c c0 c5 (by omega)).trans (f1.1 c c5 c7)
    have uc : ∀ c, c ≠ 0 → (c < 4 ∨ 13 < c) → υ3.1 c = ρ.1 c := fun c c0 c4 => (b8 c c0).trans ((f2.1 c c0 c4).trans (pc c c0))
    have ui : ∀ i, i ≠ 0 → i ≠ 5 → i ≠ 6 → i ≠ 7 → i ≠ 8 → i ≠ 20 → i ≠ 21 → (i < 22 ∨ 28 < i) → υ3.1 0 i = ρ.1 0 i := fun i i0 i5 i6 i7 i8 i20 i21 i2 => (b9 i i5 i6 i21).trans ((f2.2 i i7 i8 (by omega)).trans (pi i i0 i7 i8 i20 (by omega) (by omega) (by omega)))
    refine ⟨a2, b1, b2, b3, ⟨cnt, lo, hi, has, nd, ?_, ?_, fun j hj => ?_⟩, ?_, ⟨0, by omega, b7, ?_, fun i hi => absurd hi (Nat.not_lt_zero i)⟩, ⟨b10, ?_⟩, ?_⟩
    · obtain ⟨y1, y2, y3, y4, y5⟩ := w1
      refine ⟨y1, ?_, fun j hj => ?_, fun j hj => ?_, y5⟩
      · rw [tc 23 (by decide) (by decide) (by omega)]; exact y2
      · rw [tc 25 (by decide) (by decide) (by omega), tc 26 (by decide) (by decide) (by omega)]; exact y3 j hj
      · rw [tc 27 (by decide) (by decide) (by omega), tc 28 (by decide) (by decide) (by omega)]; exact y4 j hj
    · obtain ⟨y1, y2, y3⟩ := w2
      refine ⟨y1, ?_, fun j hj => ?_⟩
      · rw [ui 31 (by decide) (by decide) (by decide) (by decide) (by decide) (by decide) (by decide) (by omega)]; exact y2
      · rw [uc 16 (by decide) (by omega), uc 17 (by decide) (by omega), uc 18 (by decide) (by omega)]; exact y3 j hj
    · obtain ⟨y1, y2, y3, y4⟩ := w3 j hj
      rw [tc 24 (by decide) (by decide) (by omega), uc 15 (by decide) (by omega)]
      exact ⟨y1, y2, by omega, y4⟩
    · unfold zRS
      rw [tc 2 (by decide) (by decide) (by omega), tc 3 (by decide) (by decide) (by omega), tc 4 (by decide) (by decide) (by omega), uc 1 (by decide) (by omega), uc 2 (by decide) (by omega), uc 3 (by decide) (by omega)]
      exact hS
    · rw [b9 20 (by decide) (by decide) (by decide), f2.2 20 (by decide) (by decide) (by omega)]
      exact p20
    · rw [b6, f1.1 0 (by decide) (by omega), ui 1 (by decide) (by decide) (by decide) (by decide) (by decide) (by decide) (by decide) (by omega)]
      exact hF.2
    · unfold zRA
      rw [tc 33 (by decide) (by decide) (by omega), tc 34 (by decide) (by decide) (by omega), ui 45 (by decide) (by decide) (by decide) (by decide) (by decide) (by decide) (by decide) (by omega), uc 22 (by decide) (by omega)]
      exact hA
  rcases zread (N := N) (a0 := a) (σ0 := σ) (ρ0 := ρ7) hN ho len N N 0 q e k a τ υ (by omega) (by omega) (by omega) (Nat.zero_le _) hQ zPx_rfl hfc (zfmm_0 r7 r8) with ⟨a2, τ2, υ2, s1, s2, s3, s4, s5, s6, s7, s8, s9, s10, s11⟩ | ⟨fk, pos, τ2, υ2, f1, f3, s1, s2, s3, s4, s5, s6, s7, s8, s9⟩
  · have s1 : fX5_read_13 N N 0 0 τ = some (0, zsi τ2 5 1 0) := s1
    unfold fX8_net_211 at s2
    rw [s1, zbnd_some, if_pos rfl, s2, s8, if_pos (by decide), zpf_eq, zpf_eq, s5, show (zsi υ2 0 5 (nI (a2 0 0))).1 0 8 = nI (a2 0 1) from (zsi_o (by decide)).trans s6]
    have ea : (zsi τ2 5 1 0).1 7 0 = nI (a2 0 0) := by rw [zsi_c (by decide)]; exact s4.1
    have eb : (zsi (zsi υ2 0 5 (nI (a2 0 0))) 0 6 (nI (a2 0 1))).1 0 5 = nI (a2 0 0) := (zsi_o (by decide)).trans zsi_s
    rw [ea, eb]
    refine ⟨_, _, _, rfl, rfl, fin τ2 υ2 s10 s11 _ _ a2 s3 (zCN_fr s4 (fun c c1 c2 => zsi_c (by omega))) ?_ s9.1 (fun c _ c5 _ => zsi_c c5) (by rw [zsi_c (by decide)]) zsi_s (fun c c0 => by rw [zsi_c c0, zsi_c c0]) (fun i i5 i6 _ => by rw [zsi_o i6, zsi_o i5]) ?_⟩
    · refine ⟨eb, zsi_s, ?_, (zMr_fr s7 (fun c c1 c2 => by rw [zsi_c (by omega), zsi_c (by omega)])).1, (zMr_fr s7 (fun c c1 c2 => by rw [zsi_c (by omega), zsi_c (by omega)])).2⟩
      rw [zsi_o (by decide), zsi_o (by decide), s11.2 29 (by decide) (by decide) (by omega), pi 29 (by decide) (by decide) (by decide) (by decide) (by decide) (by decide) (by decide), s9.2.2.1]
      exact hm.2.2.1
    · rw [zsi_c (by decide), s10.1 0 (by decide) (by omega), zsi_o (by decide), zsi_o (by decide), s11.2 21 (by decide) (by decide) (by omega), pi 21 (by decide) (by decide) (by decide) (by decide) (by decide) (by decide) (by decide)]
      exact hF.1
  · have s1 : fX5_read_13 N N 0 0 τ = some (nI fk, zsi τ2 5 1 0) := s1
    have hne : ¬ nI fk = 0 := nI_ne0 f1 (by omega)
    have hcut : ∀ σ', fX2_cutBack N (nI (a 0 0)) (nI (a 0 1)) σ' = some ((), zsi (zsi σ' 7 0 (nI (a 0 0))) 7 1 (nI (a 0 1))) := fun σ' => rfl
    unfold fX8_net_211 at s2
    rw [s1, zbnd_some, if_neg hne, hcut, zbnd_some, zpf_eq, s2, s4, if_neg (nI_nle (by omega) (by omega)), zpf_eq]
    have e1 : (zsi (zsi (zsi (zsi τ2 5 1 0) 7 0 (nI (a 0 0))) 7 1 (nI (a 0 1))) 0 6 (nI fk)).1 5 2 = nI pos := by
      rw [zsi_c (by decide), zsi_c (by decide), zsi_c (by decide), zsi_o (by decide)]; exact s3
    have e2 : (zsi υ2 0 21 (nI fk)).1 0 28 = nI pos := (zsi_o (by decide)).trans s5
    rw [e1, e2]
    have hCf : zCr (zsi (zsi (zsi (zsi τ2 5 1 0) 7 0 (nI (a 0 0))) 7 1 (nI (a 0 1))) 0 6 (nI fk)) a := zCr_fr s6 (fun c c1 c2 => by rw [zsi_c (by omega), zsi_c (by omega), zsi_c (by omega), zsi_c (by omega)])
    have hMf : zMr (zsi υ2 0 21 (nI fk)) a := zMr_fr s7 (fun c c1 c2 => zsi_c (by omega))
    refine ⟨_, _, _, rfl, rfl, fin τ2 υ2 s8 s9 _ _ a ho ⟨?_, ?_, ?_, hCf.1, hCf.2⟩ ⟨?_, ?_, ?_, hMf.1, hMf.2⟩ (Nat.le_refl _) (fun c c0 c5 c7 => by rw [zsi_c c0, zsi_c c7, zsi_c c7, zsi_c c5]) (by rw [zsi_o (by decide), zsi_c (by decide), zsi_c (by decide), zsi_c (by decide)]) (by rw [zsi_c (by decide), zsi_c (by decide), zsi_c (by decide), zsi_s]; rfl) (fun c c0 => zsi_c c0) (fun i _ _ i21 => zsi_o i21) (by rw [zsi_s, zsi_s])⟩
    · rw [zsi_c (by decide), zsi_o (by decide), zsi_s]
    · rw [zsi_c (by decide), zsi_s]
    · rw [zsi_c (by decide), zsi_o (by decide), zsi_o (by decide), zsi_c (by decide), s8.2.2]; exact hc.2.2.1
    · rw [zsi_o (by decide), s9.2 5 (by decide) (by decide) (by omega), pi 5 (by decide) (by decide) (by decide) (by decide) (by decide) (by decide) (by decide)]; exact hm.1
    · rw [zsi_o (by decide), s9.2 6 (by decide) (by decide) (by omega), pi 6 (by decide) (by decide) (by decide) (by decide) (by decide) (by decide) (by decide)]; exact hm.2.1
    · rw [zsi_o (by decide), s9.2 29 (by decide) (by decide) (by omega), pi 29 (by decide) (by decide) (by decide) (by decide) (by decide) (by decide) (by decide)]; exact hm.2.2.1
