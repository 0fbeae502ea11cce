/-! ===== a step's parts ===== -/
def zfsC (s : Nat) (σ τ : zSt) : Prop := (∀ c, c ≠ 5 → c ≠ 7 → (c < 13 ∨ 19 < c) → τ.1 c = σ.1 c) ∧ τ.1 5 1 = σ.1 5 1 ∧ τ.1 7 0 = σ.1 7 0 ∧ τ.1 7 2 = σ.1 7 2 ∧ (∀ i, i < s → τ.1 13 i = σ.1 13 i ∧ τ.1 14 i = σ.1 14 i ∧ τ.1 15 i = σ.1 15 i ∧ τ.1 16 i = σ.1 16 i ∧ τ.1 18 i = σ.1 18 i) ∧ (∀ i, i < 6 * s → τ.1 17 i = σ.1 17 i) ∧ ∀ i, i < 3 * s → τ.1 19 i = σ.1 19 i
def zfsM (s : Nat) (ρ υ : zSt) : Prop := (∀ c, c ≠ 0 → (c < 9 ∨ 13 < c) → υ.1 c = ρ.1 c) ∧ (∀ i, i ≠ 8 → (i < 23 ∨ 28 < i) → υ.1 0 i = ρ.1 0 i) ∧ (∀ i, i < s → υ.1 9 i = ρ.1 9 i ∧ υ.1 10 i = ρ.1 10 i ∧ υ.1 11 i = ρ.1 11 i) ∧ (∀ i, i < 6 * s → υ.1 12 i = ρ.1 12 i) ∧ ∀ i, i < 3 * s → υ.1 13 i = ρ.1 13 i
theorem zfsC_rfl {s : Nat} {σ : zSt} : zfsC s σ σ := ⟨fun _ _ _ _ => rfl, rfl, rfl, rfl, fun _ _ => ⟨rfl, rfl, rfl, rfl, rfl⟩, fun _ _ => rfl, fun _ _ => rfl⟩
theorem zfsM_rfl {s : Nat} {σ : zSt} : zfsM s σ σ := ⟨fun _ _ _ => rfl, fun _ _ _ => rfl, fun _ _ => ⟨rfl, rfl, rfl⟩, fun _ _ => rfl, fun _ _ => rfl⟩
theorem zfsC_trans {s : Nat} {σ τ υ : zSt} (h : zfsC s σ τ) (h' : zfsC s τ υ) : zfsC s σ υ := by
  obtain ⟨a1, a2, a3, a4, a5, a6, a7⟩ := h
  obtain ⟨b1, b2, b3, b4, b5, b6, b7⟩ := h'
  refine ⟨fun c x y z => (b1 c x y z).trans (a1 c x y z), b2.trans a2, b3.trans a3, b4.trans a4, fun i hi => ?_, fun i hi => (b6 i hi).trans (a6 i hi), fun i hi => (b7 i hi).trans (a7 i hi)⟩
  obtain ⟨c1, c2, c3, c4, c5⟩ := a5 i hi
  obtain ⟨d1, d2, d3, d4, d5⟩ := b5 i hi
  exact ⟨d1.trans c1, d2.trans c2, d3.trans c3, d4.trans c4, d5.trans c5⟩
theorem zfsM_trans {s : Nat} {σ τ υ : zSt} (h : zfsM s σ τ) (h' : zfsM s τ υ) : zfsM s σ υ := by
  obtain ⟨a1, a2, a5, a6, a7⟩ := h
  obtain ⟨b1, b2, b5, b6, b7⟩ := h'
  refine ⟨fun c x y => (b1 c x y).trans (a1 c x y), fun i x y => (b2 i x y).trans (a2 i x y), fun i hi => ?_, fun i hi => (b6 i hi).trans (a6 i hi), fun i hi => (b7 i hi).trans (a7 i hi)⟩
  obtain ⟨c1, c2, c3⟩ := a5 i hi
  obtain ⟨d1, d2, d3⟩ := b5 i hi
  exact ⟨d1.trans c1, d2.trans c2, d3.trans c3⟩
theorem zfsC_5 {s : Nat} {σ τ : zSt} (h : ∀ c, c ≠ 5 → τ.1 c = σ.1 c) (h1 : τ.1 5 1 = σ.1 5 1) : zfsC s σ τ := ⟨fun c a _ _ => h c a, h1, by rw [h 7 (by decide)], by rw [h 7 (by decide)], fun i _ => by rw [h 13 (by decide), h 14 (by decide), h 15 (by decide), h 16 (by decide), h 18 (by decide)]; exact ⟨rfl, rfl, rfl, rfl, rfl⟩, fun i _ => by rw [h 17 (by decide)], fun i _ => by rw [h 19 (by decide)]⟩
theorem zfsM_0 {s : Nat} {ρ υ : zSt} (h : ∀ c, c ≠ 0 → υ.1 c = ρ.1 c) (h0 : ∀ i, i ≠ 8 → (i < 23 ∨ 28 < i) → υ.1 0 i = ρ.1 0 i) : zfsM s ρ υ := ⟨fun c a _ => h c a, h0, fun i _ => by rw [h 9 (by decide), h 10 (by decide), h 11 (by decide)]; exact ⟨rfl, rfl, rfl⟩, fun i _ => by rw [h 12 (by decide)], fun i _ => by rw [h 13 (by decide)]⟩
theorem zfsM_bad {s : Nat} {ρ : zSt} {x v : Int32} : zfsM s ρ (zsi (zsi ρ 0 27 x) 0 28 v) := zfsM_0 (fun c a => by rw [zsi_c a, zsi_c a]) (fun i _ b => by rw [zsi_o (by omega), zsi_o (by omega)])
theorem zfsC_fc {s : Nat} {σ τ : zSt} (h : zfsC s σ τ) : zfc σ τ := ⟨fun c a b => h.1 c a (by omega) (by omega), h.2.1, h.2.2.2.1⟩
theorem zfsM_fm {s : Nat} {σ τ : zSt} (h : zfsM s σ τ) : zfmm σ τ := ⟨fun c a b => h.1 c a (by omega), fun i _ b c => h.2.1 i b c⟩
theorem zCr_fs {σ τ : zSt} {a : zA} (ho : zOk a) (h : zCr σ a) (hf : zfsC (a 0 1) σ τ) : zCr τ a := by
  obtain ⟨f1, f2, f3, f4, f5, f6, f7⟩ := hf
  refine ⟨fun n hn => ?_, fun s hs => ?_⟩
  · have := h.1 n hn
    unfold zCNd at *
    rw [f1 8 (by decide) (by decide) (by omega), f1 9 (by decide) (by decide) (by omega), f1 10 (by decide) (by decide) (by omega), f1 11 (by decide) (by decide) (by omega), f1 12 (by decide) (by decide) (by omega)]
    exact this
  · obtain ⟨c1, c2, c3, c4, c5, c6, c7⟩ := h.2 s hs
    obtain ⟨x1, x2, x3, x4, x5⟩ := f5 s hs
    have o5 := (ho.2.2.2.2 s hs).2.2.2.2.1
    exact ⟨x1.trans c1, x2.trans c2, x3.trans c3, x4.trans c4, x5.trans c5, fun j hj => (f6 _ (by omega)).trans (c6 j hj), fun k hk => (f7 _ (by omega)).trans (c7 k hk)⟩
theorem zMr_fs {ρ υ : zSt} {a : zA} (ho : zOk a) (h : zMr ρ a) (hf : zfsM (a 0 1) ρ υ) : zMr υ a := by
  obtain ⟨f1, f2, f5, f6, f7⟩ := hf
  refine ⟨fun n hn => ?_, fun s hs => ?_⟩
  · have := h.1 n hn
    unfold zMNd at *
    rw [f1 4 (by decide) (by omega), f1 5 (by decide) (by omega), f1 6 (by decide) (by omega), f1 7 (by decide) (by omega), f1 8 (by decide) (by omega)]
    exact this
  · obtain ⟨c1, c2, c3, c6, c7⟩ := h.2 s hs
    obtain ⟨x1, x2, x3⟩ := f5 s hs
    have o5 := (ho.2.2.2.2 s hs).2.2.2.2.1
    exact ⟨x1.trans c1, x2.trans c2, x3.trans c3, fun j hj => (f6 _ (by omega)).trans (c6 j hj), fun k hk => (f7 _ (by omega)).trans (c7 k hk)⟩
def zStC (σ : zSt) (s f cl c : Nat) (G : Nat → Nat) : Prop := σ.1 13 s = nI f ∧ σ.1 14 s = nI cl ∧ σ.1 15 s = nI c ∧ σ.1 16 s = nI (zS (zim G c)) ∧ σ.1 18 s = nI (zdo f) ∧ (∀ j, j < c → σ.1 17 (6 * s + j) = nI (G j)) ∧ ∀ k, k < 3 → σ.1 19 (3 * s + k) = 0
def zStM (ρ : zSt) (s f cl c : Nat) (G : Nat → Nat) : Prop := ρ.1 9 s = nI f ∧ ρ.1 10 s = nI cl ∧ ρ.1 11 s = nI c ∧ ∀ j, j < c → ρ.1 12 (6 * s + j) = nI (G j)
/-- both sides within a step's parts -/
def zPp (σ ρ : zSt) (a : zA) (t : Nat → Nat) (len q e k f cl c : Nat) (G : Nat → Nat) : Prop := zOk a ∧ a 0 1 < 16 ∧ zCr σ a ∧ σ.1 7 0 = nI (a 0 0) ∧ σ.1 7 1 = nI (a 0 1 + 1) ∧ σ.1 7 2 = nI (a 0 2) ∧ zStC σ (a 0 1) f cl c G ∧ ρ.1 0 7 = nI (a 0 0) ∧ ρ.1 0 8 = nI (a 0 1) ∧ zMr ρ a ∧ zStM ρ (a 0 1) f cl c G ∧ zPT σ ρ t len q e k ∧ ρ.1 0 27 = 0 ∧ c ≤ 6 ∧ (∀ j, j < c → G j < a 0 0) ∧ ∀ j i, j < i → i < c → G j ≠ G i
/-- a fault among the parts: the reference's way on -/
theorem zm263f {N : Nat} {ρ : zSt} {x1 x5 x : Int32} {k182 : Int32 → Int32 → zSt → Option (Unit × zSt)} (h : ¬ ρ.1 0 27 = 0) : fX8_readStep_263 N k182 x1 x5 x ρ = k182 x1 0 ρ := by
  unfold fX8_readStep_263 fX8_readStep_301
  rw [zmust1 h, zbnd_some, if_neg h, if_neg h]
theorem zm249f {N : Nat} {ρ : zSt} {x1 x5 : Int32} {k182 : Int32 → Int32 → zSt → Option (Unit × zSt)} (h : ¬ ρ.1 0 27 = 0) : fX8_readStep_249 N k182 x1 x5 ρ = k182 x1 0 ρ := by
  unfold fX8_readStep_249
  by_cases v : ρ.1 0 24 = (3 : Int32)
  · rw [if_pos v, zm263f h]
  · rw [if_neg v, zm263f h]
theorem zm225f {N s : Nat} {ρ : zSt} {x5 : Int32} {k182 : Int32 → Int32 → zSt → Option (Unit × zSt)} (hs : s < 16) (h : ¬ ρ.1 0 27 = 0) : fX8_readStep_225 N k182 (nI s) x5 ρ = k182 (nI s) 0 ρ := by
  unfold fX8_readStep_225
  by_cases v : ρ.1 0 24 = (3 : Int32)
  · rw [if_pos v, zag_nI hs (by decide)]
    by_cases w : ρ.1 11 s = (6 : Int32)
    · rw [if_pos w, zbad1 h, zbnd_some, zm249f h]
    · rw [if_neg w, zm249f h]
  · rw [if_neg v, zm249f h]
theorem zpart2 {N q e k f cl c len : Nat} {a : zA} {G t : Nat → Nat} {σ ρ : zSt} (hN : 600000 ≤ N) (h : zPp σ ρ a t len q e k f cl c G) : (∃ fk, 1 ≤ fk ∧ fk ≤ 3 ∧ fX5_readPart N (nI (a 0 1)) σ = some (nI fk, σ) ∧ ∀ F, fX8_readStep_182 N (F + 1) (nI (a 0 1)) 1 ρ = fX8_readStep_182 N F (nI (a 0 1)) 0 (zsi (zsi ρ 0 27 (nI fk)) 0 28 (nI q))) ∨ (c < 6 ∧ ∃ τ υ q' e' k' G', fX5_readPart N (nI (a 0 1)) σ = some (0, τ) ∧ (∀ F, fX8_readStep_182 N (F + 1) (nI (a 0 1)) 1 ρ = fX8_readStep_182 N F (nI (a 0 1)) (if k' = 2 then 1 else 0) υ) ∧ zPp τ υ a t len q' e' k' f cl (c + 1) G' ∧ e ≤ q' ∧ zfsC (a 0 1) σ τ ∧ zfsM (a 0 1) ρ υ) := by
  obtain ⟨ho, h16, hC, c70, c71, c72, hSC, m7, m8, hM, hSM, hP, m27, hc6, hG, hGd⟩ := h
  have h20 := ho.1
  have k5 := zTk_5 hP.2.1
  have kr := zrt_lt k5
  have s4 := hP.2.2.2.2.1
  have u24 := hP.2.2.2.2.2.2.2.1
  have u25 := hP.2.2.2.2.2.2.2.2.1
  have hnum := zmnum (N := N) hP hN
  unfold fX5_readPart
  rw [s4]
  have turn : ∀ F, fX8_readStep_182 N (F + 1) (nI (a 0 1)) 1 ρ = (if nI (zrt k) = (3 : Int32) then if nI (a 0 0) ≤ nI (if k = 2 then znu t q (e - q) else 0) then fX8_readStep_220 N (fX8_readStep_182 N F) (nI (a 0 1)) (nI (if k = 2 then znu t q (e - q) else 0)) ρ else zbnd (fX8_isPart N (nI (a 0 1)) (nI (if k = 2 then znu t q (e - q) else 0)) ρ) (fun (b3 : Int32) (σ4 : zSt) => if b3 = 0 then fX8_readStep_225 N (fX8_readStep_182 N F) (nI (a 0 1)) (nI (if k = 2 then znu t q (e - q) else 0)) σ4 else fX8_readStep_220 N (fX8_readStep_182 N F) (nI (a 0 1)) (nI (if k = 2 then znu t q (e - q) else 0)) σ4) else fX8_readStep_225 N (fX8_readStep_182 N F) (nI (a 0 1)) (nI (if k = 2 then znu t q (e - q) else 0)) ρ) := by
    intro F
    rw [fX8_readStep_182, if_neg (show ¬ (1 : Int32) = 0 by decide), hnum, zbnd_some, u24, m7]
  by_cases v : k = 2
  · have z3 : nI (zrt k) = (3 : Int32) := by rw [v]; rfl
    have s5 := hP.2.2.2.2.2.1 v
    have hwb : znu t q (e - q) < 10000 := znu_b (by rw [← v]; exact hP.2.1)
    simp only [if_pos v, if_pos z3] at turn
    generalize znu t q (e - q) = w at *
    rw [if_pos (show nI k = (2 : Int32) by rw [v]; rfl), s5]
    have bad2 : fX8_bad N 2 ρ = some ((), zsi (zsi ρ 0 27 (nI 2)) 0 28 (nI q)) := zbad0 m27 u25
    have b27 := (zbad_27 (ρ := ρ) (v := nI q) (x := 2) (by decide) (by decide)).2
    have t220 : ∀ F, fX8_readStep_220 N (fX8_readStep_182 N F) (nI (a 0 1)) (nI w) ρ = fX8_readStep_182 N F (nI (a 0 1)) 0 (zsi (zsi ρ 0 27 (nI 2)) 0 28 (nI q)) := by
      intro F
      unfold fX8_readStep_220
      rw [bad2, zbnd_some, zm225f h16 b27]
    by_cases w1 : w < a 0 0
    · have eh : fX2_hasNode N (nI w) σ = some (1, σ) := by
        unfold fX2_hasNode
        rw [c70, if_neg (nI_pos (by omega)), if_neg (nI_ge w1 (by omega))]; exact zrz_1
      have ep : fX2_hasPart N (nI (a 0 1)) (nI w) σ = some (nI (if zim G c w then 1 else 0), σ) := by
        unfold fX2_hasPart
        rw [zag_nI h16 (by decide), hSC.2.2.2.1, zbitAt (by omega), zbnd_some]
        cases zim G c w
        · rw [if_neg (show ¬ false = true by decide), if_neg (show ¬ nI 0 = (1 : Int32) by decide)]; exact zrz_0
        · rw [if_pos rfl, if_pos (show nI 1 = (1 : Int32) from rfl)]; exact zrz_1
      have em : fX8_isPart N (nI (a 0 1)) (nI w) ρ = some (nI (if zim G c w then 1 else 0), ρ) := zmispart h16 hSM.2.2.1 hc6 (fun j hj => ⟨hSM.2.2.2 j hj, by have := hG j hj; omega⟩) (by omega) hN
      simp only [if_neg (nI_ge w1 (show a 0 0 < 2 ^ 31 by omega)), em, zbnd_some] at turn
      rw [eh, zbnd_some, if_neg (show ¬ (1 : Int32) = 0 by decide), s5, ep, zbnd_some]
      cases hz : zim G c w
      · rw [hz] at turn
        simp only [if_neg (show ¬ false = true by decide), if_pos (show nI 0 = (0 : Int32) from rfl)] at turn
        rw [if_neg (show ¬ false = true by decide), if_pos (show nI 0 = (0 : Int32) from rfl), zag_nI h16 (by decide), hSC.2.2.1]
        by_cases w6 : c < 6
        · refine Or.inr ⟨w6, ?_⟩
          -- the class
          have q15 : σ.1 15 (a 0 1) = nI c := hSC.2.2.1
          have q16 : σ.1 16 (a 0 1) = nI (zS (zim G c)) := hSC.2.2.2.1
          have ea : fX2_addPart N (nI (a 0 1)) (nI w) σ = some ((), zsi (zsi (zsi σ 17 (6 * a 0 1 + c) (nI w)) 16 (a 0 1) (nI (zS (zim (zu1 G c w) (c + 1))))) 15 (a 0 1) (nI (c + 1))) := by
            unfold fX2_addPart
            have e16 : nI (zS (zim G c)) ||| ((1 : Int32) <<< (nI w &&& 31)) = nI (zS (zim (zu1 G c w) (c + 1))) := by
              rw [zS_shl (by omega), zS_or]
              refine zS_eq.mpr (fun n hn => ?_)
              rw [zim]
              have e1 : zim (zu1 G c w) c n = zim G c n := zim_cong (fun j hj => if_neg (by omega))
              have e2 : zu1 G c w c = w := if_pos rfl
              rw [e1, e2]
              have : (n == w) = (w == n) := by
                by_cases z : n = w
                · rw [z]
                · have z1 : (n == w) = false := by simp; exact z
                  have z2 : (w == n) = false := by simp; exact fun y => z y.symm
                  rw [z1, z2]
              rw [this]
            rw [zag_nI h16 (by decide), q15, if_pos (show nI c < (6 : Int32) from nI_lt (b := 6) w6 (by decide)), zag_nI h16 (by decide), q15, z6', zas_nI (by omega) (by decide), zag_nI h16 (by decide), show (zsi σ 17 (6 * a 0 1 + c) (nI w)).1 16 (a 0 1) = nI (zS (zim G c)) from q16, zas_nI h16 (by decide), e16, zag_nI h16 (by decide), show (zsi (zsi σ 17 (6 * a 0 1 + c) (nI w)) 16 (a 0 1) (nI (zS (zim (zu1 G c w) (c + 1))))).1 15 (a 0 1) = nI c from q15, zas_nI h16 (by decide), nI_1]
          generalize hT : zsi (zsi (zsi σ 17 (6 * a 0 1 + c) (nI w)) 16 (a 0 1) (nI (zS (zim (zu1 G c w) (c + 1))))) 15 (a 0 1) (nI (c + 1)) = τ1 at ea
          have tc : ∀ x, x ≠ 15 → x ≠ 16 → x ≠ 17 → τ1.1 x = σ.1 x := fun x x1 x2 x3 => by rw [← hT, zsi_c x1, zsi_c x2, zsi_c x3]
          have t15 : ∀ i, τ1.1 15 i = if i = a 0 1 then nI (c + 1) else σ.1 15 i := fun i => by rw [← hT, zsi_if, zsi_c (by decide), zsi_c (by decide)]
          have t16 : ∀ i, τ1.1 16 i = if i = a 0 1 then nI (zS (zim (zu1 G c w) (c + 1))) else σ.1 16 i := fun i => by rw [← hT, zsi_c (by decide), zsi_if, zsi_c (by decide)]
          have t17 : ∀ i, τ1.1 17 i = if i = 6 * a 0 1 + c then nI w else σ.1 17 i := fun i => by rw [← hT, zsi_c (by decide), zsi_c (by decide), zsi_if]
          have hfC : zfsC (a 0 1) σ τ1 := ⟨fun x x1 x2 x3 => tc x (by omega) (by omega) (by omega), by rw [tc 5 (by decide) (by decide) (by decide)], by rw [tc 7 (by decide) (by decide) (by decide)], by rw [tc 7 (by decide) (by decide) (by decide)], fun i hi => ⟨by rw [tc 13 (by decide) (by decide) (by decide)], by rw [tc 14 (by decide) (by decide) (by decide)], by rw [t15, if_neg (by omega)], by rw [t16, if_neg (by omega)], by rw [tc 18 (by decide) (by decide) (by decide)]⟩, fun i hi => by rw [t17, if_neg (by omega)], fun i _ => by rw [tc 19 (by decide) (by decide) (by decide)]⟩
          have hP1 : zPT τ1 ρ t len q e k := zPT_fr hP (tc 5 (by decide) (by decide) (by decide)) (tc 6 (by decide) (by decide) (by decide)) (fun _ _ _ => rfl) rfl
          obtain ⟨τ2, υ, q', e', k', p1, p2, p3, p4, p5, p6, p7, p8⟩ := ztake2 (N := N) hN hP1.1 hP1.2.1.2.1 hP1.2.2.2.1 hP1.2.2.2.2.2.2.1
          have k5' := zTk_5 p4.2.1
          have kr' := zrt_lt k5'
          have u11 : υ.1 11 (a 0 1) = nI c := by rw [p7 11 (by decide)]; exact hSM.2.2.1
          have u27 : υ.1 0 27 = 0 := (p8 27 (by omega)).trans m27
          have x24 : υ.1 0 24 = nI (zrt k') := p4.2.2.2.2.2.2.2.1
          generalize hU : zsi (zsi υ 12 (6 * a 0 1 + c) (nI w)) 11 (a 0 1) (nI (c + 1)) = υ2
          have uc : ∀ x, x ≠ 11 → x ≠ 12 → υ2.1 x = υ.1 x := fun x x1 x2 => by rw [← hU, zsi_c x1, zsi_c x2]
          have v11 : ∀ i, υ2.1 11 i = if i = a 0 1 then nI (c + 1) else υ.1 11 i := fun i => by rw [← hU, zsi_if, zsi_c (by decide)]
          have v12 : ∀ i, υ2.1 12 i = if i = 6 * a 0 1 + c then nI w else υ.1 12 i := fun i => by rw [← hU, zsi_c (by decide), zsi_if]
          have hfM : zfsM (a 0 1) ρ υ2 := zfsM_trans (zfsM_0 p7 (fun i i1 i2 => p8 i (by omega))) ⟨fun x x1 x2 => uc x (by omega) (by omega), fun i _ _ => by rw [uc 0 (by decide) (by decide)], fun i hi => ⟨by rw [uc 9 (by decide) (by decide)], by rw [uc 10 (by decide) (by decide)], by rw [v11, if_neg (by omega)]⟩, fun i hi => by rw [v12, if_neg (by omega)], fun i _ => by rw [uc 13 (by decide) (by decide)]⟩
          have hfC2 : zfsC (a 0 1) σ τ2 := zfsC_trans hfC (zfsC_5 p5 p6)
          refine ⟨τ2, υ2, q', e', k', zu1 G c w, ?_, fun F => ?_, ?_, p3, hfC2, hfM⟩
          · rw [if_pos (show nI c < (6 : Int32) from nI_lt (b := 6) w6 (by decide)), s5, ea, zbnd_some, p1, zbnd_some]
          · rw [turn F]
            unfold fX8_readStep_225 fX8_readStep_249 fX8_readStep_263 fX8_readStep_301
            have e0 : υ2.1 0 = υ.1 0 := uc 0 (by decide) (by decide)
            rw [u24, if_pos z3, zag_nI h16 (by decide), hSM.2.2.1, if_neg (show ¬ nI c = (6 : Int32) from fun z => by have := (nI_eq (b := 6) (by omega) (by omega)).mp z; omega), if_pos z3, zmustk m27 p2, zbnd_some, if_pos u27, zag_nI h16 (by decide), u11, z6, zas_nI (by omega) (by decide), zag_nI h16 (by decide), show (zsi υ 12 (6 * a 0 1 + c) (nI w)).1 11 (a 0 1) = nI c from u11, zas_nI h16 (by decide), nI_1, hU, e0, if_pos u27, x24]
            by_cases z : k' = 2
            · rw [if_pos (show nI (zrt k') = (3 : Int32) by rw [z]; rfl), if_pos z]
            · rw [if_neg (show ¬ nI (zrt k') = (3 : Int32) from fun y => z ((zrt_3 k5').mp ((nI_eq (b := 3) (by omega) (by omega)).mp y))), if_neg z]
          · have a13 : ∀ x, 13 ≤ x → x ≤ 19 → τ2.1 x = τ1.1 x := fun x x1 x2 => p5 x (by omega)
            refine ⟨ho, h16, zCr_fs ho hC hfC2, hfC2.2.2.1.trans c70, ?_, hfC2.2.2.2.1.trans c72, ⟨?_, ?_, ?_, ?_, ?_, fun j hj => ?_, fun i hi => ?_⟩, ?_, ?_, zMr_fs ho hM hfM, ⟨?_, ?_, ?_, fun j hj => ?_⟩, zPT_fr p4 rfl rfl (fun i _ _ => by rw [uc 0 (by decide) (by decide)]) (uc 14 (by decide) (by decide)), ?_, by omega, fun j hj => ?_, fun j i hji hi => ?_⟩
            · rw [p5 7 (by decide), tc 7 (by decide) (by decide) (by decide)]; exact c71
            · rw [a13 13 (by decide) (by decide), tc 13 (by decide) (by decide) (by decide)]; exact hSC.1
            · rw [a13 14 (by decide) (by decide), tc 14 (by decide) (by decide) (by decide)]; exact hSC.2.1
            · rw [a13 15 (by decide) (by decide), t15, if_pos rfl]
            · rw [a13 16 (by decide) (by decide), t16, if_pos rfl]
            · rw [a13 18 (by decide) (by decide), tc 18 (by decide) (by decide) (by decide)]; exact hSC.2.2.2.2.1
            · rw [a13 17 (by decide) (by decide), t17]
              by_cases z : j = c
              · rw [if_pos (by omega), z]
                show nI w = nI (if c = c then w else G c)
                rw [if_pos rfl]
              · rw [if_neg (by omega), hSC.2.2.2.2.2.1 j (by omega)]
                show nI (G j) = nI (if j = c then w else G j)
                rw [if_neg z]
            · rw [a13 19 (by decide) (by decide), tc 19 (by decide) (by decide) (by decide)]; exact hSC.2.2.2.2.2.2 i hi
            · rw [uc 0 (by decide) (by decide), p8 7 (by omega)]; exact m7
            · rw [uc 0 (by decide) (by decide), p8 8 (by omega)]; exact m8
            · rw [uc 9 (by decide) (by decide), p7 9 (by decide)]; exact hSM.1
            · rw [uc 10 (by decide) (by decide), p7 10 (by decide)]; exact hSM.2.1
            · rw [v11, if_pos rfl]
            · rw [v12]
              by_cases z : j = c
              · rw [if_pos (by omega), z]
                show nI w = nI (if c = c then w else G c)
                rw [if_pos rfl]
              · rw [if_neg (by omega), p7 12 (by decide), hSM.2.2.2 j (by omega)]
                show nI (G j) = nI (if j = c then w else G j)
                rw [if_neg z]
            · rw [uc 0 (by decide) (by decide)]; exact u27
            · show (if j = c then w else G j) < a 0 0
              by_cases z : j = c
              · rw [if_pos z]; exact w1
              · rw [if_neg z]; exact hG j (by omega)
            · show (if j = c then w else G j) ≠ (if i = c then w else G i)
              rw [if_neg (show ¬ j = c by omega)]
              by_cases z : i = c
              · rw [if_pos z]
                intro y
                have : zim G c w = true := zim_iff.mpr ⟨j, by omega, y⟩
                rw [this] at hz
                exact absurd hz (by decide)
              · rw [if_neg z]
                exact hGd j i hji (by omega)
        · have c6 : c = 6 := by omega
          have bad3 : fX8_bad N 3 ρ = some ((), zsi (zsi ρ 0 27 (nI 3)) 0 28 (nI q)) := zbad0 m27 u25
          refine Or.inl ⟨3, by decide, by decide, ?_, fun F => ?_⟩
          · rw [if_neg (show ¬ nI c < (6 : Int32) from nI_nlt (b := 6) (by omega) (by omega))]
            rfl
          · rw [turn F]
            unfold fX8_readStep_225
            rw [u24, if_pos z3, zag_nI h16 (by decide), hSM.2.2.1, if_pos (show nI c = (6 : Int32) by rw [c6]; rfl), bad3, zbnd_some, zm249f (zbad_27 (by decide) (by decide)).2]
      · rw [hz] at turn
        refine Or.inl ⟨2, by decide, by decide, ?_, fun F => ?_⟩
        · rw [if_pos rfl, if_neg (show ¬ nI 1 = (0 : Int32) by decide)]
          rfl
        · rw [turn F, if_pos rfl, if_neg (show ¬ nI 1 = (0 : Int32) by decide), t220 F]
    · have eh : fX2_hasNode N (nI w) σ = some (0, σ) := by
        unfold fX2_hasNode
        rw [c70, if_neg (nI_pos (by omega)), if_pos (nI_le (by omega) (by omega))]; exact zrz_0
      refine Or.inl ⟨2, by decide, by decide, ?_, fun F => ?_⟩
      · rw [eh, zbnd_some, if_pos rfl]
        rfl
      · rw [turn F, if_pos (nI_le (by omega) (by omega)), t220 F]
  · have z3 : ¬ nI (zrt k) = (3 : Int32) := fun z => v ((zrt_3 k5).mp ((nI_eq (b := 3) (by omega) (by omega)).mp z))
    have hb : fX8_must N 0 ρ = some ((), zsi (zsi ρ 0 27 (nI 1)) 0 28 (nI q)) := zmust0 m27 u25
    have b27 := (zbad_27 (ρ := ρ) (v := nI q) (x := 1) (by decide) (by decide)).2
    refine Or.inl ⟨1, by decide, by decide, ?_, fun F => ?_⟩
    · rw [if_neg (show ¬ nI k = (2 : Int32) from fun z => v ((nI_eq (b := 2) (by omega) (by omega)).mp z))]
      rfl
    · rw [turn F, if_neg z3]
      unfold fX8_readStep_225 fX8_readStep_249 fX8_readStep_263 fX8_readStep_301
      rw [u24, if_neg z3, if_neg z3, hb, zbnd_some, if_neg b27, if_neg b27]
