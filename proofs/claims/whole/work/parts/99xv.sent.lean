/-! ===== sentences: frames, the sign, nodes ===== -/
def zCr (σ : zSt) (a : zA) : Prop := (∀ n, n < a 0 0 → zCNd σ a n) ∧ (∀ s, s < a 0 1 → zCS σ a s)
def zMr (ρ : zSt) (a : zA) : Prop := (∀ n, n < a 0 0 → zMNd ρ a n) ∧ (∀ s, s < a 0 1 → zMS ρ a s)
theorem zCr_fr {σ τ : zSt} {a : zA} (h : zCr σ a) (hf : ∀ k, 8 ≤ k → k ≤ 19 → τ.1 k = σ.1 k) : zCr τ a := by
  unfold zCr zCNd zCS at *
  rw [hf 8 (by decide) (by decide), hf 9 (by decide) (by decide), hf 10 (by decide) (by decide), hf 11 (by decide) (by decide), hf 12 (by decide) (by decide), hf 13 (by decide) (by decide), hf 14 (by decide) (by decide), hf 15 (by decide) (by decide), hf 16 (by decide) (by decide), hf 17 (by decide) (by decide), hf 18 (by decide) (by decide), hf 19 (by decide) (by decide)]
  exact h
theorem zMr_fr {σ τ : zSt} {a : zA} (h : zMr σ a) (hf : ∀ k, 4 ≤ k → k ≤ 13 → τ.1 k = σ.1 k) : zMr τ a := by
  unfold zMr zMNd zMS at *
  rw [hf 4 (by decide) (by decide), hf 5 (by decide) (by decide), hf 6 (by decide) (by decide), hf 7 (by decide) (by decide), hf 8 (by decide) (by decide), hf 9 (by decide) (by decide), hf 10 (by decide) (by decide), hf 11 (by decide) (by decide), hf 12 (by decide) (by decide), hf 13 (by decide) (by decide)]
  exact h
/-- a2 goes on from a -/
def zPx (a a2 : zA) : Prop := a 0 0 ≤ a2 0 0 ∧ a 0 1 ≤ a2 0 1 ∧ a2 0 2 = a 0 2 ∧ (∀ n, n < a 0 0 → a2 1 n = a 1 n ∧ a2 2 n = a 2 n ∧ a2 3 n = a 3 n ∧ a2 4 n = a 4 n ∧ a2 5 n = a 5 n) ∧ ∀ s, s < a 0 1 → a2 6 s = a 6 s ∧ a2 7 s = a 7 s ∧ a2 8 s = a 8 s ∧ (∀ j, j < 6 → a2 9 (6 * s + j) = a 9 (6 * s + j)) ∧ ∀ k, k < 3 → a2 10 (3 * s + k) = a 10 (3 * s + k)
theorem zPx_rfl {a : zA} : zPx a a := ⟨Nat.le_refl _, Nat.le_refl _, rfl, fun _ _ => ⟨rfl, rfl, rfl, rfl, rfl⟩, fun _ _ => ⟨rfl, rfl, rfl, fun _ _ => rfl, fun _ _ => rfl⟩⟩
theorem zPx_trans {a b c : zA} (h : zPx a b) (h' : zPx b c) : zPx a c := by
  obtain ⟨h1, h2, h3, h4, h5⟩ := h
  obtain ⟨k1, k2, k3, k4, k5⟩ := h'
  refine ⟨by omega, by omega, k3.trans h3, fun n hn => ?_, fun s hs => ?_⟩
  · obtain ⟨x1, x2, x3, x4, x5⟩ := h4 n hn
    obtain ⟨y1, y2, y3, y4, y5⟩ := k4 n (by omega)
    exact ⟨y1.trans x1, y2.trans x2, y3.trans x3, y4.trans x4, y5.trans x5⟩
  · obtain ⟨x1, x2, x3, x4, x5⟩ := h5 s hs
    obtain ⟨y1, y2, y3, y4, y5⟩ := k5 s (by omega)
    exact ⟨y1.trans x1, y2.trans x2, y3.trans x3, fun j hj => (y4 j hj).trans (x4 j hj), fun k hk => (y5 k hk).trans (x5 k hk)⟩
theorem zim_cong {g h : Nat → Nat} {n : Nat} : ∀ {c : Nat}, (∀ j, j < c → g j = h j) → zim g c n = zim h c n
  | 0, _ => rfl
  | c + 1, e => by rw [zim, zim, zim_cong (fun j hj => e j (by omega)), e c (by omega)]
theorem zCr_px {σ : zSt} {a a2 : zA} (ho : zOk a) (h : zCr σ a2) (hp : zPx a a2) : zCr σ a := by
  obtain ⟨p1, p2, p3, p4, p5⟩ := hp
  refine ⟨fun n hn => ?_, fun s hs => ?_⟩
  · obtain ⟨x1, x2, x3, x4, x5⟩ := p4 n hn
    have := h.1 n (by omega)
    unfold zCNd at *
    rw [x1, x2, x3, x4, x5] at this
    exact this
  · obtain ⟨x1, x2, x3, x4, x5⟩ := p5 s hs
    obtain ⟨o1, o2, o3, o4, o5, -⟩ := ho.2.2.2.2 s hs
    have od := zdo_b (a 6 s) (by omega)
    obtain ⟨c1, c2, c3, c4, c5, c6, c7⟩ := h.2 s (by omega)
    have e4 : zS (zpt a2 s) = zS (zpt a s) := zset_cong (fun n _ => by
      unfold zpt
      rw [x3]
      exact zim_cong (fun j hj => x4 j (by omega)))
    have e5 : zop a2 s = zop a s := by
      unfold zop
      rw [x1]
      exact fb_ct_cong (fun k hk => by rw [x5 k (by omega)])
    rw [x1] at c1
    rw [x2] at c2
    rw [x3] at c3 c6
    rw [e4] at c4
    rw [e5] at c5
    exact ⟨c1, c2, c3, c4, c5, fun j hj => by rw [c6 j hj, x4 j (by omega)], fun k hk => by rw [c7 k hk, x5 k hk]⟩
theorem zMr_px {ρ : zSt} {a a2 : zA} (ho : zOk a) (h : zMr ρ a2) (hp : zPx a a2) : zMr ρ a := by
  obtain ⟨p1, p2, p3, p4, p5⟩ := hp
  refine ⟨fun n hn => ?_, fun s hs => ?_⟩
  · obtain ⟨x1, x2, x3, x4, x5⟩ := p4 n hn
    have := h.1 n (by omega)
    unfold zMNd at *
    rw [x1, x2, x3, x4, x5] at this
    exact this
  · obtain ⟨x1, x2, x3, x4, x5⟩ := p5 s hs
    obtain ⟨o1, o2, o3, o4, o5, -⟩ := ho.2.2.2.2 s hs
    obtain ⟨c1, c2, c3, c6, c7⟩ := h.2 s (by omega)
    rw [x1] at c1
    rw [x2] at c2
    rw [x3] at c3 c6
    exact ⟨c1, c2, c3, fun j hj => by rw [c6 j hj, x4 j (by omega)], fun k hk => by rw [c7 k hk, x5 k hk]⟩
/-- what reading changes -/
def zfc (σ τ : zSt) : Prop := (∀ c, c ≠ 5 → (c < 7 ∨ 19 < c) → τ.1 c = σ.1 c) ∧ τ.1 5 1 = σ.1 5 1 ∧ τ.1 7 2 = σ.1 7 2
def zfmm (ρ υ : zSt) : Prop := (∀ c, c ≠ 0 → (c < 4 ∨ 13 < c) → υ.1 c = ρ.1 c) ∧ ∀ i, i ≠ 7 → i ≠ 8 → (i < 23 ∨ 28 < i) → υ.1 0 i = ρ.1 0 i
theorem zfc_rfl {σ : zSt} : zfc σ σ := ⟨fun _ _ _ => rfl, rfl, rfl⟩
theorem zfmm_rfl {σ : zSt} : zfmm σ σ := ⟨fun _ _ _ => rfl, fun _ _ _ _ => rfl⟩
theorem zfc_trans {σ τ υ : zSt} (h : zfc σ τ) (h' : zfc τ υ) : zfc σ υ := ⟨fun c a b => (h'.1 c a b).trans (h.1 c a b), h'.2.1.trans h.2.1, h'.2.2.trans h.2.2⟩
theorem zfmm_trans {σ τ υ : zSt} (h : zfmm σ τ) (h' : zfmm τ υ) : zfmm σ υ := ⟨fun c a b => (h'.1 c a b).trans (h.1 c a b), fun i a b c => (h'.2 i a b c).trans (h.2 i a b c)⟩
theorem zfc_5 {σ τ : zSt} (h : ∀ c, c ≠ 5 → τ.1 c = σ.1 c) (h1 : τ.1 5 1 = σ.1 5 1) : zfc σ τ := ⟨fun c a _ => h c a, h1, by rw [h 7 (by decide)]⟩
theorem zfmm_0 {ρ υ : zSt} (h : ∀ c, c ≠ 0 → υ.1 c = ρ.1 c) (h0 : ∀ i, (i < 23 ∨ 26 < i) → υ.1 0 i = ρ.1 0 i) : zfmm ρ υ := ⟨fun c a _ => h c a, fun i _ _ b => h0 i (by omega)⟩
theorem zfmm_bad {ρ : zSt} {x v : Int32} : zfmm ρ (zsi (zsi ρ 0 27 x) 0 28 v) := ⟨fun c a _ => by rw [zsi_c a, zsi_c a], fun i _ _ b => by rw [zsi_o (by omega), zsi_o (by omega)]⟩
theorem zPT_fr {σ ρ τ υ : zSt} {t : Nat → Nat} {len q e k : Nat} (h : zPT σ ρ t len q e k) (h5 : τ.1 5 = σ.1 5) (h6 : τ.1 6 = σ.1 6) (h0 : ∀ i, 22 ≤ i → i ≤ 26 → υ.1 0 i = ρ.1 0 i) (h14 : υ.1 14 = ρ.1 14) : zPT τ υ t len q e k := by
  unfold zPT zTp at *
  rw [h5, h6, h14, h0 22 (by decide) (by decide), h0 23 (by decide) (by decide), h0 24 (by decide) (by decide), h0 25 (by decide) (by decide), h0 26 (by decide) (by decide)]
  exact h
/-- both sides within a text -/
def zQx (σ ρ : zSt) (a : zA) (t : Nat → Nat) (len q e k : Nat) : Prop := zOk a ∧ zCN σ a ∧ ρ.1 0 7 = nI (a 0 0) ∧ ρ.1 0 8 = nI (a 0 1) ∧ zMr ρ a ∧ zPT σ ρ t len q e k ∧ ρ.1 0 27 = 0
theorem zQx_take {N q e k len : Nat} {a : zA} {t : Nat → Nat} {σ ρ : zSt} (hN : 600000 ≤ N) (h : zQx σ ρ a t len q e k) : ∃ τ υ q' e' k', fX5_take N σ = some ((), τ) ∧ fX8_next N ρ = some ((), υ) ∧ e ≤ q' ∧ zQx τ υ a t len q' e' k' ∧ (∀ c, c ≠ 5 → τ.1 c = σ.1 c) ∧ τ.1 5 1 = σ.1 5 1 ∧ (∀ c, c ≠ 0 → υ.1 c = ρ.1 c) ∧ ∀ i, (i < 23 ∨ 26 < i) → υ.1 0 i = ρ.1 0 i := by
  obtain ⟨h1, h2, h3, h4, h5, h6, h7⟩ := h
  obtain ⟨τ, υ, q', e', k', r1, r2, r3, r4, r5, r6, r7, r8⟩ := ztake2 (N := N) hN h6.1 h6.2.1.2.1 h6.2.2.2.1 h6.2.2.2.2.2.2.1
  exact ⟨τ, υ, q', e', k', r1, r2, r3, ⟨h1, zCN_fr h2 (fun c q1 q2 => r5 c (by omega)), (r8 7 (by omega)).trans h3, (r8 8 (by omega)).trans h4, zMr_fr h5 (fun c q1 q2 => r7 c (by omega)), r4, (r8 27 (by omega)).trans h7⟩, r5, r6, r7, r8⟩
theorem zQx_k {σ ρ : zSt} {a : zA} {t : Nat → Nat} {len q e k : Nat} (h : zQx σ ρ a t len q e k) : k ≤ 5 ∧ zrt k ≤ 4 := ⟨zTk_5 h.2.2.2.2.2.1.2.1, zrt_lt (zTk_5 h.2.2.2.2.2.1.2.1)⟩
theorem zm184f {N : Nat} {ρ : zSt} {k48 : zSt → Option (Int32 × zSt)} (h : ¬ ρ.1 0 27 = 0) : fX8_net_184 N k48 ρ = k48 ρ := by
  unfold fX8_net_184
  rw [if_neg h]
theorem zbad_27 {ρ : zSt} {v : Int32} {x : Nat} (h1 : 1 ≤ x) (h3 : x ≤ 3) : (zsi (zsi ρ 0 27 (nI x)) 0 28 v).1 0 27 = nI x ∧ ¬ (zsi (zsi ρ 0 27 (nI x)) 0 28 v).1 0 27 = 0 := by
  have e : (zsi (zsi ρ 0 27 (nI x)) 0 28 v).1 0 27 = nI x := (zsi_o (by decide)).trans zsi_s
  exact ⟨e, by rw [e]; exact nI_ne0 h1 (by omega)⟩
theorem zsign2 {N q e k len : Nat} {a : zA} {t : Nat → Nat} {σ ρ : zSt} (hN : 600000 ≤ N) (h : zQx σ ρ a t len q e k) : (∃ τ υ q' e' k', fX5_readSign N σ = some (0, τ) ∧ (∀ k48, fX8_net_184 N k48 ρ = k48 υ) ∧ zQx τ υ a t len q' e' k' ∧ e ≤ q' ∧ zfc σ τ ∧ zfmm ρ υ) ∨ (fX5_readSign N σ = some (nI 1, σ) ∧ ∀ k48, fX8_net_184 N k48 ρ = k48 (zsi (zsi ρ 0 27 (nI 1)) 0 28 (nI q))) := by
  have hk := zQx_k h
  obtain ⟨h1, h2, h3, h4, h5, h6, h7⟩ := h
  have s4 := h6.2.2.2.2.1
  have r24 := h6.2.2.2.2.2.2.2.1
  have r25 := h6.2.2.2.2.2.2.2.2.1
  unfold fX5_readSign fX8_net_184 fX8_net_205
  rw [s4, h7, r24]
  by_cases v : k = 3
  · obtain ⟨τ, υ, q', e', k', r1, r2, r3, r4, r5, r6, r7, r8⟩ := zQx_take (N := N) hN ⟨h1, h2, h3, h4, h5, h6, h7⟩
    refine Or.inl ⟨τ, υ, q', e', k', ?_, fun k48 => ?_, r4, r3, zfc_5 r5 r6, zfmm_0 r7 r8⟩
    · rw [if_pos (show nI k = (3 : Int32) by rw [v]; rfl), r1, zbnd_some]
    · rw [if_pos rfl, if_pos (show nI (zrt k) = (4 : Int32) by rw [v]; rfl), zmustk h7 r2, zbnd_some]
  · refine Or.inr ⟨?_, fun k48 => ?_⟩
    · rw [if_neg (show ¬ nI k = (3 : Int32) from fun z => v ((nI_eq (b := 3) (by omega) (by omega)).mp z))]
      rfl
    · rw [if_pos rfl, if_neg (show ¬ nI (zrt k) = (4 : Int32) from fun z => v ((zrt_4 hk.1).mp ((nI_eq (b := 4) (by omega) (by omega)).mp z))), zmust0 h7 r25, zbnd_some]
      rfl
/-- what a sentence comes to -/
def zOut (a : zA) (σ ρ : zSt) (t : Nat → Nat) (len e : Nat) (cr : Option (Int32 × zSt)) (rr : (zSt → Option (Int32 × zSt)) → Option (Int32 × zSt)) : Prop :=
  (∃ a2 τ υ q' e' k', cr = some (0, τ) ∧ (∀ k48, rr k48 = k48 υ) ∧ zQx τ υ a2 t len q' e' k' ∧ e ≤ q' ∧ zPx a a2 ∧ zfc σ τ ∧ zfmm ρ υ) ∨
  (∃ fk pos τ υ, 1 ≤ fk ∧ fk ≤ 3 ∧ cr = some (nI fk, τ) ∧ (∀ k48, rr k48 = k48 υ) ∧ τ.1 5 2 = nI pos ∧ υ.1 0 27 = nI fk ∧ υ.1 0 28 = nI pos ∧ zCr τ a ∧ zMr υ a ∧ zfc σ τ ∧ zfmm ρ υ)
/-- the sign at the end -/
theorem zout_sign {N q e k len e0 : Nat} {a a2 : zA} {t : Nat → Nat} {σ ρ σ0 ρ0 : zSt} {cr : Option (Int32 × zSt)} {rr : (zSt → Option (Int32 × zSt)) → Option (Int32 × zSt)} (hN : 600000 ≤ N) (ho : zOk a) (h : zQx σ ρ a2 t len q e k) (hp : zPx a a2) (hc : zfc σ0 σ) (hm : zfmm ρ0 ρ) (he : e0 ≤ e) (ec : cr = fX5_readSign N σ) (er : ∀ k48, rr k48 = fX8_net_184 N k48 ρ) : zOut a σ0 ρ0 t len e0 cr rr := by
  rcases zsign2 (N := N) hN h with ⟨τ, υ, q', e', k', s1, s2, s3, s4, s5, s6⟩ | ⟨s1, s2⟩
  · exact Or.inl ⟨a2, τ, υ, q', e', k', ec.trans s1, fun k48 => (er k48).trans (s2 k48), s3, by omega, hp, zfc_trans hc s5, zfmm_trans hm s6⟩
  · refine Or.inr ⟨1, q, σ, _, by decide, by decide, ec.trans s1, fun k48 => (er k48).trans (s2 k48), h.2.2.2.2.2.1.2.2.1, (zbad_27 (by decide) (by decide)).1, zsi_s, zCr_px ho ⟨h.2.1.2.2.2.1, h.2.1.2.2.2.2⟩ hp, zMr_px ho (zMr_fr h.2.2.2.2.1 (fun c q1 q2 => by rw [zsi_c (by omega), zsi_c (by omega)])) hp, hc, zfmm_trans hm zfmm_bad⟩
/-! a node more -/
def znn (a : zA) (srt hd : Nat) : zA := zup (zup (zup (zup (zup (zup a 0 (zu1 (a 0) 0 (a 0 0 + 1))) 1 (zu1 (a 1) (a 0 0) srt)) 2 (zu1 (a 2) (a 0 0) hd)) 3 (zu1 (a 3) (a 0 0) 0)) 4 (zu1 (a 4) (a 0 0) 9999)) 5 (zu1 (a 5) (a 0 0) 0)
theorem znn_px {a : zA} {srt hd : Nat} : zPx a (znn a srt hd) := by
  refine ⟨by show a 0 0 ≤ a 0 0 + 1; omega, Nat.le_refl _, rfl, fun n hn => ?_, fun _ _ => ⟨rfl, rfl, rfl, fun _ _ => rfl, fun _ _ => rfl⟩⟩
  have hne : n ≠ a 0 0 := by omega
  exact ⟨if_neg hne, if_neg hne, if_neg hne, if_neg hne, if_neg hne⟩
theorem znn_ok {a : zA} {srt hd : Nat} (ho : zOk a) (hn : a 0 0 < 20) (hs : srt ≤ 2) (hh : hd ≤ 9) : zOk (znn a srt hd) := by
  refine ⟨by show a 0 0 + 1 ≤ 20; omega, ho.2.1, ho.2.2.1, fun n hn => ?_, fun s hs => ?_⟩
  · have hn : n < a 0 0 + 1 := hn
    show (if n = a 0 0 then srt else a 1 n) ≤ 2 ∧ (if n = a 0 0 then hd else a 2 n) ≤ 9 ∧ (if n = a 0 0 then 0 else a 3 n) ≤ 9999 ∧ (if n = a 0 0 then 9999 else a 4 n) ≤ 9999 ∧ (if n = a 0 0 then 0 else a 5 n) ≤ 1
    by_cases q : n = a 0 0
    · rw [if_pos q, if_pos q, if_pos q, if_pos q, if_pos q]; omega
    · rw [if_neg q, if_neg q, if_neg q, if_neg q, if_neg q]
      exact ho.2.2.2.1 n (by omega)
  · obtain ⟨o1, o2, o3, o4, o5, o6, o7, o8⟩ := ho.2.2.2.2 s hs
    refine ⟨o1, by show a 7 s < a 0 0 + 1; omega, ?_, o4, o5, fun j hj => by show a 9 (6 * s + j) < a 0 0 + 1; have := o6 j hj; omega, o7, o8⟩
    show (if a 7 s = a 0 0 then srt else a 1 (a 7 s)) = 2
    rw [if_neg (by omega)]
    exact o3
theorem zcadd {N srt hd : Nat} {a : zA} {σ : zSt} (h : zCN σ a) (hn : a 0 0 < 20) : ∃ τ, fX2_addNode N (nI srt) (nI hd) σ = some ((), τ) ∧ zCN τ (znn a srt hd) ∧ (∀ c, (c < 7 ∨ 12 < c) → τ.1 c = σ.1 c) ∧ τ.1 7 2 = σ.1 7 2 := by
  refine ⟨zsi (zsi (zsi (zsi (zsi (zsi σ 8 (a 0 0) (nI srt)) 9 (a 0 0) (nI hd)) 10 (a 0 0) 0) 11 (a 0 0) 9999) 12 (a 0 0) 0) 7 0 (nI (a 0 0 + 1)), ?_, ⟨zsi_s, (zsi_o (by decide)).trans h.2.1, (zsi_o (by decide)).trans h.2.2.1, fun m hm => ?_, h.2.2.2.2⟩, fun c hc => ?_, ?_⟩
  · unfold fX2_addNode
    rw [h.1, if_pos (show nI (a 0 0) < (20 : Int32) from nI_lt (b := 20) hn (by decide)), zas_nI hn (by decide), show (zsi σ 8 (a 0 0) (nI srt)).1 7 0 = nI (a 0 0) from h.1, zas_nI hn (by decide), show (zsi (zsi σ 8 (a 0 0) (nI srt)) 9 (a 0 0) (nI hd)).1 7 0 = nI (a 0 0) from h.1, zas_nI hn (by decide), show (zsi (zsi (zsi σ 8 (a 0 0) (nI srt)) 9 (a 0 0) (nI hd)) 10 (a 0 0) 0).1 7 0 = nI (a 0 0) from h.1, zas_nI hn (by decide), show (zsi (zsi (zsi (zsi σ 8 (a 0 0) (nI srt)) 9 (a 0 0) (nI hd)) 10 (a 0 0) 0) 11 (a 0 0) 9999).1 7 0 = nI (a 0 0) from h.1, zas_nI hn (by decide), zpf_eq, show (zsi (zsi (zsi (zsi (zsi σ 8 (a 0 0) (nI srt)) 9 (a 0 0) (nI hd)) 10 (a 0 0) 0) 11 (a 0 0) 9999) 12 (a 0 0) 0).1 7 0 = nI (a 0 0) from h.1, nI_1]
  · have hm : m < a 0 0 + 1 := hm
    show (zsi σ 8 (a 0 0) (nI srt)).1 8 m = nI (if m = a 0 0 then srt else a 1 m) ∧ (zsi (zsi (zsi (zsi (zsi σ 8 (a 0 0) (nI srt)) 9 (a 0 0) (nI hd)) 10 (a 0 0) 0) 11 (a 0 0) 9999) 12 (a 0 0) 0).1 12 m = nI (if m = a 0 0 then 0 else a 5 m) ∧ ((if m = a 0 0 then srt else a 1 m) < 2 → (zsi (zsi σ 8 (a 0 0) (nI srt)) 9 (a 0 0) (nI hd)).1 9 m = nI (if m = a 0 0 then hd else a 2 m) ∧ (zsi (zsi (zsi σ 8 (a 0 0) (nI srt)) 9 (a 0 0) (nI hd)) 10 (a 0 0) 0).1 10 m = nI (if m = a 0 0 then 0 else a 3 m) ∧ (zsi (zsi (zsi (zsi σ 8 (a 0 0) (nI srt)) 9 (a 0 0) (nI hd)) 10 (a 0 0) 0) 11 (a 0 0) 9999).1 11 m = nI (if m = a 0 0 then 9999 else a 4 m))
    by_cases q : m = a 0 0
    · rw [if_pos q, if_pos q, if_pos q, if_pos q, if_pos q, q, zsi_s, zsi_s, zsi_s, zsi_s, zsi_s]
      exact ⟨rfl, rfl, fun _ => ⟨rfl, rfl, rfl⟩⟩
    · rw [if_neg q, if_neg q, if_neg q, if_neg q, if_neg q, zsi_o q, zsi_o q, zsi_o q, zsi_o q, zsi_o q]
      exact h.2.2.2.1 m (by omega)
  · rw [zsi_c (by omega), zsi_c (by omega), zsi_c (by omega), zsi_c (by omega), zsi_c (by omega), zsi_c (by omega)]
  · rw [zsi_o (by decide)]; rfl
/-- the reference's rows with a node more -/
def zwr (ρ : zSt) (n : Nat) (v4 v5 v6 v7 : Int32) : zSt := zsi (zsi (zsi (zsi (zsi ρ 4 n v4) 5 n v5) 6 n v6) 7 n v7) 8 n 0
theorem zwr_c {ρ : zSt} {n c : Nat} {v4 v5 v6 v7 : Int32} (hc : c < 4 ∨ 8 < c) : (zwr ρ n v4 v5 v6 v7).1 c = ρ.1 c := by
  unfold zwr
  rw [zsi_c (by omega), zsi_c (by omega), zsi_c (by omega), zsi_c (by omega), zsi_c (by omega)]
theorem zmadd {a : zA} {ρ υ : zSt} {srt hd : Nat} {v5 v6 v7 : Int32} (h : zMr ρ a) (hs : (srt < 2 ∧ v5 = nI hd ∧ v6 = nI 0 ∧ v7 = nI 9999) ∨ (srt = 2 ∧ v5 = -1000000 ∧ v6 = -1000000 ∧ v7 = -1000000)) (u4 : ∀ m, υ.1 4 m = if m = a 0 0 then nI srt else ρ.1 4 m) (u5 : ∀ m, υ.1 5 m = if m = a 0 0 then v5 else ρ.1 5 m) (u6 : ∀ m, υ.1 6 m = if m = a 0 0 then v6 else ρ.1 6 m) (u7 : ∀ m, υ.1 7 m = if m = a 0 0 then v7 else ρ.1 7 m) (u8 : ∀ m, υ.1 8 m = if m = a 0 0 then 0 else ρ.1 8 m) (hf : ∀ c, 9 ≤ c → c ≤ 13 → υ.1 c = ρ.1 c) : zMr υ (znn a srt hd) := by
  refine ⟨fun m hm => ?_, fun s hs => ?_⟩
  · have hm : m < a 0 0 + 1 := hm
    show υ.1 4 m = nI (if m = a 0 0 then srt else a 1 m) ∧ υ.1 8 m = nI (if m = a 0 0 then 0 else a 5 m) ∧ ((if m = a 0 0 then srt else a 1 m) < 2 → υ.1 5 m = nI (if m = a 0 0 then hd else a 2 m) ∧ υ.1 6 m = nI (if m = a 0 0 then 0 else a 3 m) ∧ υ.1 7 m = nI (if m = a 0 0 then 9999 else a 4 m)) ∧ ((if m = a 0 0 then srt else a 1 m) = 2 → υ.1 5 m = -1000000 ∧ υ.1 6 m = -1000000 ∧ υ.1 7 m = -1000000)
    rw [u4, u5, u6, u7, u8]
    by_cases q : m = a 0 0
    · rw [if_pos q, if_pos q, if_pos q, if_pos q, if_pos q, if_pos q, if_pos q, if_pos q, if_pos q, if_pos q]
      refine ⟨rfl, rfl, fun z => ?_, fun z => ?_⟩
      · rcases hs with hs | hs
        · exact hs.2
        · omega
      · rcases hs with hs | hs
        · omega
        · exact hs.2
    · rw [if_neg q, if_neg q, if_neg q, if_neg q, if_neg q, if_neg q, if_neg q, if_neg q, if_neg q, if_neg q]
      exact h.1 m (by omega)
  · have := h.2 s hs
    unfold zMS at *
    rw [hf 9 (by decide) (by decide), hf 10 (by decide) (by decide), hf 11 (by decide) (by decide), hf 12 (by decide) (by decide), hf 13 (by decide) (by decide)]
    exact this
