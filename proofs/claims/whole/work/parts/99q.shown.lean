/-! ===== the reference's rounds ===== -/
/-- what a question changes in the reference -/
def zF30 (σ τ : zSt) : Prop := (∀ k, k ≠ 0 → τ.1 k = σ.1 k) ∧ ∀ i, i ≠ 30 → τ.1 0 i = σ.1 0 i
theorem zF30_rfl {σ : zSt} : zF30 σ σ := ⟨fun _ _ => rfl, fun _ _ => rfl⟩
theorem zF30_trans {σ τ υ : zSt} (h1 : zF30 σ τ) (h2 : zF30 τ υ) : zF30 σ υ := ⟨fun k a => (h2.1 k a).trans (h1.1 k a), fun k a => (h2.2 k a).trans (h1.2 k a)⟩
theorem zF30_set {σ : zSt} {v : Int32} : zF30 σ (zsi σ 0 30 v) := ⟨fun _ h => zsi_c h, fun _ h => zsi_o h⟩
theorem zMN_30 {σ τ : zSt} {a : zA} (h : zMN σ a) (hf : zF30 σ τ) : zMN τ a := zMN_fr h (fun k h1 _ => hf.1 k (by omega)) (hf.2 5 (by decide)) (hf.2 6 (by decide)) (hf.2 29 (by decide))
def zBw (w : Int32) (n : Nat) : Bool := decide (w = nI n)
theorem zmround {N : Nat} {a : zA} {σ : zSt} {w : Int32} {P : Nat → Bool} {k10 : Int32 → Int32 → Int32 → zSt → Option (Int32 × zSt)} (h : zMN σ a) (ho : zOk a) (hN : 600000 ≤ N) : ∀ (g f i : Nat), g < f → i + g = a 0 1 → fX8_shownBy_21 N k10 f w (nI (zS P)) (nI (zS (zrk a (zBw w) P i))) (nI i) σ = fX8_shownBy_95 N k10 w (nI (zS (zrd a (zBw w) P))) (if zS (zrd a (zBw w) P) = zS P then 0 else 1) σ
  | 0, f + 1, i, _, hi => by
    have h16 := ho.2.1
    have b1 := zS_lt (P := zrd a (zBw w) P)
    have b2 := zS_lt (P := P)
    have e : zrk a (zBw w) P i = zrd a (zBw w) P := by rw [show i = a 0 1 by omega]; rfl
    rw [fX8_shownBy_21, h.2.1, if_pos (nI_le (by omega) (by omega)), e]
    by_cases q : zS (zrd a (zBw w) P) = zS P
    · rw [if_pos (by rw [q]), if_pos q]
    · rw [if_neg (fun z => q ((nI_eq (by omega) (by omega)).mp z)), if_neg q]
  | g + 1, f + 1, i, hf, hi => by
    have h16 := ho.2.1
    have h20 := ho.1
    obtain ⟨o1, o2, o3, o4, o5, o6, o7, o8⟩ := ho.2.2.2.2 i (by omega)
    obtain ⟨c1, c2, c3, c4, c5⟩ := h.2.2.2.2 i (by omega)
    have ih := zmround (N := N) (w := w) (P := P) (k10 := k10) h ho hN g f (i + 1) (by omega) (by omega)
    have hst : ∀ n, zrk a (zBw w) P (i + 1) n = (zrk a (zBw w) P i n || zhu a (zBw w) P n i) := fun n => by
      unfold zrk
      rw [zex, Bool.or_assoc]
    have same : (∀ n, zhu a (zBw w) P n i = false) → nI (zS (zrk a (zBw w) P i)) = nI (zS (zrk a (zBw w) P (i + 1))) := fun hs => zS_eq.mpr (fun n hn => by
      rw [hst n, hs n, Bool.or_false])
    have skip : (∀ n, zhu a (zBw w) P n i = false) → fX8_shownBy_74 N k10 (fX8_shownBy_21 N k10 f) w (nI (zS P)) (nI i) (nI (zS (zrk a (zBw w) P i))) σ = fX8_shownBy_95 N k10 w (nI (zS (zrd a (zBw w) P))) (if zS (zrd a (zBw w) P) = zS P then 0 else 1) σ := by
      intro hs
      rw [fX8_shownBy_74, fX8_shownBy_75, znm_eq, zor0, nI_1, same hs]
      exact ih
    rw [fX8_shownBy_21, h.2.1, if_neg (nI_ge (by omega) (by omega)), zag_nI (by omega) (by omega), c2]
    by_cases hw : nI (a 7 i) = w
    · rw [if_pos hw]
      refine skip (fun n => ?_)
      unfold zhu
      by_cases q : a 7 i = n
      · have : zBw w n = true := decide_eq_true (by rw [← q]; exact hw.symm)
        rw [this]; simp
      · have : (a 7 i == n) = false := by simp; exact q
        rw [this]; rfl
    · have hz0 := zop_le ho (s := i) (by omega)
      rw [if_neg hw, zmopen h ho (by omega) hN, zbnd_some]
      by_cases q : zop a i = 0
      · rw [if_pos (show nI (zop a i) = 0 by rw [q]; rfl), zmborne h ho (by omega) hN, zbnd_some]
        by_cases hb : zbu a i P = true
        · rw [hb, if_pos rfl, if_neg (by decide), zag_nI (by omega) (by omega), c2, fX8_shownBy_75, znm_eq, zS_shl (by omega), zS_or, nI_1]
          have e : nI (zS (fun i_1 => zrk a (zBw w) P i i_1 || i_1 == a 7 i)) = nI (zS (zrk a (zBw w) P (i + 1))) := zS_eq.mpr (fun n hn => by
            rw [hst n]
            by_cases z : n = a 7 i
            · subst z
              have : zBw w (a 7 i) = false := decide_eq_false (fun e => hw e.symm)
              unfold zhu
              rw [this, q, hb]; simp
            · have w1 : (n == a 7 i) = false := by simp; exact z
              have w2 : zhu a (zBw w) P n i = false := by
                unfold zhu
                have : (a 7 i == n) = false := by simp; exact fun e => z e.symm
                rw [this]; rfl
              rw [w1, w2])
          rw [e]
          exact ih
        · rw [if_neg hb, if_pos (by decide)]
          refine skip (fun n => ?_)
          have hb : zbu a i P = false := by simpa using hb
          unfold zhu
          rw [hb]; simp
      · rw [if_neg (nI_ne0 (by omega) (by omega))]
        refine skip (fun n => ?_)
        have : (zop a i == 0) = false := by simp; exact q
        unfold zhu
        rw [this]; simp
theorem zmturn {N f : Nat} {a : zA} {σ : zSt} {w : Int32} {P : Nat → Bool} {c : Nat} (h : zMN σ a) (ho : zOk a) (hN : 600000 ≤ N) (hc : σ.1 0 30 = nI c) : fX8_shownBy_10 N (f + 1) w (nI (zS P)) 1 σ = if zS (zrd a (zBw w) P) = zS P then fX8_shownBy_10 N f w (nI (zS P)) 0 (zsi σ 0 30 (nI c)) else fX8_shownBy_10 N f w (nI (zS (zrd a (zBw w) P))) 1 (zsi σ 0 30 (nI (c + 1))) := by
  have h16 := ho.2.1
  have := zmround (N := N) (w := w) (P := P) (k10 := fX8_shownBy_10 N f) h ho hN (a 0 1) N 0 (by omega) (by omega)
  have e : zS (zrk a (zBw w) P 0) = zS P := zset_cong (fun n _ => by unfold zrk; rw [zex, Bool.or_false])
  rw [e] at this
  have this : fX8_shownBy_21 N (fX8_shownBy_10 N f) N w (nI (zS P)) (nI (zS P)) 0 σ = _ := this
  rw [fX8_shownBy_10, if_neg (by decide), this, fX8_shownBy_95]
  by_cases q : zS (zrd a (zBw w) P) = zS P
  · rw [if_pos q, if_pos rfl, if_pos q, fX8_shownBy_112, zpf_eq, hc, show (0 : Int32) = nI 0 from rfl, nI_add, Nat.add_zero, q]
  · rw [if_neg q, if_neg (by decide), if_neg q, fX8_shownBy_112, zpf_eq, hc, nI_1]
theorem zmshown_loop {N : Nat} {a : zA} {w : Int32} (ho : zOk a) (hN : 600000 ≤ N) : ∀ (g f : Nat) (P : Nat → Bool) (σ : zSt) (c : Nat), 20 ≤ fb_ct P 20 + g → g + 2 ≤ f → zMN σ a → σ.1 0 30 = nI c → ∃ τ, fX8_shownBy_10 N f w (nI (zS P)) 1 σ = some (nI (zS (zsh a (zBw w) P)), τ) ∧ τ.1 0 30 = nI (c + zrnd a (zBw w) 20 P) ∧ zF30 σ τ := by
  have fixed : ∀ (f : Nat) (P : Nat → Bool) (σ : zSt) (c : Nat), zMN σ a → σ.1 0 30 = nI c → zS (zrd a (zBw w) P) = zS P → ∃ τ, fX8_shownBy_10 N (f + 2) w (nI (zS P)) 1 σ = some (nI (zS (zsh a (zBw w) P)), τ) ∧ τ.1 0 30 = nI (c + zrnd a (zBw w) 20 P) ∧ zF30 σ τ := by
    intro f P σ c h hc q
    rw [zmturn h ho hN hc, if_pos q, fX8_shownBy_10, if_pos rfl]
    have e1 : zS (zsh a (zBw w) P) = zS P := zS_qq.mpr (zit_fix ho 20 (zS_qq.mp q))
    have e2 : zrnd a (zBw w) 20 P = 0 := by rw [zrnd, if_pos q]
    rw [e1, e2]
    exact ⟨_, rfl, zsi_s, zF30_set⟩
  intro g
  induction g with
  | zero =>
    intro f P σ c hP hf h hc
    obtain ⟨f', rfl⟩ : ∃ f', f = f' + 2 := ⟨f - 2, by omega⟩
    refine fixed f' P σ c h hc (zS_qq.mpr (Classical.byContradiction (fun hno => ?_)))
    have := zgrow hno
    have := fb_ct_le (zrd a (zBw w) P) 20
    omega
  | succ g ih =>
    intro f P σ c hP hf h hc
    obtain ⟨f', rfl⟩ : ∃ f', f = f' + 2 := ⟨f - 2, by omega⟩
    by_cases q : zS (zrd a (zBw w) P) = zS P
    · exact fixed f' P σ c h hc q
    · have hg := zgrow (fun z => q (zS_qq.mpr z))
      rw [zmturn h ho hN hc, if_neg q]
      obtain ⟨τ, e1, e2, e3⟩ := ih (f' + 1) (zrd a (zBw w) P) (zsi σ 0 30 (nI (c + 1))) (c + 1) (by omega) (by omega) (zMN_30 h zF30_set) zsi_s
      refine ⟨τ, ?_, ?_, zF30_trans zF30_set e3⟩
      · rw [e1]
        have : zS (zsh a (zBw w) (zrd a (zBw w) P)) = zS (zsh a (zBw w) P) := zS_qq.mpr (zit_one ho 21 20 P (by omega) (by omega))
        rw [this]
      · have z : zrnd a (zBw w) 20 P = 1 + zrnd a (zBw w) 19 (zrd a (zBw w) P) := by rw [zrnd, if_neg q]
        rw [e2, z, zrn_one 20 19 (zrd a (zBw w) P) (by omega) (by omega)]
        congr 1
        omega
theorem zmshownBy {N : Nat} {a : zA} {w : Int32} {P : Nat → Bool} {σ : zSt} (h : zMN σ a) (ho : zOk a) (hN : 600000 ≤ N) : ∃ τ, fX8_shownBy N (nI (zS P)) w σ = some (nI (zS (zsh a (zBw w) P)), τ) ∧ τ.1 0 30 = nI (zrnd a (zBw w) 20 P) ∧ zF30 σ τ := by
  unfold fX8_shownBy
  rw [zpf_eq]
  obtain ⟨τ, e1, e2, e3⟩ := zmshown_loop (N := N) (w := w) ho hN 20 N P (zsi σ 0 30 0) 0 (by omega) (by omega) (zMN_30 h zF30_set) zsi_s
  rw [Nat.zero_add] at e2
  exact ⟨τ, e1, e2, zF30_trans zF30_set e3⟩
theorem zBw_none {n : Nat} (hn : n < 2 ^ 20) : zBw (-1000000) n = false := decide_eq_false (fun e => zNone_ne hn e.symm)
theorem zsh_none {a : zA} {P : Nat → Bool} (ho : zOk a) : zS (zsh a (zBw (-1000000)) P) = zS (zsh a (fun _ => false) P) := zS_qq.mpr (zit_cong ho (fun s hs => by
  have := (ho.2.2.2.2 s hs).2.1
  have := ho.1
  exact zBw_none (by omega)) 20 zqq_rfl)
theorem zrnd_cong {a : zA} {B C : Nat → Bool} (ho : zOk a) (hB : ∀ s, s < a 0 1 → B (a 7 s) = C (a 7 s)) : ∀ (g : Nat) {P Q : Nat → Bool}, zqq P Q → zrnd a B g P = zrnd a C g Q
  | 0, _, _, _ => rfl
  | g + 1, P, Q, h => by
    have e := zrd_cong ho hB h
    rw [zrnd, zrnd, zS_qq.mpr h, zS_qq.mpr e, zrnd_cong ho hB g e]
theorem zmshown0 {N : Nat} {a : zA} {P : Nat → Bool} {σ : zSt} (h : zMN σ a) (ho : zOk a) (hN : 600000 ≤ N) : ∃ τ, fX8_shownBy N (nI (zS P)) (-1000000) σ = some (nI (zS (zsh a (fun _ => false) P)), τ) ∧ τ.1 0 30 = nI (zrnd a (fun _ => false) 20 P) ∧ zF30 σ τ := by
  obtain ⟨τ, e1, e2, e3⟩ := zmshownBy (N := N) (w := -1000000) (P := P) h ho hN
  rw [zsh_none ho] at e1
  rw [zrnd_cong (C := fun _ => false) ho (fun s hs => by
    have := (ho.2.2.2.2 s hs).2.1
    have := ho.1
    exact zBw_none (by omega)) 20 zqq_rfl] at e2
  exact ⟨τ, e1, e2, e3⟩
theorem zmshown {N : Nat} {a : zA} {σ : zSt} (h : zMN σ a) (ho : zOk a) (hN : 600000 ≤ N) : ∃ τ, fX8_shownNow N σ = some (nI (zS (zsh a (fun _ => false) (zsd a))), τ) ∧ τ.1 0 30 = nI (zrnd a (fun _ => false) 20 (zsd a)) ∧ zF30 σ τ := by
  unfold fX8_shownNow
  rw [zmstanding h ho hN, zbnd_some]
  obtain ⟨τ, e1, e2, e3⟩ := zmshown0 (N := N) (P := zsd a) h ho hN
  rw [e1, zbnd_some]
  exact ⟨τ, rfl, e2, e3⟩
