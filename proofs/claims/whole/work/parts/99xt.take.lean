/-! ===== a token on both sides ===== -/
def zTk (t : Nat → Nat) (len q e k : Nat) : Prop := q ≤ e ∧ e ≤ len ∧ ((k = 0 ∧ q = len) ∨ (k = 1 ∧ q < e ∧ ∀ i, q ≤ i → i < e → 97 ≤ t i ∧ t i ≤ 122) ∨ (k = 2 ∧ q < e ∧ e ≤ q + 4 ∧ ∀ i, q ≤ i → i < e → 48 ≤ t i ∧ t i ≤ 57) ∨ (k = 3 ∧ q < e) ∨ (k = 5 ∧ q < e))
/-- a token's number in the reference -/
def zrt (k : Nat) : Nat := ([1, 2, 3, 4, 0, 0] : List Nat).getD k 0
def zPT (σ ρ : zSt) (t : Nat → Nat) (len q e k : Nat) : Prop := zTp σ ρ t len ∧ zTk t len q e k ∧ σ.1 5 2 = nI q ∧ σ.1 5 3 = nI e ∧ σ.1 5 4 = nI k ∧ (k = 2 → σ.1 5 5 = nI (znu t q (e - q))) ∧ ρ.1 0 23 = nI e ∧ ρ.1 0 24 = nI (zrt k) ∧ ρ.1 0 25 = nI q ∧ ρ.1 0 26 = nI e
theorem zso_le (t : Nat → Nat) (len i : Nat) : zso t len i ≤ 5 := by
  unfold zso
  have := zsb_lt (t i)
  split <;> omega
theorem zc44 {N q len : Nat} {t : Nat → Nat} {σ ρ : zSt} (hT : zTp σ ρ t len) (hq : q ≤ len) (h2 : σ.1 5 2 = nI q) : fX5_take_44 N σ = (if zso t len q = 1 ∨ zso t len q = 2 then fX5_take_95 N N 1 (zsi (zsi σ 5 4 (nI (zso t len q))) 5 3 (nI (if q < len then q + 1 else len))) else fX5_take_95 N N 0 (zsi (zsi σ 5 4 (nI (zso t len q))) 5 3 (nI (if q < len then q + 1 else len)))) := by
  have hl := hT.1
  have hz := zso_le t len q
  unfold fX5_take_44 fX5_take_89 fX5_take_94
  rw [h2, zcsort hT (by omega), zbnd_some, zpf_eq, zpf_eq]
  have e1 : (zsi σ 5 4 (nI (zso t len q))).1 5 1 = nI len := (zsi_o (by decide)).trans hT.2.2.1
  have e2 : (zsi σ 5 4 (nI (zso t len q))).1 5 2 = nI q := (zsi_o (by decide)).trans h2
  have e3 : (if (zsi σ 5 4 (nI (zso t len q))).1 5 1 < (zsi σ 5 4 (nI (zso t len q))).1 5 2 + 1 then (zsi σ 5 4 (nI (zso t len q))).1 5 1 else (zsi σ 5 4 (nI (zso t len q))).1 5 2 + 1) = nI (if q < len then q + 1 else len) := by
    rw [e1, e2, nI_1]
    by_cases w : q < len
    · rw [if_neg (nI_nlt (by omega) (by omega)), if_pos w]
    · rw [if_pos (nI_lt (by omega) (by omega)), if_neg w]
  rw [e3]
  have e4 : ∀ v, (zsi (zsi σ 5 4 (nI (zso t len q))) 5 3 v).1 5 4 = nI (zso t len q) := fun v => (zsi_o (by decide)).trans zsi_s
  rw [e4]
  by_cases w1 : zso t len q = 1
  · rw [if_pos (show nI (zso t len q) = (1 : Int32) by rw [w1]; rfl), if_pos (Or.inl w1)]
  · rw [if_neg (show ¬ nI (zso t len q) = (1 : Int32) from fun z => w1 ((nI_eq (b := 1) (by omega) (by omega)).mp z))]
    by_cases w2 : zso t len q = 2
    · rw [if_pos (show nI (zso t len q) = (2 : Int32) by rw [w2]; rfl), if_pos (Or.inr w2)]
    · rw [if_neg (show ¬ nI (zso t len q) = (2 : Int32) from fun z => w2 ((nI_eq (b := 2) (by omega) (by omega)).mp z)), if_neg (show ¬ (zso t len q = 1 ∨ zso t len q = 2) by omega)]
theorem zm0 {N f q len : Nat} {t : Nat → Nat} {σ ρ : zSt} (hT : zTp σ ρ t len) (hq : q ≤ len) (h23 : ρ.1 0 23 = nI q) (hz : zso t len q ≠ 4) : fX8_next_0 N (f + 1) ρ = (if q < len then (if zsb (t q) = 1 then fX8_next_77 N N (zsi ρ 0 25 (nI q)) else if zsb (t q) = 2 then fX8_next_119 N N (zsi ρ 0 25 (nI q)) else if zsb (t q) = 3 then fX8_next_193 N 4 (zsi (zsi ρ 0 25 (nI q)) 0 23 (nI (q + 1))) else fX8_next_193 N 0 (zsi (zsi ρ 0 25 (nI q)) 0 23 (nI (q + 1)))) else fX8_next_196 N (zsi (zsi ρ 0 25 (nI q)) 0 24 1)) := by
  have hl := hT.1
  have hT2 : zTp σ (zsi ρ 0 25 (nI q)) t len := zTp_fr hT rfl rfl (zsi_o (by decide)) (zsi_c (by decide))
  have mb := zmbyte (N := N) (i := q) hT (by omega)
  have mb2 := zmbyte (N := N) (i := q) hT2 (by omega)
  have h23' : (zsi ρ 0 25 (nI q)).1 0 23 = nI q := (zsi_o (by decide)).trans h23
  by_cases w : q < len
  · have hb := hT.2.1 q w
    have es : zso t len q = zsb (t q) := by unfold zso; rw [if_pos w]
    rw [es] at hz
    have n4 : ¬ (t q = 32 ∨ t q = 10) := fun z => hz (zsb_4.mpr z)
    rw [if_pos w] at mb mb2
    rw [fX8_next_0, h23, mb, zbnd_some, if_neg (show ¬ nI (t q) = (32 : Int32) from fun z => n4 (Or.inl ((nI_eq (b := 32) (by omega) (by omega)).mp z))), h23, mb, zbnd_some, if_neg (show ¬ nI (t q) = (10 : Int32) from fun z => n4 (Or.inr ((nI_eq (b := 10) (by omega) (by omega)).mp z))), zpf_eq, h23, h23', mb2, zbnd_some, if_neg (show ¬ nI (t q) = -1000000 from zNone_ne (by omega)), zmlet hb, zbnd_some, if_pos w]
    by_cases k1 : zsb (t q) = 1
    · rw [if_pos k1, if_pos k1, if_neg (show ¬ nI 1 = (0 : Int32) by decide)]
    · rw [if_neg k1, if_neg k1, if_pos (show nI 0 = (0 : Int32) from rfl), zmfig hb, zbnd_some]
      by_cases k2 : zsb (t q) = 2
      · rw [if_pos k2, if_pos k2, if_neg (show ¬ nI 1 = (0 : Int32) by decide)]
      · rw [if_neg k2, if_neg k2, if_pos (show nI 0 = (0 : Int32) from rfl), zpf_eq, h23', nI_1]
        by_cases k3 : zsb (t q) = 3
        · rw [if_pos k3, if_pos (show nI (t q) = (59 : Int32) by rw [zsb_3.mp k3]; rfl)]
        · rw [if_neg k3, if_neg (show ¬ nI (t q) = (59 : Int32) from fun z => k3 (zsb_3.mpr ((nI_eq (b := 59) (by omega) (by omega)).mp z)))]
  · rw [if_neg w] at mb mb2
    rw [fX8_next_0, h23, mb, zbnd_some, if_neg (by decide), h23, mb, zbnd_some, if_neg (by decide), zpf_eq, h23, h23', mb2, zbnd_some, if_pos rfl, zpf_eq, if_neg w]
theorem zc95_0 {N : Nat} {σ : zSt} : ∀ f, 1 ≤ f → fX5_take_95 N f 0 σ = fX5_take_138 N σ
  | f + 1, _ => by rw [fX5_take_95, if_pos rfl]
theorem ztake2 {N p len : Nat} {t : Nat → Nat} {σ ρ : zSt} (hN : 600000 ≤ N) (hT : zTp σ ρ t len) (hp : p ≤ len) (h3 : σ.1 5 3 = nI p) (h23 : ρ.1 0 23 = nI p) : ∃ τ υ q e k, fX5_take N σ = some ((), τ) ∧ fX8_next N ρ = some ((), υ) ∧ p ≤ q ∧ zPT τ υ t len q e k ∧ (∀ c, c ≠ 5 → τ.1 c = σ.1 c) ∧ τ.1 5 1 = σ.1 5 1 ∧ (∀ c, c ≠ 0 → υ.1 c = ρ.1 c) ∧ ∀ i, (i < 23 ∨ 26 < i) → υ.1 0 i = ρ.1 0 i := by
  have hl := hT.1
  have hT0 : zTp (zsi σ 5 2 (nI p)) ρ t len := zTp_fr hT (zsi_o (by decide)) (zsi_c (by decide)) rfl rfl
  obtain ⟨q, τ1, υ1, f'', a1, a2, a3, a4, a5, a6, a7, a8, a9, a10, a11⟩ := zskip2 (N := N) (len - p) N N p (zsi σ 5 2 (nI p)) ρ (by omega) (by omega) (by omega) hT0 zsi_s h23
  have hT1 : zTp τ1 υ1 t len := zTp_fr hT0 (a8 1 (by decide)) (a7 6 (by decide)) (a11 22 (by decide)) (a10 14 (by decide))
  have ec : fX5_take N σ = fX5_take_44 N τ1 := by
    unfold fX5_take
    rw [zpf_eq, h3]
    exact a4
  have em : fX8_next N ρ = fX8_next_0 N (f'' + 1) υ1 := a5
  rw [ec, em, zm0 hT1 a2 a9 a3, zc44 hT1 a2 a6]
  have kc : ∀ {τ : zSt}, (∀ c, c ≠ 5 → τ.1 c = τ1.1 c) → ∀ c, c ≠ 5 → τ.1 c = σ.1 c := fun h c hc => (h c hc).trans ((a7 c hc).trans (zsi_c hc))
  have k1 : ∀ {τ : zSt}, τ.1 5 1 = τ1.1 5 1 → τ.1 5 1 = σ.1 5 1 := fun h => h.trans ((a8 1 (by decide)).trans (zsi_o (by decide)))
  have mc : ∀ {υ : zSt}, (∀ c, c ≠ 0 → υ.1 c = υ1.1 c) → ∀ c, c ≠ 0 → υ.1 c = ρ.1 c := fun h c hc => (h c hc).trans (a10 c hc)
  have m1 : ∀ {υ : zSt}, (∀ i, (i < 23 ∨ 26 < i) → υ.1 0 i = υ1.1 0 i) → ∀ i, (i < 23 ∨ 26 < i) → υ.1 0 i = ρ.1 0 i := fun h i hi => (h i hi).trans (a11 i (by omega))
  by_cases w : q < len
  · have es : zso t len q = zsb (t q) := by unfold zso; rw [if_pos w]
    have hs := zsb_lt (t q)
    rw [es] at a3
    rw [if_pos w, if_pos w, es]
    by_cases q1 : zsb (t q) = 1
    · rw [if_pos (Or.inl q1), if_pos q1, q1]
      have hTc : zTp (zsi (zsi τ1 5 4 (nI 1)) 5 3 (nI (q + 1))) υ1 t len := zTp_fr hT1 ((zsi_o (by decide)).trans (zsi_o (by decide))) (by rw [zsi_c (by decide), zsi_c (by decide)]) rfl rfl
      have hTm : zTp τ1 (zsi υ1 0 25 (nI q)) t len := zTp_fr hT1 rfl rfl (zsi_o (by decide)) (zsi_c (by decide))
      obtain ⟨e, τ, r1, r2, r3, r4, r5⟩ := zcrun (N := N) (k := 1) (by decide) (len - (q + 1)) N (q + 1) (zsi (zsi τ1 5 4 (nI 1)) 5 3 (nI (q + 1))) (by omega) (by omega) hTc zsi_s ((zsi_o (by decide)).trans zsi_s)
      obtain ⟨e2, υ, u1, u2, u3, u4, u5, u6, u7⟩ := zmrun1 (N := N) (len - q) N q (zsi υ1 0 25 (nI q)) (by omega) (by omega) hTm ((zsi_o (by decide)).trans a9)
      have he : zend t len 1 q e := ⟨by have := r1.1; omega, r1.2.1, fun i h1 h2 => by
        by_cases v : i = q
        · rw [v]; exact q1
        · exact r1.2.2.1 i (by omega) h2, r1.2.2.2⟩
      have ee := zend_one he u1
      subst ee
      have r1' := r1.1
      have t4 : τ.1 5 4 = nI 1 := by rw [r5 4 (by decide), zsi_o (by decide), zsi_s]
      have h138 : fX5_take_138 N τ = some ((), τ) := by
        unfold fX5_take_138
        rw [t4, if_neg (by decide)]
      rw [r2, h138, u2]
      refine ⟨τ, υ, q, e, 1, rfl, rfl, a1, ⟨zTp_fr hT1 ?_ ?_ ?_ ?_, ⟨by omega, r1.2.1, Or.inr (Or.inl ⟨rfl, by omega, fun i h1 h2 => zsb_1.mp (he.2.2.1 i h1 h2)⟩)⟩, ?_, r3, t4, fun z => absurd z (by decide), u3, u4, ?_, u5⟩, kc (fun c hc => ?_), k1 ?_, mc (fun c hc => ?_), m1 (fun i hi => ?_)⟩
      · rw [r5 1 (by decide), zsi_o (by decide), zsi_o (by decide)]
      · rw [r4 6 (by decide), zsi_c (by decide), zsi_c (by decide)]
      · rw [u7 22 (by decide) (by decide) (by decide), zsi_o (by decide)]
      · rw [u6 14 (by decide), zsi_c (by decide)]
      · rw [r5 2 (by decide), zsi_o (by decide), zsi_o (by decide)]; exact a6
      · rw [u7 25 (by decide) (by decide) (by decide), zsi_s]
      · rw [r4 c hc, zsi_c hc, zsi_c hc]
      · rw [r5 1 (by decide), zsi_o (by decide), zsi_o (by decide)]
      · rw [u6 c hc, zsi_c hc]
      · rw [u7 i (by omega) (by omega) (by omega), zsi_o (by omega)]
    · by_cases q2 : zsb (t q) = 2
      · rw [if_pos (Or.inr q2), if_neg q1, if_pos q2, q2]
        have hTc : zTp (zsi (zsi τ1 5 4 (nI 2)) 5 3 (nI (q + 1))) υ1 t len := zTp_fr hT1 ((zsi_o (by decide)).trans (zsi_o (by decide))) (by rw [zsi_c (by decide), zsi_c (by decide)]) rfl rfl
        have hTm : zTp τ1 (zsi υ1 0 25 (nI q)) t len := zTp_fr hT1 rfl rfl (zsi_o (by decide)) (zsi_c (by decide))
        obtain ⟨e, τ, r1, r2, r3, r4, r5⟩ := zcrun (N := N) (k := 2) (by decide) (len - (q + 1)) N (q + 1) (zsi (zsi τ1 5 4 (nI 2)) 5 3 (nI (q + 1))) (by omega) (by omega) hTc zsi_s ((zsi_o (by decide)).trans zsi_s)
        obtain ⟨e2, υ, u1, u2, u3, u4, u5, u6, u7⟩ := zmrun2 (N := N) (q0 := q) (len - q) N q (zsi υ1 0 25 (nI q)) (by omega) (by omega) (Nat.le_refl _) hTm ((zsi_o (by decide)).trans a9) zsi_s
        have he : zend t len 2 q e := ⟨by have := r1.1; omega, r1.2.1, fun i h1 h2 => by
          by_cases v : i = q
          · rw [v]; exact q2
          · exact r1.2.2.1 i (by omega) h2, r1.2.2.2⟩
        have ee := zend_one he u1
        subst ee
        have r1' := r1.1
        have r12 := r1.2.1
        have hd : ∀ i, q ≤ i → i < e → 48 ≤ t i ∧ t i ≤ 57 := fun i h1 h2 => zsb_2.mp (he.2.2.1 i h1 h2)
        have t4 : τ.1 5 4 = nI 2 := by rw [r5 4 (by decide), zsi_o (by decide), zsi_s]
        have t2 : τ.1 5 2 = nI q := by rw [r5 2 (by decide), zsi_o (by decide), zsi_o (by decide)]; exact a6
        have t1 : τ.1 5 1 = τ1.1 5 1 := by rw [r5 1 (by decide), zsi_o (by decide), zsi_o (by decide)]
        have tc : ∀ c, c ≠ 5 → τ.1 c = τ1.1 c := fun c hc => by rw [r4 c hc, zsi_c hc, zsi_c hc]
        have hTt : zTp (zsi τ 5 5 0) υ1 t len := zTp_fr hT1 ((zsi_o (by decide)).trans t1) ((zsi_c (by decide)).trans (tc 6 (by decide))) rfl rfl
        obtain ⟨τ2, w1, w2, w3, w4⟩ := zcworth (N := N) (q := q) (e := e) (len := len) (t := t) (ρ := υ1) r12 (by omega) hd (if e - q ≤ 4 then e - q else 4) N 0 (zsi τ 5 5 0) (by split <;> omega) (by omega) hTt ((zsi_o (by decide)).trans t2) ((zsi_o (by decide)).trans r3) zsi_s
        have w1 : fX5_takeWorth_10 N N (nI q) (zsi τ 5 5 0) = fX5_takeWorth_55 N τ2 := w1
        have s2 : τ2.1 5 2 = nI q := by rw [w4 2 (by decide), zsi_o (by decide)]; exact t2
        have s3 : τ2.1 5 3 = nI e := by rw [w4 3 (by decide), zsi_o (by decide)]; exact r3
        have s4 : τ2.1 5 4 = nI 2 := by rw [w4 4 (by decide), zsi_o (by decide)]; exact t4
        have s1 : τ2.1 5 1 = τ1.1 5 1 := by rw [w4 1 (by decide), zsi_o (by decide)]; exact t1
        have sc : ∀ c, c ≠ 5 → τ2.1 c = τ1.1 c := fun c hc => by rw [w3 c hc, zsi_c hc]; exact tc c hc
        have h138 : fX5_take_138 N τ = zbnd (fX5_takeWorth_55 N τ2) (fun (b1 : Unit) (σ2 : zSt) => some ((), σ2)) := by
          unfold fX5_take_138 fX5_takeWorth
          rw [t4, if_pos (show nI 2 = (2 : Int32) from rfl), zpf_eq, znm_eq, show (zsi τ 5 5 0).1 5 2 = nI q from (zsi_o (by decide)).trans t2, w1]
        rw [r2, h138, u2]
        unfold fX5_takeWorth_55
        rw [s2, s3, pk_sub (by omega)]
        have ucc : ∀ c, c ≠ 0 → υ.1 c = υ1.1 c := fun c hc => by rw [u6 c hc, zsi_c hc]
        have ui : ∀ i, (i < 23 ∨ 26 < i) → υ.1 0 i = υ1.1 0 i := fun i hi => by rw [u7 i (by omega) (by omega) (by omega), zsi_o (by omega)]
        have u25 : υ.1 0 25 = nI q := by rw [u7 25 (by decide) (by decide) (by decide), zsi_s]
        by_cases v : e - q ≤ 4
        · rw [if_pos v] at u4 w2
          rw [if_pos (show nI (e - q) ≤ (4 : Int32) from nI_le (b := 4) v (by decide)), zbnd_some]
          exact ⟨τ2, υ, q, e, 2, rfl, rfl, a1, ⟨zTp_fr hT1 s1 (sc 6 (by decide)) (ui 22 (by omega)) (ucc 14 (by decide)), ⟨by omega, r12, Or.inr (Or.inr (Or.inl ⟨rfl, by omega, by omega, hd⟩))⟩, s2, s3, s4, fun _ => w2, u3, u4, u25, u5⟩, kc sc, k1 s1, mc ucc, m1 ui⟩
        · rw [if_neg v] at u4
          rw [if_neg (show ¬ nI (e - q) ≤ (4 : Int32) from nI_ge (a := 4) (by omega) (by omega)), zpf_eq, zbnd_some]
          exact ⟨_, υ, q, e, 5, rfl, rfl, a1, ⟨zTp_fr hT1 ((zsi_o (by decide)).trans s1) ((zsi_c (by decide)).trans (sc 6 (by decide))) (ui 22 (by omega)) (ucc 14 (by decide)), ⟨by omega, r12, Or.inr (Or.inr (Or.inr (Or.inr ⟨rfl, by omega⟩)))⟩, (zsi_o (by decide)).trans s2, (zsi_o (by decide)).trans s3, zsi_s, fun z => absurd z (by decide), u3, u4, u25, u5⟩, kc (fun c hc => (zsi_c hc).trans (sc c hc)), k1 ((zsi_o (by decide)).trans s1), mc ucc, m1 ui⟩
      · have n12 : ¬ (zsb (t q) = 1 ∨ zsb (t q) = 2) := by omega
        rw [if_neg n12, if_neg q1, if_neg q2, zc95_0 N (by omega)]
        have s4 : (zsi (zsi τ1 5 4 (nI (zsb (t q)))) 5 3 (nI (q + 1))).1 5 4 = nI (zsb (t q)) := (zsi_o (by decide)).trans zsi_s
        have h138 : fX5_take_138 N (zsi (zsi τ1 5 4 (nI (zsb (t q)))) 5 3 (nI (q + 1))) = some ((), zsi (zsi τ1 5 4 (nI (zsb (t q)))) 5 3 (nI (q + 1))) := by
          unfold fX5_take_138
          rw [s4, if_neg (show ¬ nI (zsb (t q)) = (2 : Int32) from fun z => q2 ((nI_eq (b := 2) (by omega) (by omega)).mp z))]
        rw [h138]
        have fin : ∀ v : Nat, v = zrt (zsb (t q)) → ∃ υ, fX8_next_193 N (nI v) (zsi (zsi υ1 0 25 (nI q)) 0 23 (nI (q + 1))) = some ((), υ) ∧ υ.1 0 23 = nI (q + 1) ∧ υ.1 0 24 = nI (zrt (zsb (t q))) ∧ υ.1 0 25 = nI q ∧ υ.1 0 26 = nI (q + 1) ∧ (∀ c, c ≠ 0 → υ.1 c = υ1.1 c) ∧ ∀ i, (i < 23 ∨ 26 < i) → υ.1 0 i = υ1.1 0 i := by
          intro v hv
          unfold fX8_next_193 fX8_next_196
          rw [zpf_eq, zpf_eq, show (zsi (zsi (zsi υ1 0 25 (nI q)) 0 23 (nI (q + 1))) 0 24 (nI v)).1 0 23 = nI (q + 1) from (zsi_o (by decide)).trans zsi_s]
          refine ⟨_, rfl, ?_, ?_, ?_, zsi_s, fun c hc => by rw [zsi_c hc, zsi_c hc, zsi_c hc, zsi_c hc], fun i hi => by rw [zsi_o (by omega), zsi_o (by omega), zsi_o (by omega), zsi_o (by omega)]⟩
          · rw [zsi_o (by decide), zsi_o (by decide), zsi_s]
          · rw [zsi_o (by decide), zsi_s, hv]
          · rw [zsi_o (by decide), zsi_o (by decide), zsi_o (by decide), zsi_s]
        have rest : ∀ (υ : zSt), υ.1 0 23 = nI (q + 1) → υ.1 0 24 = nI (zrt (zsb (t q))) → υ.1 0 25 = nI q → υ.1 0 26 = nI (q + 1) → (∀ c, c ≠ 0 → υ.1 c = υ1.1 c) → (∀ i, (i < 23 ∨ 26 < i) → υ.1 0 i = υ1.1 0 i) → (zsb (t q) = 3 ∨ zsb (t q) = 5) → zPT (zsi (zsi τ1 5 4 (nI (zsb (t q)))) 5 3 (nI (q + 1))) υ t len q (q + 1) (zsb (t q)) := by
          intro υ v1 v2 v3 v4 v5 v6 v7
          refine ⟨zTp_fr hT1 ?_ ?_ (v6 22 (by omega)) (v5 14 (by decide)), ⟨by omega, by omega, Or.inr (Or.inr (Or.inr ?_))⟩, ?_, zsi_s, s4, fun z => absurd z q2, v1, v2, v3, v4⟩
          · rw [zsi_o (by decide), zsi_o (by decide)]
          · rw [zsi_c (by decide), zsi_c (by decide)]
          · rcases v7 with v7 | v7
            · exact Or.inl ⟨v7, by omega⟩
            · exact Or.inr ⟨v7, by omega⟩
          · rw [zsi_o (by decide), zsi_o (by decide)]; exact a6
        by_cases q3 : zsb (t q) = 3
        · obtain ⟨υ, v0, v1, v2, v3, v4, v5, v6⟩ := fin 4 (by rw [q3]; rfl)
          have v0 : fX8_next_193 N 4 (zsi (zsi υ1 0 25 (nI q)) 0 23 (nI (q + 1))) = some ((), υ) := v0
          rw [if_pos q3, v0]
          exact ⟨_, υ, q, q + 1, zsb (t q), rfl, rfl, a1, rest υ v1 v2 v3 v4 v5 v6 (Or.inl q3), kc (fun c hc => by rw [zsi_c hc, zsi_c hc]), k1 (by rw [zsi_o (by decide), zsi_o (by decide)]), mc v5, m1 v6⟩
        · have q5 : zsb (t q) = 5 := by omega
          obtain ⟨υ, v0, v1, v2, v3, v4, v5, v6⟩ := fin 0 (by rw [q5]; rfl)
          have v0 : fX8_next_193 N 0 (zsi (zsi υ1 0 25 (nI q)) 0 23 (nI (q + 1))) = some ((), υ) := v0
          rw [if_neg q3, v0]
          exact ⟨_, υ, q, q + 1, zsb (t q), rfl, rfl, a1, rest υ v1 v2 v3 v4 v5 v6 (Or.inr q5), kc (fun c hc => by rw [zsi_c hc, zsi_c hc]), k1 (by rw [zsi_o (by decide), zsi_o (by decide)]), mc v5, m1 v6⟩
  · have es : zso t len q = 0 := by unfold zso; rw [if_neg w]
    have eq : q = len := by omega
    rw [if_neg w, if_neg w, es, if_neg (by decide), zc95_0 N (by omega)]
    have s4 : (zsi (zsi τ1 5 4 (nI 0)) 5 3 (nI len)).1 5 4 = nI 0 := (zsi_o (by decide)).trans zsi_s
    have h138 : fX5_take_138 N (zsi (zsi τ1 5 4 (nI 0)) 5 3 (nI len)) = some ((), zsi (zsi τ1 5 4 (nI 0)) 5 3 (nI len)) := by
      unfold fX5_take_138
      rw [s4, if_neg (by decide)]
    have e26 : (zsi (zsi υ1 0 25 (nI q)) 0 24 1).1 0 23 = nI q := (zsi_o (by decide)).trans ((zsi_o (by decide)).trans a9)
    unfold fX8_next_196
    rw [h138, zpf_eq, e26]
    refine ⟨_, _, q, len, 0, rfl, rfl, a1, ⟨zTp_fr hT1 ?_ ?_ ?_ ?_, ⟨by omega, Nat.le_refl _, Or.inl ⟨rfl, eq⟩⟩, ?_, zsi_s, s4, fun z => absurd z (by decide), ?_, ?_, ?_, ?_⟩, kc (fun c hc => by rw [zsi_c hc, zsi_c hc]), k1 ?_, mc (fun c hc => by rw [zsi_c hc, zsi_c hc, zsi_c hc]), m1 (fun i hi => by rw [zsi_o (by omega), zsi_o (by omega), zsi_o (by omega)])⟩
    · rw [zsi_o (by decide), zsi_o (by decide)]
    · rw [zsi_c (by decide), zsi_c (by decide)]
    · rw [zsi_o (by decide), zsi_o (by decide), zsi_o (by decide)]
    · rw [zsi_c (by decide), zsi_c (by decide), zsi_c (by decide)]
    · rw [zsi_o (by decide), zsi_o (by decide)]; exact a6
    · rw [zsi_o (by decide), e26, eq]
    · rw [zsi_o (by decide), zsi_s]; rfl
    · rw [zsi_o (by decide), zsi_o (by decide), zsi_s]
    · rw [zsi_s, eq]
    · rw [zsi_o (by decide), zsi_o (by decide)]
