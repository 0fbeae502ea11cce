/-! ===== rounds to the end ===== -/
def zex (f : Nat → Bool) : Nat → Bool
  | 0 => false
  | c + 1 => zex f c || f c
theorem zex_iff {f : Nat → Bool} : ∀ {c : Nat}, zex f c = true ↔ ∃ j, j < c ∧ f j = true
  | 0 => ⟨fun h => absurd (show false = true from h) (by decide), fun ⟨j, hj, _⟩ => absurd hj (Nat.not_lt_zero j)⟩
  | c + 1 => by
    rw [zex, Bool.or_eq_true, zex_iff]
    constructor
    · rintro (⟨j, hj, e⟩ | e)
      · exact ⟨j, by omega, e⟩
      · exact ⟨c, by omega, e⟩
    · rintro ⟨j, hj, e⟩
      by_cases q : j = c
      · exact Or.inr (q ▸ e)
      · exact Or.inl ⟨j, by omega, e⟩
/-- step s holds n up -/
def zhu (a : zA) (B P : Nat → Bool) (n s : Nat) : Bool := (a 7 s == n) && (!B n && ((zop a s == 0) && zbu a s P))
def zrk (a : zA) (B P : Nat → Bool) (i n : Nat) : Bool := P n || zex (zhu a B P n) i
def zrd (a : zA) (B P : Nat → Bool) : Nat → Bool := zrk a B P (a 0 1)
def zit (a : zA) (B : Nat → Bool) : Nat → (Nat → Bool) → Nat → Bool
  | 0, P => P
  | g + 1, P => zit a B g (zrd a B P)
/-- the same below 20 -/
def zqq (P Q : Nat → Bool) : Prop := ∀ n, n < 20 → P n = Q n
theorem zqq_rfl {P : Nat → Bool} : zqq P P := fun _ _ => rfl
theorem zqq_symm {P Q : Nat → Bool} (h : zqq P Q) : zqq Q P := fun n hn => (h n hn).symm
theorem zqq_trans {P Q R : Nat → Bool} (h : zqq P Q) (h' : zqq Q R) : zqq P R := fun n hn => (h n hn).trans (h' n hn)
theorem zbu_cong {a : zA} {s : Nat} {P Q : Nat → Bool} (ho : zOk a) (hs : s < a 0 1) (h : zqq P Q) : zbu a s P = zbu a s Q := by
  obtain ⟨o1, o2, o3, o4, o5, o6, o7, o8⟩ := ho.2.2.2.2 s hs
  have h20 := ho.1
  have e : fb_ct (fun j => P (a 9 (6 * s + j))) (a 8 s) = fb_ct (fun j => Q (a 9 (6 * s + j))) (a 8 s) := fb_ct_cong (fun j hj => h _ (by have := o6 j hj; omega))
  have e0 : P (a 9 (6 * s)) = Q (a 9 (6 * s)) := h _ (by have := o6 0 (by omega); rw [Nat.add_zero] at this; omega)
  unfold zbu
  rw [e, e0]
theorem zex_cong {f g : Nat → Bool} : ∀ {c : Nat}, (∀ j, j < c → f j = g j) → zex f c = zex g c
  | 0, _ => rfl
  | c + 1, h => by rw [zex, zex, zex_cong (fun j hj => h j (by omega)), h c (by omega)]
theorem zrd_cong {a : zA} {B C P Q : Nat → Bool} (ho : zOk a) (hB : ∀ s, s < a 0 1 → B (a 7 s) = C (a 7 s)) (h : zqq P Q) : zqq (zrd a B P) (zrd a C Q) := by
  intro n hn
  unfold zrd zrk
  rw [h n hn]
  congr 1
  refine zex_cong (fun s hs => ?_)
  unfold zhu
  rw [zbu_cong ho hs h]
  by_cases q : a 7 s = n
  · rw [← q, hB s hs]
  · have : (a 7 s == n) = false := by simp; exact q
    rw [this]; rfl
theorem zit_cong {a : zA} {B C : Nat → Bool} (ho : zOk a) (hB : ∀ s, s < a 0 1 → B (a 7 s) = C (a 7 s)) : ∀ (g : Nat) {P Q : Nat → Bool}, zqq P Q → zqq (zit a B g P) (zit a C g Q)
  | 0, _, _, h => h
  | g + 1, _, _, h => zit_cong ho hB g (zrd_cong ho hB h)
theorem zrd_up {a : zA} {B P : Nat → Bool} {n : Nat} (h : P n = true) : zrd a B P n = true := by
  unfold zrd zrk
  rw [h]; rfl
/-- a set that a round leaves as it is stays -/
theorem zit_fix {a : zA} {B : Nat → Bool} (ho : zOk a) : ∀ (g : Nat) {P : Nat → Bool}, zqq (zrd a B P) P → zqq (zit a B g P) P
  | 0, _, _ => zqq_rfl
  | g + 1, _, h => zqq_trans (zit_cong ho (fun _ _ => rfl) g h) (zit_fix ho g h)
theorem zgrow {a : zA} {B P : Nat → Bool} (h : ¬ zqq (zrd a B P) P) : fb_ct P 20 + 1 ≤ fb_ct (zrd a B P) 20 := by
  have hex : ∃ n, n < 20 ∧ zrd a B P n = true ∧ P n = false := by
    refine Classical.byContradiction (fun hno => h (fun n hn => ?_))
    cases hp : P n
    · cases hr : zrd a B P n
      · rfl
      · exact absurd ⟨n, hn, hr, hp⟩ hno
    · rw [zrd_up hp]
  obtain ⟨n, hn, h1, h2⟩ := hex
  have e1 := fb_ct_upd P true hn
  rw [h2, if_neg (by decide), if_pos rfl] at e1
  have e2 : fb_ct (fun k => if k = n then true else P k) 20 ≤ fb_ct (zrd a B P) 20 := fb_ct_sub (fun k hk hk2 => by
    by_cases q : k = n
    · rw [q]; exact h1
    · rw [if_neg q] at hk2
      exact zrd_up hk2)
  omega
/-- enough rounds end -/
theorem zit_end {a : zA} {B : Nat → Bool} (ho : zOk a) : ∀ (g : Nat) (P : Nat → Bool), 20 ≤ fb_ct P 20 + g → zqq (zrd a B (zit a B g P)) (zit a B g P)
  | 0, P, h => by
    show zqq (zrd a B P) P
    refine Classical.byContradiction (fun hno => ?_)
    have := zgrow hno
    have := fb_ct_le (zrd a B P) 20
    omega
  | g + 1, P, h => by
    by_cases q : zqq (zrd a B P) P
    · have e := zit_fix ho (g + 1) q
      exact zqq_trans (zrd_cong ho (fun _ _ => rfl) e) (zqq_trans q (zqq_symm e))
    · have := zgrow q
      exact zit_end ho g (zrd a B P) (by omega)
/-- all ends are one -/
theorem zit_one {a : zA} {B : Nat → Bool} (ho : zOk a) : ∀ (g g' : Nat) (P : Nat → Bool), 20 ≤ fb_ct P 20 + g → 20 ≤ fb_ct P 20 + g' → zqq (zit a B g P) (zit a B g' P)
  | 0, g', P, h, h' => by
    refine zqq_symm (zit_fix ho g' ?_)
    exact zit_end ho 0 P h
  | g + 1, 0, P, h, h' => zit_fix ho (g + 1) (zit_end ho 0 P h')
  | g + 1, g' + 1, P, h, h' => by
    by_cases q : zqq (zrd a B P) P
    · exact zqq_trans (zit_fix ho (g + 1) q) (zqq_symm (zit_fix ho (g' + 1) q))
    · have := zgrow q
      exact zit_one ho g g' (zrd a B P) (by omega) (by omega)
/-- the rounds that bring something -/
def zrnd (a : zA) (B : Nat → Bool) : Nat → (Nat → Bool) → Nat
  | 0, _ => 0
  | g + 1, P => if zS (zrd a B P) = zS P then 0 else 1 + zrnd a B g (zrd a B P)
theorem zS_qq {P Q : Nat → Bool} : zS P = zS Q ↔ zqq P Q := by
  refine ⟨fun h n hn => ?_, fun h => zset_cong h⟩
  rw [← zS_bit (P := P) hn, ← zS_bit (P := Q) hn, h]
theorem zrn_one {a : zA} {B : Nat → Bool} : ∀ (g g' : Nat) (P : Nat → Bool), 20 ≤ fb_ct P 20 + g → 20 ≤ fb_ct P 20 + g' → zrnd a B g P = zrnd a B g' P
  | 0, 0, _, _, _ => rfl
  | 0, g' + 1, P, h, h' => by
    have : zqq (zrd a B P) P := Classical.byContradiction (fun hno => by
      have := zgrow hno
      have := fb_ct_le (zrd a B P) 20
      omega)
    rw [zrnd, zrnd, if_pos (zS_qq.mpr this)]
  | g + 1, 0, P, h, h' => by
    have : zqq (zrd a B P) P := Classical.byContradiction (fun hno => by
      have := zgrow hno
      have := fb_ct_le (zrd a B P) 20
      omega)
    rw [zrnd, zrnd, if_pos (zS_qq.mpr this)]
  | g + 1, g' + 1, P, h, h' => by
    rw [zrnd, zrnd]
    by_cases q : zS (zrd a B P) = zS P
    · rw [if_pos q, if_pos q]
    · have := zgrow (fun z => q (zS_qq.mpr z))
      rw [if_neg q, if_neg q, zrn_one g g' (zrd a B P) (by omega) (by omega)]
theorem zrn_le {a : zA} {B : Nat → Bool} : ∀ (g : Nat) (P : Nat → Bool), zrnd a B g P ≤ g
  | 0, _ => Nat.le_refl _
  | g + 1, P => by
    have := zrn_le (a := a) (B := B) g (zrd a B P)
    rw [zrnd]
    split <;> omega
/-- what is shown in the end -/
def zsh (a : zA) (B P : Nat → Bool) : Nat → Bool := zit a B 20 P
/-! the class's round -/
theorem zcround_loop {N : Nat} {a : zA} {σ : zSt} {B P : Nat → Bool} (h : zCN σ a) (ho : zOk a) : ∀ (g f i : Nat), g < f → i + g = a 0 1 → fX2_nextRound_5 N f (nI (zS P)) (nI (zS B)) (nI (zS (zrk a B P i))) (nI i) σ = some (nI (zS (zrd a B P)), σ)
  | 0, f + 1, i, _, hi => by
    have h16 := ho.2.1
    rw [fX2_nextRound_5, h.2.1, if_pos (nI_le (by omega) (by omega)), show i = a 0 1 by omega]
    rfl
  | g + 1, f + 1, i, hf, hi => by
    have h16 := ho.2.1
    have h20 := ho.1
    obtain ⟨o1, o2, o3, o4, o5, o6, o7, o8⟩ := ho.2.2.2.2 i (by omega)
    obtain ⟨c1, c2, c3, c4, c5, c6, c7⟩ := h.2.2.2.2 i (by omega)
    have ih := zcround_loop (N := N) (B := B) (P := P) h ho g f (i + 1) (by omega) (by omega)
    have hst : ∀ n, zrk a B P (i + 1) n = (zrk a B P i n || zhu a B P n i) := fun n => by
      unfold zrk
      rw [zex, Bool.or_assoc]
    have same : (∀ n, n < 20 → zhu a B P n i = true → zrk a B P i n = true) → nI (zS (zrk a B P i)) = nI (zS (zrk a B P (i + 1))) := fun hs => zS_eq.mpr (fun n hn => by
      rw [hst n]
      cases hz : zhu a B P n i
      · rw [Bool.or_false]
      · rw [hs n hn hz]; rfl)
    rw [fX2_nextRound_5, h.2.1, if_neg (nI_ge (by omega) (by omega)), zag_nI (by omega) (by omega), c2, znm_eq, zS_shl (by omega), zS_andn, zS_andn]
    by_cases hz : ∀ n, n < 20 → (((n == a 7 i) && !B n) && !zrk a B P i n) = false
    · rw [if_pos (zS_zero.mpr hz), nI_1, same (fun n hn hu => ?_)]
      · exact ih
      · have hq := hz (a 7 i) (by omega)
        unfold zhu at hu
        simp only [Bool.and_eq_true, beq_iff_eq] at hu
        obtain ⟨hu1, hu2, -⟩ := hu
        rw [hu1] at hq
        cases hr : zrk a B P i n
        · rw [hr, hu2] at hq
          simp at hq
        · rfl
    · rw [if_neg (fun e => hz (zS_zero.mp e)), zag_nI (by omega) (by omega), c5]
      have hBQ : B (a 7 i) = false ∧ zrk a B P i (a 7 i) = false := by
        refine Classical.byContradiction (fun hno => hz (fun n hn => ?_))
        by_cases q : n = a 7 i
        · subst q
          cases hb : B (a 7 i) <;> cases hr : zrk a B P i (a 7 i) <;> simp_all
        · have : (n == a 7 i) = false := by simp; exact q
          rw [this]; rfl
      have hz0 := zop_le ho (s := i) (by omega)
      by_cases q : zop a i = 0
      · rw [if_pos (show nI (zop a i) = 0 by rw [q]; rfl), zcborne h ho (by omega), zbnd_some]
        by_cases hb : zbu a i P = true
        · rw [hb, if_pos rfl, if_neg (by decide), znm_eq, zS_or, nI_1]
          have e : nI (zS (fun i_1 => zrk a B P i i_1 || (i_1 == a 7 i && !B i_1 && !zrk a B P i i_1))) = nI (zS (zrk a B P (i + 1))) := zS_eq.mpr (fun n hn => by
            rw [hst n]
            by_cases w : n = a 7 i
            · subst w
              unfold zhu
              rw [hBQ.1, hBQ.2, q, hb]; simp
            · have w1 : (n == a 7 i) = false := by simp; exact w
              have w2 : zhu a B P n i = false := by
                unfold zhu
                have : (a 7 i == n) = false := by simp; exact fun e => w e.symm
                rw [this]; rfl
              rw [w1, w2]; simp)
          rw [e]
          exact ih
        · rw [if_neg hb, if_pos (by decide), nI_1, same (fun n hn hu => by
            unfold zhu at hu
            simp only [Bool.and_eq_true] at hu
            exact absurd hu.2.2.2 hb)]
          exact ih
      · rw [if_neg (nI_ne0 (by omega) (by omega)), nI_1, same (fun n hn hu => by
          unfold zhu at hu
          simp only [Bool.and_eq_true, beq_iff_eq] at hu
          exact absurd hu.2.2.1 q)]
        exact ih
theorem zcround {N : Nat} {a : zA} {σ : zSt} {B P : Nat → Bool} (h : zCN σ a) (ho : zOk a) (hN : 600000 ≤ N) : fX2_nextRound N (nI (zS P)) (nI (zS B)) σ = some (nI (zS (zrd a B P)), σ) := by
  have h16 := ho.2.1
  have := zcround_loop (N := N) (B := B) (P := P) h ho (a 0 1) N 0 (by omega) (by omega)
  have e : zS (zrk a B P 0) = zS P := zset_cong (fun n _ => by unfold zrk; rw [zex, Bool.or_false])
  rw [e] at this
  exact this
theorem zcspread_loop {N : Nat} {a : zA} {σ : zSt} {B : Nat → Bool} (h : zCN σ a) (ho : zOk a) (hN : 600000 ≤ N) : ∀ (g f r : Nat) (P : Nat → Bool), g < f → r + g = 20 → fX2_spread_5 N f (nI (zS B)) (nI (zS P)) (nI r) σ = some (nI (zS (zit a B g P)), σ)
  | 0, f + 1, r, P, _, hr => by
    rw [fX2_spread_5, if_pos (show (20 : Int32) ≤ nI r from nI_le (a := 20) (by omega) (by omega))]
    rfl
  | g + 1, f + 1, r, P, hf, hr => by
    rw [fX2_spread_5, if_neg (show ¬ (20 : Int32) ≤ nI r from nI_ge (b := 20) (by omega) (by omega)), zcround h ho hN, zbnd_some]
    by_cases q : nI (zS (zrd a B P)) = nI (zS P)
    · have hq : zqq (zrd a B P) P := zS_eq.mp q
      rw [if_pos q, zS_qq.mpr (zit_fix ho (g + 1) hq)]
    · rw [if_neg q, nI_1]
      exact zcspread_loop h ho hN g f (r + 1) (zrd a B P) (by omega) (by omega)
theorem zcspread {N : Nat} {a : zA} {σ : zSt} {B P : Nat → Bool} (h : zCN σ a) (ho : zOk a) (hN : 600000 ≤ N) : fX2_spread N (nI (zS P)) (nI (zS B)) σ = some (nI (zS (zsh a B P)), σ) := zcspread_loop h ho hN 20 N 0 P (by omega) (by omega)
theorem zcspread0 {N : Nat} {a : zA} {σ : zSt} {P : Nat → Bool} (h : zCN σ a) (ho : zOk a) (hN : 600000 ≤ N) : fX2_spread N (nI (zS P)) 0 σ = some (nI (zS (zsh a (fun _ => false) P)), σ) := by
  have := zcspread (N := N) (B := fun _ => false) (P := P) h ho hN
  rw [zS_0] at this
  exact this
theorem zcshown {N : Nat} {a : zA} {σ : zSt} (h : zCN σ a) (ho : zOk a) (hN : 600000 ≤ N) : fX2_shownNow N σ = some (nI (zS (zsh a (fun _ => false) (zsd a))), σ) := by
  unfold fX2_shownNow
  rw [zcstanding h ho hN, zbnd_some, zcspread0 h ho hN, zbnd_some]
theorem zcrounds_loop {N : Nat} {a : zA} {σ : zSt} (h : zCN σ a) (ho : zOk a) (hN : 600000 ≤ N) : ∀ (g f r c : Nat) (P : Nat → Bool), g < f → r + g = 20 → fX2_roundsNow_9 N f (nI c) (nI (zS P)) (nI r) σ = some (nI (c + zrnd a (fun _ => false) g P), σ)
  | 0, f + 1, r, c, P, _, hr => by
    rw [fX2_roundsNow_9, if_pos (show (20 : Int32) ≤ nI r from nI_le (a := 20) (by omega) (by omega))]
    rfl
  | g + 1, f + 1, r, c, P, hf, hr => by
    have hrd := zcround (N := N) (B := fun _ => false) (P := P) h ho hN
    rw [zS_0] at hrd
    have hrd : fX2_nextRound N (nI (zS P)) 0 σ = some (nI (zS (zrd a (fun _ => false) P)), σ) := hrd
    rw [fX2_roundsNow_9, if_neg (show ¬ (20 : Int32) ≤ nI r from nI_ge (b := 20) (by omega) (by omega)), hrd, zbnd_some, zrnd]
    by_cases q : nI (zS (zrd a (fun _ => false) P)) = nI (zS P)
    · rw [if_pos q, if_pos (zS_qq.mpr (zS_eq.mp q))]
      rfl
    · rw [if_neg q, if_neg (fun e => q (by rw [e])), nI_1, nI_1, zcrounds_loop h ho hN g f (r + 1) (c + 1) _ (by omega) (by omega), show c + 1 + zrnd a (fun _ => false) g (zrd a (fun _ => false) P) = c + (1 + zrnd a (fun _ => false) g (zrd a (fun _ => false) P)) by omega]
theorem zcrounds {N : Nat} {a : zA} {σ : zSt} (h : zCN σ a) (ho : zOk a) (hN : 600000 ≤ N) : fX2_roundsNow N σ = some (nI (zrnd a (fun _ => false) 20 (zsd a)), σ) := by
  unfold fX2_roundsNow
  rw [zcstanding h ho hN, zbnd_some]
  have := zcrounds_loop (N := N) h ho hN 20 N 0 0 (zsd a) (by omega) (by omega)
  rw [Nat.zero_add] at this
  exact this
