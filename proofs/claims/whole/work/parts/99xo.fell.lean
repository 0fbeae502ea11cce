/-! ===== felling: what fells, monotone; lists of sets ===== -/
/-- the claim falls with these leaves -/
def zfl (a : zA) (cl : Nat) (X : Nat → Bool) : Bool := !zsh a (fun _ => false) (fun i => zsd a i && !X i) cl
theorem zfl_cong {a : zA} {cl : Nat} {X Y : Nat → Bool} (ho : zOk a) (hcl : cl < 20) (h : zqq X Y) : zfl a cl X = zfl a cl Y := by
  have e : zqq (zsh a (fun _ => false) (fun i => zsd a i && !X i)) (zsh a (fun _ => false) (fun i => zsd a i && !Y i)) := zit_cong ho (fun _ _ => rfl) 20 (fun n hn => by
    show (zsd a n && !X n) = (zsd a n && !Y n)
    rw [h n hn])
  unfold zfl
  rw [e cl hcl]
theorem zbu_mono {a : zA} {s : Nat} {P Q : Nat → Bool} (ho : zOk a) (hs : s < a 0 1) (h : ∀ n, n < 20 → P n = true → Q n = true) (hp : zbu a s P = true) : zbu a s Q = true := by
  obtain ⟨o1, o2, o3, o4, o5, o6, o7, o8⟩ := ho.2.2.2.2 s hs
  have h20 := ho.1
  have e : fb_ct (fun j => P (a 9 (6 * s + j))) (a 8 s) ≤ fb_ct (fun j => Q (a 9 (6 * s + j))) (a 8 s) := fb_ct_sub (fun j hj z => h _ (by have := o6 j hj; omega) z)
  have le := fb_ct_le (fun j => Q (a 9 (6 * s + j))) (a 8 s)
  have o60 := o6 0 (by omega)
  rw [Nat.add_zero] at o60
  unfold zbu at *
  by_cases f0 : a 6 s = 0
  · rw [if_pos f0] at *
    rw [beq_iff_eq] at *
    omega
  · rw [if_neg f0] at *
    by_cases f1 : a 6 s = 1
    · rw [if_pos f1] at *
      rw [decide_eq_true_eq] at *
      omega
    · rw [if_neg f1] at *
      by_cases f2 : a 6 s = 2
      · rw [if_pos f2] at *
        rw [decide_eq_true_eq] at *
        omega
      · rw [if_neg f2] at *
        exact h _ (by omega) hp
theorem zrd_mono {a : zA} {B P Q : Nat → Bool} (ho : zOk a) (h : ∀ n, n < 20 → P n = true → Q n = true) : ∀ n, n < 20 → zrd a B P n = true → zrd a B Q n = true := by
  intro n hn hp
  unfold zrd zrk at *
  rw [Bool.or_eq_true] at *
  rcases hp with hp | hp
  · exact Or.inl (h n hn hp)
  · obtain ⟨s, hs, e⟩ := zex_iff.mp hp
    refine Or.inr (zex_iff.mpr ⟨s, hs, ?_⟩)
    unfold zhu at *
    simp only [Bool.and_eq_true] at *
    exact ⟨e.1, e.2.1, e.2.2.1, zbu_mono ho hs h e.2.2.2⟩
theorem zit_mono {a : zA} {B : Nat → Bool} (ho : zOk a) : ∀ (g : Nat) {P Q : Nat → Bool}, (∀ n, n < 20 → P n = true → Q n = true) → ∀ n, n < 20 → zit a B g P n = true → zit a B g Q n = true
  | 0, _, _, h => h
  | g + 1, _, _, h => zit_mono ho g (zrd_mono ho h)
theorem zfl_mono {a : zA} {cl : Nat} {X Y : Nat → Bool} (ho : zOk a) (hcl : cl < 20) (h : ∀ i, i < 20 → X i = true → Y i = true) (hx : zfl a cl X = true) : zfl a cl Y = true := by
  unfold zfl at *
  cases hy : zsh a (fun _ => false) (fun i => zsd a i && !Y i) cl
  · rfl
  · have := zit_mono (B := fun _ => false) ho 20 (P := fun i => zsd a i && !Y i) (Q := fun i => zsd a i && !X i) (fun n hn hp => by
      have hp : (zsd a n && !Y n) = true := hp
      show (zsd a n && !X n) = true
      have hh := h n hn
      revert hp hh
      cases zsd a n <;> cases X n <;> cases Y n <;> simp) cl hcl hy
    have this : zsh a (fun _ => false) (fun i => zsd a i && !X i) cl = true := this
    rw [this] at hx
    exact absurd hx (by decide)
/-! lists -/
def zfm (h : Nat → List Nat) : Nat → List Nat
  | 0 => []
  | n + 1 => zfm h n ++ h n
theorem zfm_cong {h h' : Nat → List Nat} : ∀ {n : Nat}, (∀ i, i < n → h i = h' i) → zfm h n = zfm h' n
  | 0, _ => rfl
  | n + 1, e => by rw [zfm, zfm, zfm_cong (fun i hi => e i (by omega)), e n (by omega)]
theorem zfm_ext {h : Nat → List Nat} {n : Nat} : ∀ (k : Nat), (∀ i, n ≤ i → i < n + k → h i = []) → zfm h (n + k) = zfm h n
  | 0, _ => rfl
  | k + 1, e => by
    show zfm h (n + k) ++ h (n + k) = _
    rw [e (n + k) (by omega) (by omega), List.append_nil, zfm_ext k (fun i h1 h2 => e i h1 (by omega))]
theorem zfm_len {h : Nat → List Nat} {B : Nat} : ∀ {n : Nat}, (∀ i, i < n → (h i).length ≤ B) → (zfm h n).length ≤ n * B
  | 0, _ => by simp [zfm]
  | n + 1, e => by
    have := zfm_len (n := n) (B := B) (fun i hi => e i (by omega))
    have := e n (by omega)
    rw [zfm, List.length_append, Nat.succ_mul]
    omega
theorem zfm_pre {h : Nat → List Nat} {c : Nat} : ∀ (k : Nat), ∃ more, zfm h (c + k) = zfm h c ++ more
  | 0 => ⟨[], by simp⟩
  | k + 1 => by
    obtain ⟨m, e⟩ := zfm_pre (h := h) (c := c) k
    exact ⟨m ++ h (c + k), by show zfm h (c + k) ++ h (c + k) = _; rw [e, List.append_assoc]⟩
theorem zfm_at {h : Nat → List Nat} {c m : Nat} (hc : c < m) : ∃ more, zfm h m = zfm h c ++ (h c ++ more) := by
  obtain ⟨k, e⟩ := zfm_pre (h := h) (c := c + 1) (m - (c + 1))
  rw [show c + 1 + (m - (c + 1)) = m by omega, zfm, List.append_assoc] at e
  exact ⟨k, e⟩
/-- the one asked for -/
def zanr (w : Int32) : List Nat → Nat → Int32
  | [], _ => -1000000
  | x :: l, c => if nI c = w then nI x else zanr w l (c + 1)
def znh (w : Int32) (n : Nat) : Prop := ∀ j, j < n → ¬ nI j = w
theorem zanr_no {w : Int32} : ∀ (l l' : List Nat) (c : Nat), (∀ j, j < l.length → ¬ nI (c + j) = w) → zanr w (l ++ l') c = zanr w l' (c + l.length)
  | [], _, _, _ => rfl
  | x :: l, l', c, h => by
    have h0 := h 0 (by simp)
    rw [Nat.add_zero] at h0
    rw [List.cons_append, zanr, if_neg h0, zanr_no l l' (c + 1) (fun j hj => by
      have := h (j + 1) (by simp; omega)
      rw [show c + 1 + j = c + (j + 1) by omega]; exact this), List.length_cons, show c + 1 + l.length = c + (l.length + 1) by omega]
theorem zanr_yes {w : Int32} : ∀ (l l' : List Nat) (c : Nat), (∃ j, j < l.length ∧ nI (c + j) = w) → zanr w (l ++ l') c = zanr w l c
  | [], _, _, h => by
    obtain ⟨j, hj, -⟩ := h
    exact absurd hj (Nat.not_lt_zero j)
  | x :: l, l', c, h => by
    rw [List.cons_append, zanr, zanr]
    by_cases q : nI c = w
    · rw [if_pos q, if_pos q]
    · rw [if_neg q, if_neg q]
      obtain ⟨j, hj, e⟩ := h
      have j0 : j ≠ 0 := fun z => by rw [z, Nat.add_zero] at e; exact q e
      rw [List.length_cons] at hj
      exact zanr_yes l l' (c + 1) ⟨j - 1, by omega, by rw [show c + 1 + (j - 1) = c + j by omega]; exact e⟩
theorem zanr_snoc {w : Int32} {l : List Nat} {x : Nat} (hl : l.length < 2 ^ 31) : zanr w (l ++ [x]) 0 = if nI l.length = w then nI x else zanr w l 0 := by
  by_cases q : nI l.length = w
  · rw [if_pos q, zanr_no l [x] 0 (fun j hj z => by
      rw [Nat.zero_add, ← q] at z
      have := (nI_eq (by omega) hl).mp z
      omega), Nat.zero_add, zanr, if_pos q]
  · rw [if_neg q]
    by_cases hh : ∃ j, j < l.length ∧ nI (0 + j) = w
    · exact zanr_yes l [x] 0 hh
    · have hn : ∀ j, j < l.length → ¬ nI (0 + j) = w := fun j hj z => hh ⟨j, hj, z⟩
      have e := zanr_no l [] 0 hn
      rw [List.append_nil] at e
      rw [zanr_no l [x] 0 hn, e, Nat.zero_add, zanr, zanr, zanr, if_neg q]
/-- the answer: how many, or the one asked for -/
def zfin (w : Int32) (L : List Nat) : Int32 := if w = -1 then nI L.length else zanr w L 0
theorem zfin_hit {w : Int32} {l r : List Nat} {x : Nat} (hl : l.length < 2 ^ 31) (hn : znh w l.length) (q : nI l.length = w) : zfin w (l ++ (x :: r)) = nI x := by
  have h1 : ¬ w = -1 := fun z => by
    rw [z] at q
    have := nI_pos hl
    rw [q] at this
    exact absurd (by decide) this
  unfold zfin
  rw [if_neg h1, zanr_no l (x :: r) 0 (fun j hj => by rw [Nat.zero_add]; exact hn j hj), Nat.zero_add, zanr, if_pos q]
theorem zfin_none {w : Int32} {L : List Nat} (hn : znh w L.length) : zfin w L = if w = -1 then nI L.length else -1000000 := by
  unfold zfin
  by_cases q : w = -1
  · rw [if_pos q, if_pos q]
  · rw [if_neg q, if_neg q]
    have e := zanr_no (w := w) L [] 0 (fun j hj => by rw [Nat.zero_add]; exact hn j hj)
    rw [List.append_nil] at e
    rw [e]
    rfl
/-! ===== the reference's search ===== -/
theorem zmfelled {N cl : Nat} {a : zA} {ρ : zSt} {X : Nat → Bool} (h : zMN ρ a) (ho : zOk a) (hcl : cl < 20) (hN : 600000 ≤ N) : ∃ υ, fX8_isFelled N (nI cl) (nI (zS X)) ρ = some (nI (if zfl a cl X then 1 else 0), υ) ∧ zF30 ρ υ := by
  obtain ⟨υ, e1, -, e3⟩ := zmshown0 (N := N) (P := fun i => zsd a i && !X i) h ho hN
  refine ⟨υ, ?_, e3⟩
  unfold fX8_isFelled
  rw [zmstanding h ho hN, zbnd_some, zS_andn, e1, zbnd_some, zS_at hcl]
  unfold zfl
  cases zsh a (fun _ => false) (fun i => zsd a i && !X i) cl
  · rw [if_neg (show ¬ false = true by decide), if_pos (show nI 0 = (0 : Int32) from rfl)]
    exact zrz_1
  · rw [if_pos rfl, if_neg (show ¬ nI 1 = (0 : Int32) by decide)]
    exact zrz_0
def zfe (a : zA) (cl : Nat) (X : Nat → Bool) (k : Nat) : Bool := zfl a cl X && !zex (fun n => X n && zfl a cl (fun i => X i && !(i == n))) k
theorem zfe_iff {a : zA} {cl : Nat} {X : Nat → Bool} {k : Nat} : zfe a cl X k = true ↔ zfl a cl X = true ∧ ∀ n, n < k → X n = true → zfl a cl (fun i => X i && !(i == n)) = false := by
  unfold zfe
  rw [Bool.and_eq_true, Bool.not_eq_true']
  refine and_congr_right (fun _ => ⟨fun h n hn hx => ?_, fun h => ?_⟩)
  · cases hf : zfl a cl (fun i => X i && !(i == n))
    · rfl
    · have : zex (fun n => X n && zfl a cl (fun i => X i && !(i == n))) k = true := zex_iff.mpr ⟨n, hn, by rw [hx, hf]; rfl⟩
      rw [this] at h
      exact absurd h (by decide)
  · cases hz : zex (fun n => X n && zfl a cl (fun i => X i && !(i == n))) k
    · rfl
    · obtain ⟨n, hn, e⟩ := zex_iff.mp hz
      have e : (X n && zfl a cl (fun i => X i && !(i == n))) = true := e
      rw [Bool.and_eq_true] at e
      rw [h n hn e.1] at e
      exact absurd e.2 (by decide)
theorem zmfelling_loop {N cl : Nat} {a : zA} {X : Nat → Bool} (ho : zOk a) (hcl : cl < 20) (hN : 600000 ≤ N) : ∀ (g f k : Nat) (ρ : zSt), zMN ρ a → g < f → k + g = a 0 0 → ∃ υ, fX8_isFelling_10 N f (nI cl) (nI (zS X)) (nI (if zfe a cl X k then 1 else 0)) (nI k) ρ = some (nI (if zfe a cl X (a 0 0) then 1 else 0), υ) ∧ zF30 ρ υ
  | 0, f + 1, k, ρ, h, _, hk => by
    have h20 := ho.1
    refine ⟨ρ, ?_, zF30_rfl⟩
    rw [fX8_isFelling_10, h.1, if_pos (nI_le (by omega) (by omega)), show k = a 0 0 by omega]
    cases zfe a cl X (a 0 0)
    · exact zrz_0
    · exact zrz_1
  | g + 1, f + 1, k, ρ, h, hf, hk => by
    have h20 := ho.1
    rw [fX8_isFelling_10, h.1, if_neg (nI_ge (by omega) (by omega))]
    have st : zfe a cl X (k + 1) = (zfe a cl X k && !(X k && zfl a cl (fun i => X i && !(i == k)))) := by
      unfold zfe
      rw [zex]
      cases zfl a cl X <;> cases zex (fun n => X n && zfl a cl (fun i => X i && !(i == n))) k <;> simp
    cases hz : zfe a cl X k
    · refine ⟨ρ, ?_, zF30_rfl⟩
      have : zfe a cl X (a 0 0) = false := by
        cases hw : zfe a cl X (a 0 0)
        · rfl
        · rw [zfe_iff] at hw
          have := zfe_iff.mpr (⟨hw.1, fun n hn => hw.2 n (by omega)⟩ : _ ∧ ∀ n, n < k → _)
          rw [this] at hz
          exact absurd hz (by decide)
      rw [this, if_neg (show ¬ false = true by decide), if_pos (show nI 0 = (0 : Int32) from rfl)]
      exact zrz_0
    · rw [if_pos rfl, if_neg (show ¬ nI 1 = (0 : Int32) by decide), zS_at (by omega)]
      rw [hz, Bool.true_and] at st
      cases hx : X k
      · rw [hx] at st
        have ih := zmfelling_loop (N := N) (X := X) ho hcl hN g f (k + 1) ρ h (by omega) (by omega)
        rw [st] at ih
        rw [if_neg (show ¬ false = true by decide), if_pos (show nI 0 = (0 : Int32) from rfl), fX8_isFelling_48, nI_1]
        exact ih
      · rw [hx, Bool.true_and] at st
        obtain ⟨υ, u1, u2⟩ := zmfelled (N := N) (cl := cl) (X := fun i => X i && !(i == k)) h ho hcl hN
        obtain ⟨υ', ih1, ih2⟩ := zmfelling_loop (N := N) (X := X) ho hcl hN g f (k + 1) υ (zMN_30 h u2) (by omega) (by omega)
        rw [st] at ih1
        rw [if_pos rfl, if_neg (show ¬ nI 1 = (0 : Int32) by decide), zS_shl (by omega), zS_andn, u1, zbnd_some, nI_1]
        refine ⟨υ', ?_, zF30_trans u2 ih2⟩
        cases hw : zfl a cl (fun i => X i && !(i == k))
        · rw [hw] at ih1
          rw [if_neg (show ¬ false = true by decide), if_pos (show nI 0 = (0 : Int32) from rfl), fX8_isFelling_48, nI_1]
          exact ih1
        · rw [hw] at ih1
          rw [if_pos rfl, if_neg (show ¬ nI 1 = (0 : Int32) by decide)]
          exact ih1
theorem zmfelling {N cl : Nat} {a : zA} {X : Nat → Bool} {ρ : zSt} (h : zMN ρ a) (ho : zOk a) (hcl : cl < 20) (hN : 600000 ≤ N) : ∃ υ, fX8_isFelling N (nI cl) (nI (zS X)) ρ = some (nI (if zfe a cl X (a 0 0) then 1 else 0), υ) ∧ zF30 ρ υ := by
  have h20 := ho.1
  obtain ⟨υ, u1, u2⟩ := zmfelled (N := N) (cl := cl) (X := X) h ho hcl hN
  obtain ⟨υ', v1, v2⟩ := zmfelling_loop (N := N) (X := X) ho hcl hN (a 0 0) N 0 υ (zMN_30 h u2) (by omega) (by omega)
  have e : zfe a cl X 0 = zfl a cl X := by
    unfold zfe
    rw [zex]; simp
  rw [e] at v1
  refine ⟨υ', ?_, zF30_trans u2 v2⟩
  unfold fX8_isFelling
  rw [u1, zbnd_some]
  exact v1
/-- a set that the reference counts -/
def zcds (a : zA) (cl : Nat) (X : Nat → Bool) : Bool := (zS (fun i => X i && !zsd a i) == 0) && zfe a cl X (a 0 0)
theorem zcds_iff {a : zA} {cl : Nat} {X : Nat → Bool} : zcds a cl X = true ↔ (∀ i, i < 20 → X i = true → zsd a i = true) ∧ zfl a cl X = true ∧ ∀ n, n < a 0 0 → X n = true → zfl a cl (fun i => X i && !(i == n)) = false := by
  have key : zS (fun i => X i && !zsd a i) = 0 ↔ ∀ i, i < 20 → X i = true → zsd a i = true := by
    have z0 : zS (fun i => X i && !zsd a i) = 0 ↔ zqq (fun i => X i && !zsd a i) (fun _ => false) := by
      rw [← zS_qq]
      rw [zS_0]
    rw [z0]
    refine ⟨fun h i hi hx => ?_, fun h i hi => ?_⟩
    · have e : (X i && !zsd a i) = false := h i hi
      rw [hx] at e
      revert e
      cases zsd a i <;> simp
    · have e := h i hi
      show (X i && !zsd a i) = false
      revert e
      cases X i <;> cases zsd a i <;> simp
  unfold zcds
  rw [Bool.and_eq_true, zfe_iff, beq_iff_eq, key]
theorem zmcand {N cl n : Nat} {a : zA} {X : Nat → Bool} {ρ : zSt} {w x5 x6 x7 x8 : Int32} {k46 : Int32 → Int32 → Int32 → Int32 → Int32 → zSt → Option (Int32 × zSt)} {k65 : Int32 → Int32 → Int32 → Int32 → Int32 → Int32 → zSt → Option (Int32 × zSt)} {k97 : Int32 → Int32 → Int32 → Int32 → Int32 → Int32 → Int32 → zSt → Option (Int32 × zSt)} {k119 : Int32 → Int32 → Int32 → Int32 → Int32 → Int32 → Int32 → Int32 → zSt → Option (Int32 × zSt)} (h : zMN ρ a) (ho : zOk a) (hcl : cl < 20) (hN : 600000 ≤ N) : ∃ υ, zF30 ρ υ ∧ fX8_felling_191 N k46 k65 k97 k119 (nI cl) w (nI (zS (zsd a))) (nI n) x5 x6 x7 x8 (nI (zS X)) 1 ρ = (if zcds a cl X then (if nI n = w then some (nI (zS X), υ) else k119 (nI cl) w (nI (zS (zsd a))) (nI (n + 1)) x5 x6 x7 (x8 + 1) υ) else k119 (nI cl) w (nI (zS (zsd a))) (nI n) x5 x6 x7 (x8 + 1) υ) := by
  have b := zS_lt (P := fun i => X i && !zsd a i)
  unfold fX8_felling_191 zcds
  rw [if_neg (show ¬ (1 : Int32) = 0 by decide), zS_andn]
  by_cases q : zS (fun i => X i && !zsd a i) = 0
  · have q1 : (zS (fun i => X i && !zsd a i) == 0) = true := by rw [q]; rfl
    obtain ⟨υ, u1, u2⟩ := zmfelling (N := N) (cl := cl) (X := X) h ho hcl hN
    rw [if_pos (show nI (zS (fun i => X i && !zsd a i)) = 0 by rw [q]; rfl), u1, zbnd_some, q1, Bool.true_and]
    refine ⟨υ, u2, ?_⟩
    cases zfe a cl X (a 0 0)
    · rw [if_neg (show ¬ false = true by decide), if_pos (show nI 0 = (0 : Int32) from rfl), if_neg (show ¬ false = true by decide)]
    · rw [if_pos rfl, if_neg (show ¬ nI 1 = (0 : Int32) by decide), if_pos rfl, nI_1]
  · have q1 : (zS (fun i => X i && !zsd a i) == 0) = false := by simp; exact q
    rw [if_neg (nI_ne0 (by omega) (by omega)), q1, Bool.false_and]
    refine ⟨ρ, zF30_rfl, ?_⟩
    rw [if_neg (show ¬ false = true by decide)]
