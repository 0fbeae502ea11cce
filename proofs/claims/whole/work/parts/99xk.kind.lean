/-! ===== kinds ===== -/
theorem zmispart_loop {N s n c : Nat} {G : Nat → Nat} {ρ : zSt} (hs : s < 16) (hc : ρ.1 11 s = nI c) (hc6 : c ≤ 6) (hg : ∀ j, j < c → ρ.1 12 (6 * s + j) = nI (G j) ∧ G j < 2 ^ 31) (hn : n < 2 ^ 31) : ∀ (g f k : Nat), g < f → k + g = c → fX8_isPart_5 N f (nI s) (nI n) (nI (if zim G k n then 1 else 0)) (nI k) ρ = some (nI (if zim G c n then 1 else 0), ρ)
  | 0, f + 1, k, _, hk => by
    rw [fX8_isPart_5, zag_nI (by omega) (by omega), hc, if_pos (nI_le (by omega) (by omega)), show k = c by omega]
    cases zim G c n
    · exact zrz_0
    · exact zrz_1
  | g + 1, f + 1, k, hf, hk => by
    obtain ⟨g1, g2⟩ := hg k (by omega)
    have ih := zmispart_loop (N := N) hs hc hc6 hg hn g f (k + 1) (by omega) (by omega)
    rw [zim] at ih
    rw [fX8_isPart_5, zag_nI (by omega) (by omega), hc, if_neg (nI_ge (by omega) (by omega))]
    cases hz : zim G k n
    · rw [hz, Bool.false_or] at ih
      rw [if_neg (show ¬ false = true by decide), if_pos (show nI 0 = (0 : Int32) from rfl), z6, zag_nI (by omega) (by omega), g1]
      by_cases q : G k = n
      · have : (G k == n) = true := by rw [q]; simp
        rw [this, if_pos rfl] at ih
        rw [if_pos (by rw [q]), fX8_isPart_36, nI_1]
        exact ih
      · have : (G k == n) = false := by simp; exact q
        rw [this, if_neg (by decide)] at ih
        rw [if_neg (fun z => q ((nI_eq g2 hn).mp z)), nI_1]
        exact ih
    · rw [hz, Bool.true_or, if_pos rfl] at ih
      rw [if_pos rfl, if_neg (show ¬ nI 1 = (0 : Int32) by decide), fX8_isPart_36, nI_1]
      exact ih
theorem zmispart {N s n c : Nat} {G : Nat → Nat} {ρ : zSt} (hs : s < 16) (hc : ρ.1 11 s = nI c) (hc6 : c ≤ 6) (hg : ∀ j, j < c → ρ.1 12 (6 * s + j) = nI (G j) ∧ G j < 2 ^ 31) (hn : n < 2 ^ 31) (hN : 600000 ≤ N) : fX8_isPart N (nI s) (nI n) ρ = some (nI (if zim G c n then 1 else 0), ρ) := zmispart_loop hs hc hc6 hg hn c N 0 (by omega) (by omega)
theorem zmpt {N s n : Nat} {a : zA} {ρ : zSt} (h : zMN ρ a) (ho : zOk a) (hs : s < a 0 1) (hn : n < 20) (hN : 600000 ≤ N) : fX8_isPart N (nI s) (nI n) ρ = some (nI (if zpt a s n then 1 else 0), ρ) := by
  have h16 := ho.2.1
  have h20 := ho.1
  obtain ⟨o1, o2, o3, o4, o5, o6, -⟩ := ho.2.2.2.2 s hs
  obtain ⟨m1, m2, m3, m4, m5⟩ := h.2.2.2.2 s hs
  exact zmispart (by omega) m3 o5 (fun j hj => ⟨m4 j hj, by have := o6 j hj; omega⟩) (by omega) hN
/-- in how many steps it is a part, how many hold it -/
def zpn (a : zA) (n : Nat) : Nat := fb_ct (fun s => zpt a s n) (a 0 1)
def zhn (a : zA) (n : Nat) : Nat := fb_ct (fun s => a 7 s == n) (a 0 1)
theorem zctimes {N n : Nat} {a : zA} {σ : zSt} (h : zCN σ a) (ho : zOk a) (hn : n < 20) (hN : 600000 ≤ N) : fX2_timesPart N (nI n) σ = some (nI (zpn a n), σ) := by
  have h16 := ho.2.1
  have lp : ∀ (g f s : Nat), g < f → s + g = a 0 1 → fX2_timesPart_4 N f (nI n) (nI (fb_ct (fun s => zpt a s n) s)) (nI s) σ = some (nI (zpn a n), σ) := by
    intro g
    induction g with
    | zero =>
      intro f s hf hs
      obtain ⟨f, rfl⟩ : ∃ f', f = f' + 1 := ⟨f - 1, by omega⟩
      rw [fX2_timesPart_4, h.2.1, if_pos (nI_le (by omega) (by omega)), show s = a 0 1 by omega]
      rfl
    | succ g ih =>
      intro f s hf hs
      obtain ⟨f, rfl⟩ : ∃ f', f = f' + 1 := ⟨f - 1, by omega⟩
      rw [fX2_timesPart_4, h.2.1, if_neg (nI_ge (by omega) (by omega)), zag_nI (by omega) (by omega), (h.2.2.2.2 s (by omega)).2.2.2.1, zbitAt hn, zbnd_some, znm_eq, nI_add, nI_1]
      exact ih f (s + 1) (by omega) (by omega)
  exact lp (a 0 1) N 0 (by omega) (by omega)
theorem zmtimes {N n : Nat} {a : zA} {ρ : zSt} (h : zMN ρ a) (ho : zOk a) (hn : n < 20) (hN : 600000 ≤ N) : fX8_partsIn N (nI n) ρ = some (nI (zpn a n), ρ) := by
  have h16 := ho.2.1
  have lp : ∀ (g f s : Nat), g < f → s + g = a 0 1 → fX8_partsIn_4 N f (nI n) (nI (fb_ct (fun s => zpt a s n) s)) (nI s) ρ = some (nI (zpn a n), ρ) := by
    intro g
    induction g with
    | zero =>
      intro f s hf hs
      obtain ⟨f, rfl⟩ : ∃ f', f = f' + 1 := ⟨f - 1, by omega⟩
      rw [fX8_partsIn_4, h.2.1, if_pos (nI_le (by omega) (by omega)), show s = a 0 1 by omega]
      rfl
    | succ g ih =>
      intro f s hf hs
      obtain ⟨f, rfl⟩ : ∃ f', f = f' + 1 := ⟨f - 1, by omega⟩
      have ih := ih f (s + 1) (by omega) (by omega)
      rw [fb_ct_succ] at ih
      rw [fX8_partsIn_4, h.2.1, if_neg (nI_ge (by omega) (by omega)), zmpt h ho (by omega) hn hN, zbnd_some]
      cases hz : zpt a s n
      · rw [hz, if_neg (by decide)] at ih
        rw [if_neg (show ¬ false = true by decide), if_pos (show nI 0 = (0 : Int32) from rfl), fX8_partsIn_27, znm_eq, show (0 : Int32) = nI 0 from rfl, nI_add, nI_1]
        exact ih
      · rw [hz, if_pos rfl] at ih
        rw [if_pos rfl, if_neg (show ¬ nI 1 = (0 : Int32) by decide), fX8_partsIn_27, znm_eq, nI_1, nI_1]
        exact ih
  exact lp (a 0 1) N 0 (by omega) (by omega)
theorem zcheld {N n : Nat} {a : zA} {σ : zSt} (h : zCN σ a) (ho : zOk a) (hn : n < 20) (hN : 600000 ≤ N) : fX2_timesHeld N (nI n) σ = some (nI (zhn a n), σ) := by
  have h16 := ho.2.1
  have h20 := ho.1
  have lp : ∀ (g f s : Nat), g < f → s + g = a 0 1 → fX2_timesHeld_4 N f (nI n) (nI (fb_ct (fun s => a 7 s == n) s)) (nI s) σ = some (nI (zhn a n), σ) := by
    intro g
    induction g with
    | zero =>
      intro f s hf hs
      obtain ⟨f, rfl⟩ : ∃ f', f = f' + 1 := ⟨f - 1, by omega⟩
      rw [fX2_timesHeld_4, h.2.1, if_pos (nI_le (by omega) (by omega)), show s = a 0 1 by omega]
      rfl
    | succ g ih =>
      intro f s hf hs
      obtain ⟨f, rfl⟩ : ∃ f', f = f' + 1 := ⟨f - 1, by omega⟩
      have o2 := (ho.2.2.2.2 s (by omega)).2.1
      have ih := ih f (s + 1) (by omega) (by omega)
      rw [fb_ct_succ] at ih
      rw [fX2_timesHeld_4, h.2.1, if_neg (nI_ge (by omega) (by omega)), zag_nI (by omega) (by omega), (h.2.2.2.2 s (by omega)).2.1]
      by_cases q : a 7 s = n
      · have : (a 7 s == n) = true := by rw [q]; simp
        rw [this, if_pos rfl] at ih
        rw [if_pos (by rw [q]), nI_1, nI_1]
        exact ih
      · have : (a 7 s == n) = false := by simp; exact q
        rw [this, if_neg (by decide)] at ih
        rw [if_neg (fun z => q ((nI_eq (by omega) (by omega)).mp z)), nI_1]
        exact ih
  exact lp (a 0 1) N 0 (by omega) (by omega)
theorem zmheld {N n : Nat} {a : zA} {ρ : zSt} (h : zMN ρ a) (ho : zOk a) (hn : n < 20) (hN : 600000 ≤ N) : fX8_heldBy N (nI n) ρ = some (nI (zhn a n), ρ) := by
  have h16 := ho.2.1
  have h20 := ho.1
  have lp : ∀ (g f s : Nat), g < f → s + g = a 0 1 → fX8_heldBy_4 N f (nI n) (nI (fb_ct (fun s => a 7 s == n) s)) (nI s) ρ = some (nI (zhn a n), ρ) := by
    intro g
    induction g with
    | zero =>
      intro f s hf hs
      obtain ⟨f, rfl⟩ : ∃ f', f = f' + 1 := ⟨f - 1, by omega⟩
      rw [fX8_heldBy_4, h.2.1, if_pos (nI_le (by omega) (by omega)), show s = a 0 1 by omega]
      rfl
    | succ g ih =>
      intro f s hf hs
      obtain ⟨f, rfl⟩ : ∃ f', f = f' + 1 := ⟨f - 1, by omega⟩
      have o2 := (ho.2.2.2.2 s (by omega)).2.1
      have ih := ih f (s + 1) (by omega) (by omega)
      rw [fb_ct_succ] at ih
      rw [fX8_heldBy_4, h.2.1, if_neg (nI_ge (by omega) (by omega)), zag_nI (by omega) (by omega), (h.2.2.2.2 s (by omega)).2.1]
      by_cases q : a 7 s = n
      · have : (a 7 s == n) = true := by rw [q]; simp
        rw [this, if_pos rfl] at ih
        rw [if_pos (by rw [q]), fX8_heldBy_28, znm_eq, nI_1, nI_1]
        exact ih
      · have : (a 7 s == n) = false := by simp; exact q
        rw [this, if_neg (by decide)] at ih
        rw [if_neg (fun z => q ((nI_eq (by omega) (by omega)).mp z)), fX8_heldBy_28, znm_eq, show (0 : Int32) = nI 0 from rfl, nI_add, nI_1]
        exact ih
  exact lp (a 0 1) N 0 (by omega) (by omega)
def zkd (a : zA) (n : Nat) : Nat := if a 1 n = 2 then (if zpn a n = 0 then 4 else 3) else if zst a n then (if a 1 n = 1 then 2 else 1) else 5
theorem zkd_lt {a : zA} {n : Nat} : zkd a n < 6 := by
  unfold zkd
  repeat' split
  all_goals omega
theorem zpn_le {a : zA} {n : Nat} : zpn a n ≤ a 0 1 := fb_ct_le _ _
theorem zhn_le {a : zA} {n : Nat} : zhn a n ≤ a 0 1 := fb_ct_le _ _
theorem zckind {N n : Nat} {a : zA} {σ : zSt} (h : zCN σ a) (ho : zOk a) (hn : n < a 0 0) (hN : 600000 ≤ N) : fX2_kindOf N (nI n) σ = some (nI (zkd a n), σ) := by
  have h20 := ho.1
  have h16 := ho.2.1
  have o1 := (ho.2.2.2.1 n hn).1
  have hp := zpn_le (a := a) (n := n)
  unfold fX2_kindOf zkd
  rw [zag_nI (by omega) (by omega), (h.2.2.2.1 n hn).1]
  by_cases q : a 1 n = 2
  · rw [if_pos (show nI (a 1 n) = (2 : Int32) by rw [q]; rfl), if_pos q, zctimes h ho (by omega) hN, zbnd_some]
    by_cases w : zpn a n = 0
    · rw [if_pos (show nI (zpn a n) = 0 by rw [w]; rfl), if_pos w]; rfl
    · rw [if_neg (nI_ne0 (by omega) (by omega)), if_neg w]; rfl
  · rw [if_neg (show ¬ nI (a 1 n) = (2 : Int32) from fun z => q ((nI_eq (b := 2) (by omega) (by omega)).mp z)), if_neg q, zcstands h ho hn (by omega), zbnd_some]
    cases zst a n
    · rw [if_neg (show ¬ false = true by decide), if_pos (show nI 0 = (0 : Int32) from rfl), if_neg (by decide)]; rfl
    · rw [if_pos rfl, if_neg (show ¬ nI 1 = (0 : Int32) by decide), if_pos rfl, zag_nI (by omega) (by omega), (h.2.2.2.1 n hn).1]
      by_cases w : a 1 n = 1
      · rw [if_pos (show nI (a 1 n) = (1 : Int32) by rw [w]; rfl), if_pos w]; rfl
      · rw [if_neg (show ¬ nI (a 1 n) = (1 : Int32) from fun z => w ((nI_eq (b := 1) (by omega) (by omega)).mp z)), if_neg w]; rfl
theorem zmkind {N n : Nat} {a : zA} {ρ : zSt} (h : zMN ρ a) (ho : zOk a) (hn : n < a 0 0) (hN : 600000 ≤ N) : fX8_kindOf N (nI n) ρ = some (nI (zkd a n), ρ) := by
  have h20 := ho.1
  have h16 := ho.2.1
  have o1 := (ho.2.2.2.1 n hn).1
  have hp := zpn_le (a := a) (n := n)
  unfold fX8_kindOf zkd
  rw [zag_nI (by omega) (by omega), (h.2.2.2.1 n hn).1]
  by_cases q : a 1 n = 2
  · rw [if_pos (show nI (a 1 n) = (2 : Int32) by rw [q]; rfl), if_pos q, zmtimes h ho (by omega) hN, zbnd_some]
    by_cases w : zpn a n = 0
    · rw [if_pos (show nI (zpn a n) = 0 by rw [w]; rfl), if_pos w]; rfl
    · rw [if_neg (nI_ne0 (by omega) (by omega)), if_neg w]; rfl
  · rw [if_neg (show ¬ nI (a 1 n) = (2 : Int32) from fun z => q ((nI_eq (b := 2) (by omega) (by omega)).mp z)), if_neg q, zmstands h ho hn (by omega), zbnd_some]
    cases zst a n
    · rw [if_neg (show ¬ false = true by decide), if_pos (show nI 0 = (0 : Int32) from rfl), if_neg (by decide)]; rfl
    · rw [if_pos rfl, if_neg (show ¬ nI 1 = (0 : Int32) by decide), if_pos rfl, zag_nI (by omega) (by omega), (h.2.2.2.1 n hn).1]
      by_cases w : a 1 n = 1
      · rw [if_pos (show nI (a 1 n) = (1 : Int32) by rw [w]; rfl), if_pos w]; rfl
      · rw [if_neg (show ¬ nI (a 1 n) = (1 : Int32) from fun z => w ((nI_eq (b := 1) (by omega) (by omega)).mp z)), if_neg w]; rfl
theorem zp_kind {N : Nat} (hN : 600000 ≤ N) (x : Int32) : zP2 (fX7_kind N x) (fX8_kind N x) := by
  intro σ ρ hR
  have hR2 := zR_keep hR zKC_rfl (zKM_thr (σ := ρ))
  have hR' := hR2
  obtain ⟨a, ho, hc, hm, -⟩ := hR'
  unfold fX7_kind fX8_kind
  rw [zpf_eq]
  rcases znode2 (N := N) (x := x) hc hm ho with ⟨k, hk, e, c1, c2⟩ | ⟨c1, c2⟩
  · rw [c1, c2, zbnd_some, zbnd_some, if_neg (show ¬ (1 : Int32) = 0 by decide), if_neg (show ¬ (1 : Int32) = 0 by decide), e, zckind hc ho hk hN, zmkind hm ho hk hN, zbnd_some, zbnd_some]
    exact ⟨_, _, _, rfl, rfl, hR2⟩
  · rw [c1, c2, zbnd_some, zbnd_some, if_pos rfl, if_pos rfl]
    exact ⟨_, _, _, rfl, rfl, hR2⟩
/-- kind i is of kind j -/
def zio (i j : Nat) : Bool := (j == 0) || ((i == j) || (((j == 1) && ((i == 2) || (i == 5))) || ((j == 3) && (i == 4))))
theorem zmisof {N i j : Nat} {ρ : zSt} (hi : i < 6) (hj : j < 6) : fX8_isOf N (nI i) (nI j) ρ = some (nI (if zio i j then 1 else 0), ρ) := by
  unfold fX8_isOf fX8_isOf_24 fX8_isOf_34
  rcases (show i = 0 ∨ i = 1 ∨ i = 2 ∨ i = 3 ∨ i = 4 ∨ i = 5 by omega) with e | e | e | e | e | e <;> subst e <;> rcases (show j = 0 ∨ j = 1 ∨ j = 2 ∨ j = 3 ∨ j = 4 ∨ j = 5 by omega) with e | e | e | e | e | e <;> subst e <;> rfl
theorem zctaken {N n j : Nat} {a : zA} {σ : zSt} (h : zCN σ a) (ho : zOk a) (hn : n < a 0 0) (hj : j < 6) (hN : 600000 ≤ N) : fX2_isTakenAs N (nI n) (nI j) σ = some (nI (if zio (zkd a n) j then 1 else 0), σ) := by
  have hk := zkd_lt (a := a) (n := n)
  unfold fX2_isTakenAs
  rw [zckind h ho hn hN, zbnd_some, ztab_nI hk (by decide)]
  unfold fX7_bitAt
  rw [zbnd_some]
  generalize zkd a n = i at hk
  rcases (show i = 0 ∨ i = 1 ∨ i = 2 ∨ i = 3 ∨ i = 4 ∨ i = 5 by omega) with e | e | e | e | e | e <;> subst e <;> rcases (show j = 0 ∨ j = 1 ∨ j = 2 ∨ j = 3 ∨ j = 4 ∨ j = 5 by omega) with e | e | e | e | e | e <;> subst e <;> rfl
theorem zp_as {N : Nat} (hN : 600000 ≤ N) (x y : Int32) : zP2 (fX7_as N x y) (fX8_as N x y) := by
  intro σ ρ hR
  have hR2 := zR_keep hR zKC_rfl (zKM_thr (σ := ρ))
  have hR' := hR2
  obtain ⟨a, ho, hc, hm, -, hS, -, hF, -⟩ := hR'
  unfold fX7_as fX8_as
  rw [zpf_eq]
  rcases znode2 (N := N) (x := x) hc hm ho with ⟨k, hk, e, c1, c2⟩ | ⟨c1, c2⟩
  · have e5 : (5 : Int64) = (nI 6 - 1).toInt64 := by decide
    have e0 : (0 : Int64) = (0 : Int32).toInt64 := by decide
    have e5' : fX7_isWithin N y 0 5 σ = fX7_isWithin N y 0 (nI 6 - 1) σ := rfl
    rw [c1, c2, zbnd_some, zbnd_some, if_neg (show ¬ (1 : Int32) = 0 by decide), if_neg (show ¬ (1 : Int32) = 0 by decide), e, e5, e0, zinM, e5']
    rcases zw_ex (N := N) (n := 6) (x := y) (by decide) with ⟨w, hw, ew, q⟩ | ⟨hno, q⟩
    · have hm' : zMN (zsi (zsi ρ 0 0 0) 0 1 0) a := zMN_fr hm (fun j h1 h2 => zsi_c (by omega)) (zsi_o (by decide)) (zsi_o (by decide)) (zsi_o (by decide))
      rw [q, q, zbnd_some, zbnd_some, if_neg (show ¬ (1 : Int32) = 0 by decide), if_neg (show ¬ (1 : Int32) = 0 by decide), ew, zctaken hc ho hk hw hN, zbnd_some, zpf_eq, zmkind hm' ho hk hN, zbnd_some, zmisof zkd_lt hw, zbnd_some]
      unfold fX7_found fX7_unfound fX8_finding
      cases zio (zkd a k) w
      · rw [if_neg (show ¬ false = true by decide), if_pos (show nI 0 = (0 : Int32) from rfl), if_pos (show nI 0 = (0 : Int32) from rfl), zpf_eq, zpf_eq, zbnd_some, zbnd_some]
        exact ⟨_, _, _, rfl, rfl, zR_sheet hR2 (fun k q _ _ _ => zsi_c q) (zsi_o (by decide)) (fun k q _ _ _ => by rw [zsi_c q, zsi_c q]) (fun i q1 q2 => by rw [zsi_o q2, zsi_o q2]) hS (by rw [zsi_s, zsi_s])⟩
      · rw [if_pos rfl, if_neg (show ¬ nI 1 = (0 : Int32) by decide), if_neg (show ¬ nI 1 = (0 : Int32) by decide), zpf_eq, zbnd_some]
        exact ⟨_, _, _, rfl, rfl, zR_sheet hR2 (fun k q _ _ _ => zsi_c q) (zsi_o (by decide)) (fun k q _ _ _ => by rw [zsi_c q]) (fun i q1 q2 => by rw [zsi_o q2]) hS (by rw [zsi_s, zsi_s])⟩
    · rw [q, q, zbnd_some, zbnd_some, if_pos rfl, if_pos rfl]
      exact ⟨_, _, _, rfl, rfl, hR2⟩
  · rw [c1, c2, zbnd_some, zbnd_some, if_pos rfl, if_pos rfl]
    exact ⟨_, _, _, rfl, rfl, hR2⟩
/-! ===== ask ===== -/
/-- what an ask changes -/
def zA2 (σ0 ρ0 σ ρ : zSt) : Prop := (∀ k, k ≠ 33 → k ≠ 34 → σ.1 k = σ0.1 k) ∧ σ.1 33 2 = σ0.1 33 2 ∧ (∀ k, k ≠ 0 → k ≠ 22 → ρ.1 k = ρ0.1 k) ∧ (∀ i, i ≠ 45 → i ≠ 30 → ρ.1 0 i = ρ0.1 0 i) ∧ zRA σ ρ
theorem zA2_c {σ0 ρ0 σ ρ : zSt} {a : zA} (h : zA2 σ0 ρ0 σ ρ) (hc : zCN σ0 a) : zCN σ a := zCN_fr hc (fun k q1 q2 => h.1 k (by omega) (by omega))
theorem zA2_m {σ0 ρ0 σ ρ : zSt} {a : zA} (h : zA2 σ0 ρ0 σ ρ) (hm : zMN ρ0 a) : zMN ρ a := zMN_fr hm (fun k q1 q2 => h.2.2.1 k (by omega) (by omega)) (h.2.2.2.1 5 (by decide) (by decide)) (h.2.2.2.1 6 (by decide) (by decide)) (h.2.2.2.1 29 (by decide) (by decide))
theorem zA2_30 {σ0 ρ0 σ ρ υ : zSt} (h : zA2 σ0 ρ0 σ ρ) (hf : zF30 ρ υ) : zA2 σ0 ρ0 σ υ := by
  obtain ⟨h1, h2, h3, h4, ⟨t, t1, t2, t3, t4⟩⟩ := h
  exact ⟨h1, h2, fun k q1 q2 => (hf.1 k q1).trans (h3 k q1 q2), fun i q1 q2 => (hf.2 i q2).trans (h4 i q1 q2), ⟨t, t1, t2, by rw [hf.2 45 (by decide)]; exact t3, fun i hi => by rw [hf.1 22 (by decide)]; exact t4 i hi⟩⟩
theorem zbeg2 {N : Nat} {σ0 ρ0 σ ρ : zSt} (b : Int32) (h : zA2 σ0 ρ0 σ ρ) : ∃ τ υ, fX0_begin N b σ = some ((), τ) ∧ fX8_began N b ρ = some ((), υ) ∧ zA2 σ0 ρ0 τ υ := by
  have h' := h
  obtain ⟨h1, h2, h3, h4, ⟨t, t1, t2, t3, t4⟩⟩ := h
  unfold fX0_begin fX8_began
  rw [t2, t3]
  by_cases q : t < 16
  · have k1 : (zsi σ 34 t b).1 33 1 = nI t := t2
    have k2 : (zsi ρ 22 t b).1 0 45 = nI t := t3
    rw [if_pos (show nI t < (16 : Int32) from nI_lt (b := 16) q (by decide)), if_neg (show ¬ (16 : Int32) ≤ nI t from nI_ge (b := 16) q (by decide)), zas_nI (by omega) (by omega), zas_nI (by omega) (by omega), zpf_eq, zpf_eq, k1, k2, nI_1]
    refine ⟨_, _, rfl, rfl, fun k q1 q2 => by rw [zsi_c q1, zsi_c q2]; exact h1 k q1 q2, by rw [zsi_o (by decide), zsi_c (by decide)]; exact h2, fun k q1 q2 => by rw [zsi_c q1, zsi_c q2]; exact h3 k q1 q2, fun i q1 q2 => by rw [zsi_o q1, zsi_c (by decide)]; exact h4 i q1 q2, ⟨t + 1, by omega, zsi_s, zsi_s, fun i hi => ?_⟩⟩
    rw [zsi_c (a := 34) (k := 33) (by decide), zsi_c (a := 22) (k := 0) (by decide)]
    by_cases w : i = t
    · rw [w, zsi_s, zsi_s]
    · rw [zsi_o w, zsi_o w]; exact t4 i (by omega)
  · rw [if_neg (show ¬ nI t < (16 : Int32) from nI_nlt (b := 16) (by omega) (by omega)), if_pos (show (16 : Int32) ≤ nI t from nI_le (a := 16) (by omega) (by omega))]
    exact ⟨σ, ρ, rfl, rfl, h'⟩
theorem zmark2 {N n : Nat} {a : zA} {σ0 ρ0 σ ρ : zSt} (h : zA2 σ0 ρ0 σ ρ) (hc : zCN σ0 a) (hm : zMN ρ0 a) (ho : zOk a) (hn : n < a 0 0) (hN : 600000 ≤ N) (hs : σ0.1 33 2 = nI (zS (zsh a (fun _ => false) (zsd a)))) : ∃ r τ υ, fX0_mark N (nI n) σ = some (r, τ) ∧ fX8_markOf N (nI n) (nI (zkd a n)) ρ = some (r, υ) ∧ zA2 σ0 ρ0 τ υ := by
  have h20 := ho.1
  have hk := zkd_lt (a := a) (n := n)
  unfold fX0_mark
  rw [zckind (zA2_c h hc) ho hn hN, zbnd_some]
  unfold fX8_markOf
  have claim : ∀ k, (k = 3 ∨ k = 4) → ∃ r τ υ, fX0_mark_32 N (nI n) σ = some (r, τ) ∧ fX8_markOf_13 N (nI n) (nI k) ρ = some (r, υ) ∧ zA2 σ0 ρ0 τ υ := by
    intro k hk34
    obtain ⟨τ1, υ1, b1, b2, b3⟩ := zbeg2 (N := N) 21 h
    obtain ⟨τ2, υ2, d1, d2, d3⟩ := zbeg2 (N := N) 20 b3
    obtain ⟨υ3, s1, -, s3⟩ := zmshown (N := N) (zA2_m d3 hm) ho hN
    have e33 : τ2.1 33 2 = nI (zS (zsh a (fun _ => false) (zsd a))) := d3.2.1.trans hs
    unfold fX0_mark_32 fX0_mark21 fX0_mark20 fX8_markOf_13 fX8_markOf_26 fX8_markOf_29
    have k5 : ¬ nI k = (5 : Int32) := by rcases hk34 with z | z <;> subst z <;> decide
    have kio : zio k 3 = true := by rcases hk34 with z | z <;> subst z <;> rfl
    have eo : fX8_isOf N (nI k) 3 υ2 = some (nI 1, υ2) := by
      have := zmisof (N := N) (i := k) (j := 3) (ρ := υ2) (by omega) (by decide)
      rw [kio, if_pos rfl] at this
      exact this
    rw [b1, zbnd_some, d1, zbnd_some, zbnd_some, e33, zbitAt (by omega), zbnd_some, zbnd_some, if_neg k5, b2, zbnd_some, d2, zbnd_some, if_neg k5, eo, zbnd_some, if_neg (show ¬ nI 1 = (0 : Int32) by decide), s1, zbnd_some, zS_at (by omega)]
    cases zsh a (fun _ => false) (zsd a) n
    · rw [if_neg (by decide), if_neg (by decide)]
      exact ⟨_, _, _, rfl, rfl, zA2_30 d3 s3⟩
    · rw [if_pos rfl, if_pos (show nI 1 = (1 : Int32) from rfl)]
      exact ⟨_, _, _, rfl, rfl, zA2_30 d3 s3⟩
  have ground : ∀ k, (k = 0 ∨ k = 1 ∨ k = 2) → ∃ r τ υ, fX0_mark20 N (nI n) σ = some (r, τ) ∧ fX8_markOf_29 N (nI n) (nI k) ρ = some (r, υ) ∧ zA2 σ0 ρ0 τ υ := by
    intro k hk012
    obtain ⟨τ1, υ1, b1, b2, b3⟩ := zbeg2 (N := N) 20 h
    unfold fX0_mark20 fX8_markOf_29
    have k5 : ¬ nI k = (5 : Int32) := by rcases hk012 with z | z | z <;> subst z <;> decide
    have kio : zio k 3 = false := by rcases hk012 with z | z | z <;> subst z <;> rfl
    have eo : fX8_isOf N (nI k) 3 υ1 = some (nI 0, υ1) := by
      have := zmisof (N := N) (i := k) (j := 3) (ρ := υ1) (by omega) (by decide)
      rw [kio, if_neg (by decide)] at this
      exact this
    rw [b1, zbnd_some, b2, zbnd_some, if_neg k5, eo, zbnd_some, if_pos (show nI 0 = (0 : Int32) from rfl), show (0 : Int32) = nI 0 from rfl, nI_add, Nat.add_zero]
    exact ⟨_, _, _, rfl, rfl, b3⟩
  have isof : ∀ k, k < 6 → fX8_isOf N (nI k) 3 ρ = some (nI (if zio k 3 then 1 else 0), ρ) := fun k hk => zmisof (N := N) (i := k) (j := 3) (ρ := ρ) hk (by decide)
  generalize zkd a n = k at hk
  rcases (show (k = 0 ∨ k = 1 ∨ k = 2) ∨ (k = 3 ∨ k = 4) ∨ k = 5 by omega) with e | e | e
  · have k3 : ¬ nI k = (3 : Int32) := by rcases e with z | z | z <;> subst z <;> decide
    have k4 : ¬ nI k = (4 : Int32) := by rcases e with z | z | z <;> subst z <;> decide
    have k5 : ¬ nI k = (5 : Int32) := by rcases e with z | z | z <;> subst z <;> decide
    have kio : zio k 3 = false := by rcases e with z | z | z <;> subst z <;> rfl
    obtain ⟨r, τ, υ, r1, r2, r3⟩ := ground k e
    rw [if_neg k3, if_neg k4, if_neg k5, if_neg k5, r1, zbnd_some, isof k hk, kio, if_neg (show ¬ false = true by decide), zbnd_some, if_pos (show nI 0 = (0 : Int32) from rfl), r2]
    exact ⟨_, _, _, rfl, rfl, r3⟩
  · have k5 : ¬ nI k = (5 : Int32) := by rcases e with z | z <;> subst z <;> decide
    have kio : zio k 3 = true := by rcases e with z | z <;> subst z <;> rfl
    obtain ⟨r, τ, υ, r1, r2, r3⟩ := claim k e
    have ec : (if nI k = (3 : Int32) then fX0_mark_32 N (nI n) σ else (if nI k = (4 : Int32) then fX0_mark_32 N (nI n) σ else (if nI k = (5 : Int32) then zbnd (fX0_mark22 N (nI n) σ) (fun (b5 : Int32) (σ6 : zSt) => some (b5, σ6)) else (zbnd (fX0_mark20 N (nI n) σ) (fun (b8 : Int32) (σ9 : zSt) => some (b8, σ9)))))) = fX0_mark_32 N (nI n) σ := by
      rcases e with z | z <;> subst z
      · rw [if_pos (by decide)]
      · rw [if_neg (by decide), if_pos (by decide)]
    rw [ec, r1, if_neg k5, isof k hk, kio, if_pos rfl, zbnd_some, if_neg (show ¬ nI 1 = (0 : Int32) by decide), r2]
    exact ⟨_, _, _, rfl, rfl, r3⟩
  · subst e
    obtain ⟨τ1, υ1, b1, b2, b3⟩ := zbeg2 (N := N) 22 h
    obtain ⟨τ2, υ2, d1, d2, d3⟩ := zbeg2 (N := N) 20 b3
    have c7 := (zA2_c d3 hc).2.2.1
    have m29 := (zA2_m d3 hm).2.2.1
    unfold fX0_mark22 fX0_mark20 fX8_markOf_13 fX8_markOf_26 fX8_markOf_29
    rw [if_neg (by decide), if_neg (by decide), if_pos (show nI 5 = (5 : Int32) from rfl), if_pos (show nI 5 = (5 : Int32) from rfl), if_pos (show nI 5 = (5 : Int32) from rfl), b1, zbnd_some, d1, zbnd_some, zbnd_some, zbnd_some, b2, zbnd_some, d2, zbnd_some, if_pos (show nI 5 = (5 : Int32) from rfl), c7, m29]
    exact ⟨_, _, _, rfl, rfl, d3⟩
