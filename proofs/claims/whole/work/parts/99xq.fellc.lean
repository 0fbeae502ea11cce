/-! ===== felling: the class's search ===== -/
/-- the class's state behind the sets of l -/
def zFS (σ : zSt) (a : zA) (cl : Nat) (w : Int32) (l : List Nat) : Prop := σ.1 21 1 = nI cl ∧ σ.1 21 2 = nI (zS (zsd a)) ∧ σ.1 21 3 = w ∧ σ.1 21 4 = nI l.length ∧ σ.1 21 5 = zanr w l 0
theorem zccount {N cl : Nat} {a : zA} {σ : zSt} {w : Int32} {l : List Nat} {X : Nat → Bool} (h : zCN σ a) (ho : zOk a) (hcl : cl < 20) (hN : 600000 ≤ N) (hs : zFS σ a cl w l) (hl : l.length < 2 ^ 31) : ∃ τ, fX1_countIfItFells N (nI (zS X)) σ = some (nI (if zfl a cl X then 1 else 0), τ) ∧ zFS τ a cl w (l ++ if zfl a cl X then [zS X] else []) ∧ ∀ k, k ≠ 21 → τ.1 k = σ.1 k := by
  obtain ⟨s1, s2, s3, s4, s5⟩ := hs
  unfold fX1_countIfItFells
  rw [s2, zS_andn, zcspread0 h ho hN, zbnd_some, s1, zbitAt hcl, zbnd_some]
  unfold zfl
  cases hz : zsh a (fun _ => false) (fun i => zsd a i && !X i) cl
  · rw [if_neg (show ¬ false = true by decide), if_neg (show ¬ nI 0 = (1 : Int32) by decide), s4, s3]
    have sn := zanr_snoc (w := w) (l := l) (x := zS X) hl
    have ln : (l ++ [zS X]).length = l.length + 1 := by simp
    unfold fX1_countIfItFells_42
    by_cases q : nI l.length = w
    · rw [if_pos q] at sn
      rw [if_pos q, zpf_eq, zpf_eq, show (zsi σ 21 5 (nI (zS X))).1 21 4 = nI l.length from (zsi_o (by decide)).trans s4, nI_1]
      refine ⟨_, zrz_1, ⟨?_, ?_, ?_, ?_, ?_⟩, fun k hk => by rw [zsi_c hk, zsi_c hk]⟩
      · rw [zsi_o (by decide), zsi_o (by decide)]; exact s1
      · rw [zsi_o (by decide), zsi_o (by decide)]; exact s2
      · rw [zsi_o (by decide), zsi_o (by decide)]; exact s3
      · rw [zsi_s]
        show nI (l.length + 1) = nI (l ++ [zS X]).length
        rw [ln]
      · rw [zsi_o (by decide), zsi_s]
        exact sn.symm
    · rw [if_neg q] at sn
      rw [if_neg q, zpf_eq, s4, nI_1]
      refine ⟨_, zrz_1, ⟨?_, ?_, ?_, ?_, ?_⟩, fun k hk => by rw [zsi_c hk]⟩
      · rw [zsi_o (by decide)]; exact s1
      · rw [zsi_o (by decide)]; exact s2
      · rw [zsi_o (by decide)]; exact s3
      · rw [zsi_s]
        show nI (l.length + 1) = nI (l ++ [zS X]).length
        rw [ln]
      · rw [zsi_o (by decide), s5]
        exact sn.symm
  · rw [if_pos rfl, if_pos (show nI 1 = (1 : Int32) from rfl)]
    refine ⟨σ, zrz_0, ?_, fun _ _ => rfl⟩
    show zFS σ a cl w (l ++ [])
    rw [List.append_nil]
    exact ⟨s1, s2, s3, s4, s5⟩
theorem zFS_fr {σ τ : zSt} {a : zA} {cl : Nat} {w : Int32} {l : List Nat} (h : zFS σ a cl w l) (e : τ.1 21 = σ.1 21) : zFS τ a cl w l := by
  unfold zFS at *
  rw [e]
  exact h
/-! ones -/
def zH1 (a : zA) (cl i : Nat) : List Nat := if zsd a i && zfl a cl (zX1 i) then [zS (zX1 i)] else []
theorem zco_1 {N cl : Nat} {a : zA} {w : Int32} (ho : zOk a) (hcl : cl < 20) (hN : 600000 ≤ N) : ∀ (g f i : Nat) (σ : zSt), zCN σ a → zFS σ a cl w (zfm (zH1 a cl) i) → g < f → i + g = 20 → ∃ τ, fX1_seekOnes_4 N f (nI (zS (fun n => decide (n < i) && (zsd a n && zfl a cl (zX1 n))))) (nI i) σ = some (nI (zS (fun n => decide (n < 20) && (zsd a n && zfl a cl (zX1 n)))), τ) ∧ zFS τ a cl w (zfm (zH1 a cl) 20) ∧ ∀ k, k ≠ 21 → τ.1 k = σ.1 k
  | 0, f + 1, i, σ, h, hs, _, hi => by
    have e : i = 20 := by omega
    subst e
    rw [fX1_seekOnes_4, if_pos (by decide)]
    exact ⟨σ, rfl, hs, fun _ _ => rfl⟩
  | g + 1, f + 1, i, σ, h, hs, hf, hi => by
    have hlen : (zfm (zH1 a cl) i).length ≤ i * 1 := zfm_len (fun j _ => by unfold zH1; split <;> simp)
    rw [fX1_seekOnes_4, if_neg (show ¬ (20 : Int32) ≤ nI i from nI_ge (b := 20) (by omega) (by omega)), hs.2.1, zbitAt (by omega), zbnd_some]
    cases hz : zsd a i
    · have e : zfm (zH1 a cl) (i + 1) = zfm (zH1 a cl) i := by
        rw [zfm]
        unfold zH1
        rw [hz]
        simp
      rw [if_neg (show ¬ false = true by decide), if_neg (show ¬ nI 0 = (1 : Int32) by decide), nI_1, zacc_no (by rw [hz, Bool.false_and])]
      exact zco_1 ho hcl hN g f (i + 1) σ h (by rw [e]; exact hs) (by omega) (by omega)
    · obtain ⟨τ, t1, t2, t3⟩ := zccount (N := N) (X := zX1 i) h ho hcl hN hs (by omega)
      have t1 : fX1_countIfItFells N (nI (zS (fun j => j == i))) σ = _ := t1
      have e : zfm (zH1 a cl) (i + 1) = zfm (zH1 a cl) i ++ if zfl a cl (zX1 i) then [zS (zX1 i)] else [] := by
        rw [zfm]
        congr 1
        unfold zH1
        rw [hz, Bool.true_and]
      have ih := zco_1 (N := N) (w := w) ho hcl hN g f (i + 1) τ (zCN_fr h (fun k q1 q2 => t3 k (by omega))) (by rw [e]; exact t2) (by omega) (by omega)
      rw [if_pos rfl, if_pos (show nI 1 = (1 : Int32) from rfl), zS_shl (by omega), t1, zbnd_some]
      cases hw : zfl a cl (zX1 i)
      · rw [if_neg (show ¬ false = true by decide), if_pos (show nI 0 = (0 : Int32) from rfl), nI_1, zacc_no (by rw [hw, Bool.and_false])]
        obtain ⟨υ, u1, u2, u3⟩ := ih
        exact ⟨υ, u1, u2, fun k hk => (u3 k hk).trans (t3 k hk)⟩
      · rw [if_pos rfl, if_neg (show ¬ nI 1 = (0 : Int32) by decide), znm_eq, ← zS_shl (show i < 20 by omega), zacc_yes (by omega) (by rw [hw, hz]; rfl), nI_1]
        obtain ⟨υ, u1, u2, u3⟩ := ih
        exact ⟨υ, u1, u2, fun k hk => (u3 k hk).trans (t3 k hk)⟩
/-- standing, and felling nothing alone -/
def zrs (a : zA) (cl n : Nat) : Bool := zsd a n && !zfl a cl (zX1 n)
def zY2 (b c i : Nat) : Bool := (i == b) || (i == c)
def zY3 (a b c i : Nat) : Bool := ((i == a) || (i == b)) || (i == c)
/-! twos -/
def zH2 (a : zA) (cl b c : Nat) : List Nat := if zrs a cl c && zfl a cl (zY2 b c) then [zS (zY2 b c)] else []
def zK2 (a : zA) (cl b : Nat) : List Nat := if zrs a cl b then zfm (zH2 a cl b) b else []
/-- c is b's partner -/
def zpr (a : zA) (cl b c : Nat) : Bool := zrs a cl b && (decide (c < b) && (zrs a cl c && zfl a cl (zY2 b c)))
theorem zco_2i {N cl b : Nat} {a : zA} {w : Int32} {pre : List Nat} {k2 : Int32 → Int32 → zSt → Option (Unit × zSt)} (ho : zOk a) (hcl : cl < 20) (hN : 600000 ≤ N) (hb : b < 20) (hpre : pre.length + 400 < 2 ^ 31) : ∀ (g f i : Nat) (σ : zSt), zCN σ a → zFS σ a cl w (pre ++ zfm (zH2 a cl b) i) → σ.1 22 b = nI (zS (fun n => decide (n < i) && (zrs a cl n && zfl a cl (zY2 b n)))) → g < f → i + g = b → ∃ τ, fX1_seekTwos_29 N k2 f (nI (zS (zrs a cl))) (nI b) (nI i) σ = k2 (nI (zS (zrs a cl))) (nI (b + 1)) τ ∧ zFS τ a cl w (pre ++ zfm (zH2 a cl b) b) ∧ (∀ k, k ≠ 21 → k ≠ 22 → τ.1 k = σ.1 k) ∧ (∀ n, n ≠ b → τ.1 22 n = σ.1 22 n) ∧ τ.1 22 b = nI (zS (fun n => decide (n < b) && (zrs a cl n && zfl a cl (zY2 b n))))
  | 0, f + 1, i, σ, h, hs, hp, _, hi => by
    have e : i = b := by omega
    subst e
    rw [fX1_seekTwos_29, if_pos (nI_le (by omega) (by omega)), nI_1]
    exact ⟨σ, rfl, hs, fun _ _ _ => rfl, fun _ _ => rfl, hp⟩
  | g + 1, f + 1, i, σ, h, hs, hp, hf, hi => by
    have hlen : (zfm (zH2 a cl b) i).length ≤ i * 1 := zfm_len (fun j _ => by unfold zH2; split <;> simp)
    rw [fX1_seekTwos_29, if_neg (nI_ge (by omega) (by omega)), zbitAt (by omega), zbnd_some]
    cases hz : zrs a cl i
    · have e : zfm (zH2 a cl b) (i + 1) = zfm (zH2 a cl b) i := by
        rw [zfm]
        unfold zH2
        rw [hz]
        simp
      rw [if_neg (show ¬ false = true by decide), if_neg (show ¬ nI 0 = (1 : Int32) by decide), nI_1]
      exact zco_2i ho hcl hN hb hpre g f (i + 1) σ h (by rw [e]; exact hs) (by rw [hp, zacc_no (by rw [hz, Bool.false_and])]) (by omega) (by omega)
    · obtain ⟨τ, t1, t2, t3⟩ := zccount (N := N) (X := zY2 b i) h ho hcl hN hs (by rw [List.length_append]; omega)
      have t1 : fX1_countIfItFells N (nI (zS (fun j => (j == b) || (j == i)))) σ = _ := t1
      have e : pre ++ zfm (zH2 a cl b) (i + 1) = pre ++ zfm (zH2 a cl b) i ++ if zfl a cl (zY2 b i) then [zS (zY2 b i)] else [] := by
        rw [zfm, List.append_assoc]
        congr 2
        unfold zH2
        rw [hz, Bool.true_and]
      rw [if_pos rfl, if_pos (show nI 1 = (1 : Int32) from rfl), zS_shl hb, zS_shl (show i < 20 by omega), zS_or, t1, zbnd_some]
      have tp : τ.1 22 b = nI (zS (fun n => decide (n < i) && (zrs a cl n && zfl a cl (zY2 b n)))) := by rw [t3 22 (by decide)]; exact hp
      cases hw : zfl a cl (zY2 b i)
      · obtain ⟨υ, u1, u2, u3, u4, u5⟩ := zco_2i (N := N) (w := w) (pre := pre) (k2 := k2) ho hcl hN hb hpre g f (i + 1) τ (zCN_fr h (fun k q1 q2 => t3 k (by omega))) (by rw [e]; exact t2) (by rw [tp, zacc_no (by rw [hw, Bool.and_false])]) (by omega) (by omega)
        rw [if_neg (show ¬ false = true by decide), if_pos (show nI 0 = (0 : Int32) from rfl), nI_1]
        exact ⟨υ, u1, u2, fun k q1 q2 => (u3 k q1 q2).trans (t3 k q1), fun n hn => (u4 n hn).trans (by rw [t3 22 (by decide)]), u5⟩
      · obtain ⟨υ, u1, u2, u3, u4, u5⟩ := zco_2i (N := N) (w := w) (pre := pre) (k2 := k2) ho hcl hN hb hpre g f (i + 1) (zsi τ 22 b (nI (zS (fun n => decide (n < i + 1) && (zrs a cl n && zfl a cl (zY2 b n)))))) (zCN_fr h (fun k q1 q2 => by rw [zsi_c (by omega)]; exact t3 k (by omega))) (by rw [e]; exact zFS_fr t2 (zsi_c (by decide))) zsi_s (by omega) (by omega)
        rw [if_pos rfl, if_neg (show ¬ nI 1 = (0 : Int32) by decide), zag_nI (by omega) (by omega), tp, zas_nI (by omega) (by omega), ← zS_shl (show i < 20 by omega), zacc_yes (by omega) (by rw [hw, hz]; rfl), nI_1]
        exact ⟨υ, u1, u2, fun k q1 q2 => (u3 k q1 q2).trans (by rw [zsi_c q2]; exact t3 k q1), fun n hn => (u4 n hn).trans (by rw [zsi_o hn, t3 22 (by decide)]), u5⟩
theorem zco_2 {N cl : Nat} {a : zA} {w : Int32} {pre : List Nat} (ho : zOk a) (hcl : cl < 20) (hN : 600000 ≤ N) (hpre : pre.length + 10000 < 2 ^ 31) : ∀ (g f i : Nat) (σ : zSt), zCN σ a → zFS σ a cl w (pre ++ zfm (zK2 a cl) i) → (∀ n, n < i → σ.1 22 n = nI (zS (zpr a cl n))) → g < f → i + g = 20 → ∃ τ, fX1_seekTwos_2 N f (nI (zS (zrs a cl))) (nI i) σ = some ((), τ) ∧ zFS τ a cl w (pre ++ zfm (zK2 a cl) 20) ∧ (∀ k, k ≠ 21 → k ≠ 22 → τ.1 k = σ.1 k) ∧ ∀ n, n < 20 → τ.1 22 n = nI (zS (zpr a cl n))
  | 0, f + 1, i, σ, h, hs, hp, _, hi => by
    have e : i = 20 := by omega
    subst e
    rw [fX1_seekTwos_2, if_pos (by decide)]
    exact ⟨σ, rfl, hs, fun _ _ _ => rfl, hp⟩
  | g + 1, f + 1, i, σ, h, hs, hp, hf, hi => by
    have hlen : (zfm (zK2 a cl) i).length ≤ i * 20 := zfm_len (fun j hj => by
      unfold zK2
      split
      · have : (zfm (zH2 a cl j) j).length ≤ j * 1 := zfm_len (fun j _ => by unfold zH2; split <;> simp)
        omega
      · simp)
    rw [fX1_seekTwos_2, if_neg (show ¬ (20 : Int32) ≤ nI i from nI_ge (b := 20) (by omega) (by omega)), zas_nI (by omega) (by omega), zbitAt (by omega), zbnd_some]
    cases hz : zrs a cl i
    · have e : zfm (zK2 a cl) (i + 1) = zfm (zK2 a cl) i := by
        rw [zfm]
        unfold zK2
        rw [hz]
        simp
      obtain ⟨τ, t1, t2, t3, t4⟩ := zco_2 (N := N) (w := w) (pre := pre) ho hcl hN hpre g f (i + 1) (zsi σ 22 i 0) (zCN_fr h (fun k q1 q2 => zsi_c (by omega))) (by rw [e]; exact zFS_fr hs (zsi_c (by decide))) (fun n hn => by
        by_cases q : n = i
        · rw [q, zsi_s]
          have : zS (zpr a cl i) = zS (fun _ => false) := zset_cong (fun j _ => by unfold zpr; rw [hz]; rfl)
          rw [this, zS_0]
          rfl
        · rw [zsi_o q]; exact hp n (by omega)) (by omega) (by omega)
      rw [if_neg (show ¬ false = true by decide), if_pos (show nI 0 = (0 : Int32) from rfl), nI_1]
      exact ⟨τ, t1, t2, fun k q1 q2 => (t3 k q1 q2).trans (zsi_c q2), t4⟩
    · obtain ⟨τ, t1, t2, t3, t4, t5⟩ := zco_2i (N := N) (w := w) (b := i) (pre := pre ++ zfm (zK2 a cl) i) (k2 := fX1_seekTwos_2 N f) ho hcl hN (by omega) (by rw [List.length_append]; omega) i N 0 (zsi σ 22 i 0) (zCN_fr h (fun k q1 q2 => zsi_c (by omega))) (by rw [zfm, List.append_nil]; exact zFS_fr hs (zsi_c (by decide))) (by rw [zsi_s]; exact zacc_0) (by omega) (by omega)
      have t1 : fX1_seekTwos_29 N (fX1_seekTwos_2 N f) N (nI (zS (zrs a cl))) (nI i) 0 (zsi σ 22 i 0) = _ := t1
      have e : zfm (zK2 a cl) (i + 1) = zfm (zK2 a cl) i ++ zfm (zH2 a cl i) i := by
        rw [zfm]
        congr 1
        unfold zK2
        rw [hz, if_pos rfl]
      obtain ⟨υ, u1, u2, u3, u4⟩ := zco_2 (N := N) (w := w) (pre := pre) ho hcl hN hpre g f (i + 1) τ (zCN_fr h (fun k q1 q2 => by rw [t3 k (by omega) (by omega), zsi_c (by omega)])) (by rw [e, ← List.append_assoc]; exact t2) (fun n hn => by
        by_cases q : n = i
        · rw [q, t5]
          refine zS_eq.mpr (fun j _ => ?_)
          unfold zpr
          rw [hz, Bool.true_and]
        · rw [t4 n q, zsi_o q]; exact hp n (by omega)) (by omega) (by omega)
      rw [if_pos rfl, if_neg (show ¬ nI 1 = (0 : Int32) by decide), t1]
      exact ⟨υ, u1, u2, fun k q1 q2 => (u3 k q1 q2).trans ((t3 k q1 q2).trans (zsi_c q2)), u4⟩
/-! threes -/
def zb1 (a : zA) (cl x n : Nat) : Bool := zrs a cl n && !zpr a cl x n
def zb2 (a : zA) (cl x y n : Nat) : Bool := zb1 a cl x n && !zpr a cl y n
def zH3 (a : zA) (cl x y c : Nat) : List Nat := if zb2 a cl x y c && zfl a cl (zY3 x y c) then [zS (zY3 x y c)] else []
def zI3 (a : zA) (cl x y : Nat) : List Nat := if zb1 a cl x y then zfm (zH3 a cl x y) y else []
def zK3 (a : zA) (cl x : Nat) : List Nat := if zrs a cl x then zfm (zI3 a cl x) x else []
theorem zH3_len {a : zA} {cl x y c : Nat} : (zH3 a cl x y c).length ≤ 1 := by
  unfold zH3
  split <;> simp
theorem zI3_len {a : zA} {cl x y : Nat} (hy : y < 20) : (zI3 a cl x y).length ≤ 20 := by
  unfold zI3
  split
  · have : (zfm (zH3 a cl x y) y).length ≤ y * 1 := zfm_len (fun j _ => zH3_len)
    omega
  · simp
theorem zK3_len {a : zA} {cl x : Nat} (hx : x < 20) : (zK3 a cl x).length ≤ 400 := by
  unfold zK3
  split
  · have : (zfm (zI3 a cl x) x).length ≤ x * 20 := zfm_len (fun j hj => zI3_len (by omega))
    omega
  · simp
theorem zco_3c {N cl x y : Nat} {a : zA} {w : Int32} {pre : List Nat} {k2 : Int32 → Int32 → zSt → Option (Unit × zSt)} {k34 : Int32 → Int32 → Int32 → Int32 → zSt → Option (Unit × zSt)} (ho : zOk a) (hcl : cl < 20) (hN : 600000 ≤ N) (hx : x < 20) (hy : y < 20) (hpre : pre.length + 400 < 2 ^ 31) : ∀ (g f i : Nat) (σ : zSt), zCN σ a → zFS σ a cl w (pre ++ zfm (zH3 a cl x y) i) → g < f → i + g = y → ∃ τ, fX1_seekThrees_70 N k2 k34 f (nI (zS (zrs a cl))) (nI x) (nI (zS (zb1 a cl x))) (nI y) (nI (zS (zb2 a cl x y))) (nI i) σ = k34 (nI (zS (zrs a cl))) (nI x) (nI (zS (zb1 a cl x))) (nI (y + 1)) τ ∧ zFS τ a cl w (pre ++ zfm (zH3 a cl x y) y) ∧ ∀ k, k ≠ 21 → τ.1 k = σ.1 k
  | 0, f + 1, i, σ, h, hs, _, hi => by
    have e : i = y := by omega
    subst e
    rw [fX1_seekThrees_70, if_pos (nI_le (by omega) (by omega)), nI_1]
    exact ⟨σ, rfl, hs, fun _ _ => rfl⟩
  | g + 1, f + 1, i, σ, h, hs, hf, hi => by
    have hlen : (zfm (zH3 a cl x y) i).length ≤ i * 1 := zfm_len (fun j _ => zH3_len)
    rw [fX1_seekThrees_70, if_neg (nI_ge (by omega) (by omega)), zbitAt (by omega), zbnd_some]
    cases hz : zb2 a cl x y i
    · have e : zfm (zH3 a cl x y) (i + 1) = zfm (zH3 a cl x y) i := by
        rw [zfm]
        unfold zH3
        rw [hz]
        simp
      rw [if_neg (show ¬ false = true by decide), if_neg (show ¬ nI 0 = (1 : Int32) by decide), nI_1]
      exact zco_3c ho hcl hN hx hy hpre g f (i + 1) σ h (by rw [e]; exact hs) (by omega) (by omega)
    · obtain ⟨τ, t1, t2, t3⟩ := zccount (N := N) (X := zY3 x y i) h ho hcl hN hs (by rw [List.length_append]; omega)
      have t1 : fX1_countIfItFells N (nI (zS (fun j => ((j == x) || (j == y)) || (j == i)))) σ = _ := t1
      have e : pre ++ zfm (zH3 a cl x y) (i + 1) = pre ++ zfm (zH3 a cl x y) i ++ if zfl a cl (zY3 x y i) then [zS (zY3 x y i)] else [] := by
        rw [zfm, List.append_assoc]
        congr 2
        unfold zH3
        rw [hz, Bool.true_and]
      rw [if_pos rfl, if_pos (show nI 1 = (1 : Int32) from rfl), zS_shl hx, zS_shl hy, zS_shl (show i < 20 by omega), zS_or, zS_or, t1, zbnd_some, nI_1]
      obtain ⟨υ, u1, u2, u3⟩ := zco_3c (N := N) (w := w) (pre := pre) (k2 := k2) (k34 := k34) ho hcl hN hx hy hpre g f (i + 1) τ (zCN_fr h (fun k q1 q2 => t3 k (by omega))) (by rw [e]; exact t2) (by omega) (by omega)
      exact ⟨υ, u1, u2, fun k hk => (u3 k hk).trans (t3 k hk)⟩
theorem zco_3b {N cl x : Nat} {a : zA} {w : Int32} {pre : List Nat} {k2 : Int32 → Int32 → zSt → Option (Unit × zSt)} (ho : zOk a) (hcl : cl < 20) (hN : 600000 ≤ N) (hx : x < 20) (hpre : pre.length + 1000 < 2 ^ 31) : ∀ (g f i : Nat) (σ : zSt), zCN σ a → zFS σ a cl w (pre ++ zfm (zI3 a cl x) i) → (∀ n, n < 20 → σ.1 22 n = nI (zS (zpr a cl n))) → g < f → i + g = x → ∃ τ, fX1_seekThrees_34 N k2 f (nI (zS (zrs a cl))) (nI x) (nI (zS (zb1 a cl x))) (nI i) σ = k2 (nI (zS (zrs a cl))) (nI (x + 1)) τ ∧ zFS τ a cl w (pre ++ zfm (zI3 a cl x) x) ∧ ∀ k, k ≠ 21 → τ.1 k = σ.1 k
  | 0, f + 1, i, σ, h, hs, hp, _, hi => by
    have e : i = x := by omega
    subst e
    rw [fX1_seekThrees_34, if_pos (nI_le (by omega) (by omega)), nI_1]
    exact ⟨σ, rfl, hs, fun _ _ => rfl⟩
  | g + 1, f + 1, i, σ, h, hs, hp, hf, hi => by
    have hlen : (zfm (zI3 a cl x) i).length ≤ i * 20 := zfm_len (fun j hj => zI3_len (by omega))
    rw [fX1_seekThrees_34, if_neg (nI_ge (by omega) (by omega)), zbitAt (by omega), zbnd_some]
    cases hz : zb1 a cl x i
    · have e : zfm (zI3 a cl x) (i + 1) = zfm (zI3 a cl x) i := by
        rw [zfm]
        unfold zI3
        rw [hz]
        simp
      rw [if_neg (show ¬ false = true by decide), if_pos (show nI 0 = (0 : Int32) from rfl), nI_1]
      exact zco_3b ho hcl hN hx hpre g f (i + 1) σ h (by rw [e]; exact hs) hp (by omega) (by omega)
    · have e : pre ++ zfm (zI3 a cl x) (i + 1) = pre ++ zfm (zI3 a cl x) i ++ zfm (zH3 a cl x i) i := by
        rw [zfm, List.append_assoc]
        congr 2
        unfold zI3
        rw [hz, if_pos rfl]
      obtain ⟨τ, t1, t2, t3⟩ := zco_3c (N := N) (w := w) (x := x) (y := i) (pre := pre ++ zfm (zI3 a cl x) i) (k2 := k2) (k34 := fX1_seekThrees_34 N k2 f) ho hcl hN hx (by omega) (by rw [List.length_append]; omega) i N 0 σ h (by rw [zfm, List.append_nil]; exact hs) (by omega) (by omega)
      have t1 : fX1_seekThrees_70 N k2 (fX1_seekThrees_34 N k2 f) N (nI (zS (zrs a cl))) (nI x) (nI (zS (zb1 a cl x))) (nI i) (nI (zS (zb2 a cl x i))) 0 σ = _ := t1
      obtain ⟨υ, u1, u2, u3⟩ := zco_3b (N := N) (w := w) (pre := pre) (k2 := k2) ho hcl hN hx hpre g f (i + 1) τ (zCN_fr h (fun k q1 q2 => t3 k (by omega))) (by rw [e]; exact t2) (fun n hn => by rw [t3 22 (by decide)]; exact hp n hn) (by omega) (by omega)
      have es : nI (zS (zb1 a cl x)) &&& (nI (zS (zpr a cl i)) ^^^ (-1 : Int32)) = nI (zS (zb2 a cl x i)) := zS_andn
      rw [if_pos rfl, if_neg (show ¬ nI 1 = (0 : Int32) by decide), zag_nI (by omega) (by omega), hp i (by omega), znm_eq, es, t1]
      exact ⟨υ, u1, u2, fun k hk => (u3 k hk).trans (t3 k hk)⟩
theorem zco_3 {N cl : Nat} {a : zA} {w : Int32} {pre : List Nat} (ho : zOk a) (hcl : cl < 20) (hN : 600000 ≤ N) (hpre : pre.length + 10000 < 2 ^ 31) : ∀ (g f i : Nat) (σ : zSt), zCN σ a → zFS σ a cl w (pre ++ zfm (zK3 a cl) i) → (∀ n, n < 20 → σ.1 22 n = nI (zS (zpr a cl n))) → g < f → i + g = 20 → ∃ τ, fX1_seekThrees_2 N f (nI (zS (zrs a cl))) (nI i) σ = some ((), τ) ∧ zFS τ a cl w (pre ++ zfm (zK3 a cl) 20) ∧ ∀ k, k ≠ 21 → τ.1 k = σ.1 k
  | 0, f + 1, i, σ, h, hs, hp, _, hi => by
    have e : i = 20 := by omega
    subst e
    rw [fX1_seekThrees_2, if_pos (by decide)]
    exact ⟨σ, rfl, hs, fun _ _ => rfl⟩
  | g + 1, f + 1, i, σ, h, hs, hp, hf, hi => by
    have hlen : (zfm (zK3 a cl) i).length ≤ i * 400 := zfm_len (fun j hj => zK3_len (by omega))
    rw [fX1_seekThrees_2, if_neg (show ¬ (20 : Int32) ≤ nI i from nI_ge (b := 20) (by omega) (by omega)), zbitAt (by omega), zbnd_some]
    cases hz : zrs a cl i
    · have e : zfm (zK3 a cl) (i + 1) = zfm (zK3 a cl) i := by
        rw [zfm]
        unfold zK3
        rw [hz]
        simp
      rw [if_neg (show ¬ false = true by decide), if_pos (show nI 0 = (0 : Int32) from rfl), nI_1]
      exact zco_3 ho hcl hN hpre g f (i + 1) σ h (by rw [e]; exact hs) hp (by omega) (by omega)
    · have e : pre ++ zfm (zK3 a cl) (i + 1) = pre ++ zfm (zK3 a cl) i ++ zfm (zI3 a cl i) i := by
        rw [zfm, List.append_assoc]
        congr 2
        unfold zK3
        rw [hz, if_pos rfl]
      obtain ⟨τ, t1, t2, t3⟩ := zco_3b (N := N) (w := w) (x := i) (pre := pre ++ zfm (zK3 a cl) i) (k2 := fX1_seekThrees_2 N f) ho hcl hN (by omega) (by rw [List.length_append]; omega) i N 0 σ h (by rw [zfm, List.append_nil]; exact hs) hp (by omega) (by omega)
      have t1 : fX1_seekThrees_34 N (fX1_seekThrees_2 N f) N (nI (zS (zrs a cl))) (nI i) (nI (zS (zb1 a cl i))) 0 σ = _ := t1
      obtain ⟨υ, u1, u2, u3⟩ := zco_3 (N := N) (w := w) (pre := pre) ho hcl hN hpre g f (i + 1) τ (zCN_fr h (fun k q1 q2 => t3 k (by omega))) (by rw [e]; exact t2) (fun n hn => by rw [t3 22 (by decide)]; exact hp n hn) (by omega) (by omega)
      have es : nI (zS (zrs a cl)) &&& (nI (zS (zpr a cl i)) ^^^ (-1 : Int32)) = nI (zS (zb1 a cl i)) := zS_andn
      rw [if_pos rfl, if_neg (show ¬ nI 1 = (0 : Int32) by decide), zag_nI (by omega) (by omega), hp i (by omega), znm_eq, es, t1]
      exact ⟨υ, u1, u2, fun k hk => (u3 k hk).trans (t3 k hk)⟩
