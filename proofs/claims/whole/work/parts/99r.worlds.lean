/-! ===== the worlds that show a claim ===== -/
theorem zshlb {b : Bool} {k : Nat} (hk : k < 31) : nI (if b then 1 else 0) <<< (nI k &&& 31) = nI (if b then 2 ^ k else 0) := by
  cases b
  · have : ∀ k, k < 31 → nI 0 <<< (nI k &&& 31) = nI 0 := by decide +kernel
    exact this k hk
  · exact zshl1 hk
theorem zS_if {b : Bool} {k : Nat} (hk : k < 20) : (if b then 2 ^ k else 0) = zS (fun n => b && (n == k)) := by
  cases b
  · rw [if_neg (by decide)]
    have : zS (fun n => false && (n == k)) = zS (fun _ => false) := zset_cong (fun _ _ => rfl)
    rw [this, zS_0]
  · rw [if_pos rfl]
    have : zS (fun n => true && (n == k)) = zS (fun n => n == k) := zset_cong (fun _ _ => rfl)
    rw [this, zS_one hk]
def zLv (a : zA) (nd : Nat → Nat) (cnt w i n : Nat) : Bool := (zsd a n && !zim nd cnt n) || zex (fun i => w.testBit i && (n == nd i)) i
/-- in world w the claim is shown -/
def zWw (a : zA) (nd : Nat → Nat) (cnt cl w : Nat) : Bool := zsh a (fun _ => false) (zLv a nd cnt w cnt) cl
def zWo (a : zA) (nd : Nat → Nat) (cnt cl : Nat) : Nat := zset (zWw a nd cnt cl) (2 ^ cnt)
theorem zLv_step {a : zA} {nd : Nat → Nat} {cnt w i : Nat} (hn : nd i < 20) : nI (zS (zLv a nd cnt w i)) ||| nI (if w.testBit i then 2 ^ nd i else 0) = nI (zS (zLv a nd cnt w (i + 1))) := by
  rw [zS_if hn, zS_or]
  refine zS_eq.mpr (fun n _ => ?_)
  unfold zLv
  rw [zex, Bool.or_assoc]
theorem zLv_0 {a : zA} {nd : Nat → Nat} {cnt w : Nat} : zS (zLv a nd cnt w 0) = zS (fun n => zsd a n && !zim nd cnt n) := zset_cong (fun n _ => by unfold zLv; rw [zex, Bool.or_false])
theorem zWo_step {W : Nat → Bool} {j : Nat} : nI (zset W j) ||| nI (if W j then 2 ^ j else 0) = nI (zset W (j + 1)) := by
  rw [fa_or]; rfl
theorem zWo_lt {a : zA} {nd : Nat → Nat} {cnt cl : Nat} (h : cnt ≤ 3) : zWo a nd cnt cl < 256 := by
  have := zset_lt (zWw a nd cnt cl) (2 ^ cnt)
  have h2 := Nat.pow_le_pow_right (show 0 < 2 by decide) (zpow8 h)
  have : (2 : Nat) ^ 8 = 256 := by decide
  unfold zWo
  omega
section zWorldC
variable {N cnt cl : Nat} {a : zA} {nd : Nat → Nat} {σ : zSt}
theorem zcw_in (h : zCN σ a) (ho : zOk a) (hN : 600000 ≤ N) (hc3 : cnt ≤ 3) (hcnt : σ.1 23 0 = nI cnt) (hnd : ∀ k, k < cnt → σ.1 24 k = nI (nd k) ∧ nd k < 20) (hcl : cl < 20) {k43 : Int32 → Int32 → Int32 → Int32 → zSt → Option (Int32 × zSt)} {x3 : Int32} {acc w : Nat} (hw : w < 8) : ∀ (g f i : Nat), g < f → i + g = cnt → fX6_worldsShowing_60 N k43 f (nI cl) x3 (nI acc) (nI w) (nI (zS (zLv a nd cnt w i))) (nI i) σ = k43 (nI cl) x3 (nI acc ||| nI (if zWw a nd cnt cl w then 2 ^ w else 0)) (nI (w + 1)) σ
  | 0, f + 1, i, _, hi => by
    have e : i = cnt := by omega
    subst e
    rw [fX6_worldsShowing_60, hcnt, if_pos (nI_le (by omega) (by omega)), zcspread0 h ho hN, zbnd_some, zbitAt hcl, zbnd_some, znm_eq, zshlb (by omega), nI_1]
    rfl
  | g + 1, f + 1, i, hf, hi => by
    obtain ⟨n1, n2⟩ := hnd i (by omega)
    rw [fX6_worldsShowing_60, hcnt, if_neg (nI_ge (by omega) (by omega)), fX7_bitAt_eq (by omega) (by omega), zbnd_some, zag_nI (by omega) (by omega), n1, znm_eq, zshlb (by omega), zLv_step n2, nI_1]
    exact zcw_in h ho hN hc3 hcnt hnd hcl hw g f (i + 1) (by omega) (by omega)
theorem zcw_out (h : zCN σ a) (ho : zOk a) (hN : 600000 ≤ N) (hc3 : cnt ≤ 3) (hcnt : σ.1 23 0 = nI cnt) (hnd : ∀ k, k < cnt → σ.1 24 k = nI (nd k) ∧ nd k < 20) (hcl : cl < 20) : ∀ (g f w : Nat), g < f → w + g = 2 ^ cnt → fX6_worldsShowing_43 N f (nI cl) (nI (zS (fun n => zsd a n && !zim nd cnt n))) (nI (zset (zWw a nd cnt cl) w)) (nI w) σ = some (nI (zWo a nd cnt cl), σ)
  | 0, f + 1, w, _, hw => by
    have h8 := zpow8 hc3
    rw [fX6_worldsShowing_43, hcnt, zshl1 (by omega), if_pos (nI_le (by omega) (by omega)), show w = 2 ^ cnt by omega]
    rfl
  | g + 1, f + 1, w, hf, hw => by
    have h8 := zpow8 hc3
    have e := zcw_in (N := N) h ho hN hc3 hcnt hnd hcl (k43 := fX6_worldsShowing_43 N f) (x3 := nI (zS (fun n => zsd a n && !zim nd cnt n))) (acc := zset (zWw a nd cnt cl) w) (w := w) (by omega) cnt N 0 (by omega) (by omega)
    rw [zLv_0] at e
    have e : fX6_worldsShowing_60 N (fX6_worldsShowing_43 N f) N (nI cl) (nI (zS (fun n => zsd a n && !zim nd cnt n))) (nI (zset (zWw a nd cnt cl) w)) (nI w) (nI (zS (fun n => zsd a n && !zim nd cnt n))) 0 σ = _ := e
    rw [fX6_worldsShowing_43, hcnt, zshl1 (by omega), if_neg (nI_ge (by omega) (by omega)), e, zWo_step]
    exact zcw_out h ho hN hc3 hcnt hnd hcl g f (w + 1) (by omega) (by omega)
theorem zcw_rest (h : zCN σ a) (ho : zOk a) (hN : 600000 ≤ N) (hc3 : cnt ≤ 3) (hcnt : σ.1 23 0 = nI cnt) (hnd : ∀ k, k < cnt → σ.1 24 k = nI (nd k) ∧ nd k < 20) (hcl : cl < 20) : ∀ (g f i : Nat), g < f → i + g = cnt → fX6_worldsShowing_8 N f (nI cl) (nI (zS (fun n => zsd a n && !zim nd i n))) (nI i) σ = some (nI (zWo a nd cnt cl), σ)
  | 0, f + 1, i, _, hi => by
    have h8 := zpow8 hc3
    rw [fX6_worldsShowing_8, hcnt, if_pos (nI_le (by omega) (by omega)), show i = cnt by omega]
    exact zcw_out h ho hN hc3 hcnt hnd hcl (2 ^ cnt) N 0 (by omega) (by omega)
  | g + 1, f + 1, i, hf, hi => by
    obtain ⟨n1, n2⟩ := hnd i (by omega)
    rw [fX6_worldsShowing_8, hcnt, if_neg (nI_ge (by omega) (by omega)), zag_nI (by omega) (by omega), n1, znm_eq, zS_shl n2, zS_andn, nI_1]
    have e : nI (zS (fun i_1 => zsd a i_1 && !zim nd i i_1 && !(i_1 == nd i))) = nI (zS (fun n => zsd a n && !zim nd (i + 1) n)) := zS_eq.mpr (fun n _ => by
      rw [zim]
      have : (n == nd i) = (nd i == n) := by
        by_cases q : n = nd i
        · rw [q]
        · have q1 : (n == nd i) = false := by simp; exact q
          have q2 : (nd i == n) = false := by simp; exact fun e => q e.symm
          rw [q1, q2]
      rw [this]
      cases zsd a n <;> cases zim nd i n <;> cases (nd i == n) <;> rfl)
    rw [e]
    exact zcw_rest h ho hN hc3 hcnt hnd hcl g f (i + 1) (by omega) (by omega)
theorem zcworlds (h : zCN σ a) (ho : zOk a) (hN : 600000 ≤ N) (hc3 : cnt ≤ 3) (hcnt : σ.1 23 0 = nI cnt) (hnd : ∀ k, k < cnt → σ.1 24 k = nI (nd k) ∧ nd k < 20) (hcl : cl < 20) : fX6_worldsShowing N (nI cl) σ = some (nI (zWo a nd cnt cl), σ) := by
  unfold fX6_worldsShowing
  rw [zcstanding h ho hN, zbnd_some]
  have := zcw_rest (N := N) h ho hN hc3 hcnt hnd hcl cnt N 0 (by omega) (by omega)
  have e : zS (fun n => zsd a n && !zim nd 0 n) = zS (zsd a) := zset_cong (fun n _ => by rw [zim]; simp)
  rw [e] at this
  exact this
/-! the reference -/
theorem zmw_in (ho : zOk a) (hN : 600000 ≤ N) (hc3 : cnt ≤ 3) (hcl : cl < 20) {k34 : Int32 → Int32 → Int32 → Int32 → zSt → Option (Int32 × zSt)} {x2 : Int32} {acc w : Nat} (hw : w < 8) (h : zMN σ a) (hcnt : σ.1 0 31 = nI cnt) (hnd : ∀ k, k < cnt → σ.1 15 k = nI (nd k) ∧ nd k < 20) : ∀ (g f i : Nat), g < f → i + g = cnt → ∃ τ, fX8_worldsOf_58 N k34 f (nI cl) x2 (nI acc) (nI w) (nI (zS (zLv a nd cnt w i))) (nI i) σ = k34 (nI cl) x2 (nI acc ||| nI (if zWw a nd cnt cl w then 2 ^ w else 0)) (nI (w + 1)) τ ∧ zF30 σ τ
  | 0, f + 1, i, _, hi => by
    have e : i = cnt := by omega
    subst e
    obtain ⟨τ, e1, -, e3⟩ := zmshown0 (N := N) (P := zLv a nd i w i) h ho hN
    refine ⟨τ, ?_, e3⟩
    rw [fX8_worldsOf_58, hcnt, if_pos (nI_le (by omega) (by omega)), e1, zbnd_some, zS_at hcl]
    have ew : zWw a nd i cl w = zsh a (fun _ => false) (zLv a nd i w i) cl := rfl
    cases hz : zsh a (fun _ => false) (zLv a nd i w i) cl
    · rw [if_neg (by decide), fX8_worldsOf_127, znm_eq, nI_1, ew, hz, if_neg (by decide)]
      rfl
    · rw [if_pos (by decide), fX8_worldsOf_127, znm_eq, nI_1, ew, hz, if_pos rfl, zshl1 (by omega)]
  | g + 1, f + 1, i, hf, hi => by
    obtain ⟨n1, n2⟩ := hnd i (by omega)
    obtain ⟨τ, e1, e2⟩ := zmw_in ho hN hc3 hcl (k34 := k34) (x2 := x2) (acc := acc) hw h hcnt hnd g f (i + 1) (by omega) (by omega)
    refine ⟨τ, ?_, e2⟩
    rw [fX8_worldsOf_58, hcnt, if_neg (nI_ge (by omega) (by omega)), zbit (by omega) (by omega)]
    have st := zLv_step (a := a) (nd := nd) (cnt := cnt) (w := w) (i := i) n2
    cases hz : w.testBit i
    · rw [hz, if_neg (by decide)] at st
      rw [if_neg (by decide), fX8_worldsOf_93, znm_eq, nI_1, show (0 : Int32) = nI 0 from rfl, st]
      exact e1
    · rw [hz, if_pos rfl] at st
      rw [if_pos (by decide), zag_nI (by omega) (by omega), n1, fX8_worldsOf_93, znm_eq, nI_1, zshl1 (by omega), st]
      exact e1
theorem zmw_out (ho : zOk a) (hN : 600000 ≤ N) (hc3 : cnt ≤ 3) (hcl : cl < 20) : ∀ (g f w : Nat) (σ : zSt), zMN σ a → σ.1 0 31 = nI cnt → (∀ k, k < cnt → σ.1 15 k = nI (nd k) ∧ nd k < 20) → g < f → w + g = 2 ^ cnt → ∃ τ, fX8_worldsOf_34 N f (nI cl) (nI (zS (zim nd cnt))) (nI (zset (zWw a nd cnt cl) w)) (nI w) σ = some (nI (zWo a nd cnt cl), τ) ∧ zF30 σ τ
  | 0, f + 1, w, σ, h, hcnt, hnd, _, hw => by
    have h8 := zpow8 hc3
    rw [fX8_worldsOf_34, hcnt, zshl1 (by omega), if_pos (nI_le (by omega) (by omega)), show w = 2 ^ cnt by omega]
    exact ⟨σ, rfl, zF30_rfl⟩
  | g + 1, f + 1, w, σ, h, hcnt, hnd, hf, hw => by
    have h8 := zpow8 hc3
    obtain ⟨τ, e, e2⟩ := zmw_in (N := N) ho hN hc3 hcl (k34 := fX8_worldsOf_34 N f) (x2 := nI (zS (zim nd cnt))) (acc := zset (zWw a nd cnt cl) w) (w := w) (by omega) h hcnt hnd cnt N 0 (by omega) (by omega)
    rw [zLv_0] at e
    have e : fX8_worldsOf_58 N (fX8_worldsOf_34 N f) N (nI cl) (nI (zS (zim nd cnt))) (nI (zset (zWw a nd cnt cl) w)) (nI w) (nI (zS (fun n => zsd a n && !zim nd cnt n))) 0 σ = _ := e
    obtain ⟨υ, e3, e4⟩ := zmw_out ho hN hc3 hcl g f (w + 1) τ (zMN_30 h e2) (by rw [e2.2 31 (by decide)]; exact hcnt) (fun k hk => by rw [e2.1 15 (by decide)]; exact hnd k hk) (by omega) (by omega)
    refine ⟨υ, ?_, zF30_trans e2 e4⟩
    rw [fX8_worldsOf_34, hcnt, zshl1 (by omega), if_neg (nI_ge (by omega) (by omega)), zmstanding h ho hN, zbnd_some, znm_eq, zS_andn, e, zWo_step]
    exact e3
theorem zmw_rest (ho : zOk a) (hN : 600000 ≤ N) (hc3 : cnt ≤ 3) (hcl : cl < 20) (h : zMN σ a) (hcnt : σ.1 0 31 = nI cnt) (hnd : ∀ k, k < cnt → σ.1 15 k = nI (nd k) ∧ nd k < 20) : ∀ (g f i : Nat), g < f → i + g = cnt → ∃ τ, fX8_worldsOf_4 N f (nI cl) (nI (zS (zim nd i))) (nI i) σ = some (nI (zWo a nd cnt cl), τ) ∧ zF30 σ τ
  | 0, f + 1, i, _, hi => by
    have h8 := zpow8 hc3
    rw [fX8_worldsOf_4, hcnt, if_pos (nI_le (by omega) (by omega)), show i = cnt by omega]
    exact zmw_out ho hN hc3 hcl (2 ^ cnt) N 0 σ h hcnt hnd (by omega) (by omega)
  | g + 1, f + 1, i, hf, hi => by
    obtain ⟨n1, n2⟩ := hnd i (by omega)
    rw [fX8_worldsOf_4, hcnt, if_neg (nI_ge (by omega) (by omega)), zag_nI (by omega) (by omega), n1, znm_eq, zS_shl n2, zS_or, nI_1]
    have e : nI (zS (fun i_1 => zim nd i i_1 || i_1 == nd i)) = nI (zS (zim nd (i + 1))) := zS_eq.mpr (fun n _ => by
      rw [zim]
      have : (n == nd i) = (nd i == n) := by
        by_cases q : n = nd i
        · rw [q]
        · have q1 : (n == nd i) = false := by simp; exact q
          have q2 : (nd i == n) = false := by simp; exact fun e => q e.symm
          rw [q1, q2]
      rw [this])
    rw [e]
    exact zmw_rest ho hN hc3 hcl h hcnt hnd g f (i + 1) (by omega) (by omega)
theorem zmworlds (ho : zOk a) (hN : 600000 ≤ N) (hc3 : cnt ≤ 3) (hcl : cl < 20) (h : zMN σ a) (hcnt : σ.1 0 31 = nI cnt) (hnd : ∀ k, k < cnt → σ.1 15 k = nI (nd k) ∧ nd k < 20) : ∃ τ, fX8_worldsOf N (nI cl) σ = some (nI (zWo a nd cnt cl), τ) ∧ zF30 σ τ := by
  have := zmw_rest (N := N) ho hN hc3 hcl h hcnt hnd cnt N 0 (by omega) (by omega)
  have e : zS (zim nd 0) = 0 := by
    have : zS (zim nd 0) = zS (fun _ => false) := zset_cong (fun _ _ => rfl)
    rw [this, zS_0]
  rw [e] at this
  exact this
end zWorldC
