/-! ===== felling: the reference's loops ===== -/
def zGo (F : Int32) (ρ0 : zSt) (o : Option (Int32 × zSt)) : Prop := ∃ υ, o = some (F, υ) ∧ zF30 ρ0 υ
def zhl (a : zA) (cl : Nat) (ok : Nat → Bool) (X : Nat → Nat → Bool) (c : Nat) : List Nat := if ok c && zcds a cl (X c) then [zS (X c)] else []
theorem zmf_c {N cl : Nat} {a : zA} {ok : Nat → Bool} {X : Nat → Nat → Bool} {pre L : List Nat} {ρ0 : zSt} {w x5 x6 x7 : Int32} {k46 : Int32 → Int32 → Int32 → Int32 → Int32 → zSt → Option (Int32 × zSt)} {k65 : Int32 → Int32 → Int32 → Int32 → Int32 → Int32 → zSt → Option (Int32 × zSt)} {k97 : Int32 → Int32 → Int32 → Int32 → Int32 → Int32 → Int32 → zSt → Option (Int32 × zSt)} (h : zMN ρ0 a) (ho : zOk a) (hcl : cl < 20) (hN : 600000 ≤ N)
    (hturn : ∀ (f c n : Nat) (ρ : zSt), c < a 0 0 → zMN ρ a → fX8_felling_119 N k46 k65 k97 (f + 1) (nI cl) w (nI (zS (zsd a))) (nI n) x5 x6 x7 (nI c) ρ = fX8_felling_191 N k46 k65 k97 (fX8_felling_119 N k46 k65 k97 f) (nI cl) w (nI (zS (zsd a))) (nI n) x5 x6 x7 (nI c) (nI (zS (X c))) (if ok c then 1 else 0) ρ)
    (hL : ∃ rest, L = (pre ++ zfm (zhl a cl ok X) (a 0 0)) ++ rest) (hb : L.length < 2 ^ 31)
    (hk : ∀ ρ', zF30 ρ0 ρ' → znh w (pre ++ zfm (zhl a cl ok X) (a 0 0)).length → zGo (zfin w L) ρ0 (k97 (nI cl) w (nI (zS (zsd a))) (nI (pre ++ zfm (zhl a cl ok X) (a 0 0)).length) x5 x6 (x7 + 1) ρ')) :
    ∀ (g f c : Nat) (ρ : zSt), g < f → c + g = a 0 0 → zF30 ρ0 ρ → znh w (pre ++ zfm (zhl a cl ok X) c).length → zGo (zfin w L) ρ0 (fX8_felling_119 N k46 k65 k97 f (nI cl) w (nI (zS (zsd a))) (nI (pre ++ zfm (zhl a cl ok X) c).length) x5 x6 x7 (nI c) ρ)
  | 0, f + 1, c, ρ, _, hc, h30, hn => by
    have h20 := ho.1
    have e : c = a 0 0 := by omega
    subst e
    rw [fX8_felling_119, (zMN_30 h h30).1, if_pos (nI_le (by omega) (by omega))]
    exact hk ρ h30 hn
  | g + 1, f + 1, c, ρ, hf, hc, h30, hn => by
    have h20 := ho.1
    have hm := zMN_30 h h30
    obtain ⟨rest, hL'⟩ := hL
    obtain ⟨more, hmore⟩ := zfm_at (h := zhl a cl ok X) (c := c) (m := a 0 0) (by omega)
    have hlen : (pre ++ zfm (zhl a cl ok X) c).length < 2 ^ 31 := by
      rw [hL', hmore] at hb
      simp only [List.length_append] at hb ⊢
      omega
    have skip : zhl a cl ok X c = [] → ∀ ρ', zF30 ρ0 ρ' → zGo (zfin w L) ρ0 (fX8_felling_119 N k46 k65 k97 f (nI cl) w (nI (zS (zsd a))) (nI (pre ++ zfm (zhl a cl ok X) c).length) x5 x6 x7 (nI (c + 1)) ρ') := by
      intro e ρ' hρ'
      have e2 : pre ++ zfm (zhl a cl ok X) (c + 1) = pre ++ zfm (zhl a cl ok X) c := by rw [zfm, e, List.append_nil]
      have ih := zmf_c h ho hcl hN hturn ⟨rest, hL'⟩ hb hk g f (c + 1) ρ' (by omega) (by omega) hρ' (by rw [e2]; exact hn)
      rw [e2] at ih
      exact ih
    rw [hturn f c _ ρ (by omega) hm]
    cases hok : ok c
    · have e : zhl a cl ok X c = [] := by unfold zhl; rw [hok]; rfl
      unfold fX8_felling_191
      rw [if_neg (show ¬ false = true by decide), if_pos rfl, nI_1]
      exact skip e ρ h30
    · obtain ⟨υ, u1, u2⟩ := zmcand (N := N) (cl := cl) (n := (pre ++ zfm (zhl a cl ok X) c).length) (X := X c) (w := w) (x5 := x5) (x6 := x6) (x7 := x7) (x8 := nI c) (k46 := k46) (k65 := k65) (k97 := k97) (k119 := fX8_felling_119 N k46 k65 k97 f) hm ho hcl hN
      rw [if_pos rfl, u2, nI_1]
      cases hz : zcds a cl (X c)
      · have e : zhl a cl ok X c = [] := by unfold zhl; rw [hok, hz]; rfl
        rw [if_neg (show ¬ false = true by decide)]
        exact skip e υ (zF30_trans h30 u1)
      · have e : zhl a cl ok X c = [zS (X c)] := by unfold zhl; rw [hok, hz]; rfl
        rw [if_pos rfl]
        by_cases q : nI (pre ++ zfm (zhl a cl ok X) c).length = w
        · rw [if_pos q]
          refine ⟨υ, ?_, zF30_trans h30 u1⟩
          rw [hL', hmore, e]
          have := zfin_hit (w := w) (l := pre ++ zfm (zhl a cl ok X) c) (r := more ++ rest) (x := zS (X c)) hlen hn q
          have e3 : pre ++ (zfm (zhl a cl ok X) c ++ ([zS (X c)] ++ more)) ++ rest = (pre ++ zfm (zhl a cl ok X) c) ++ (zS (X c) :: (more ++ rest)) := by simp
          rw [e3, this]
        · rw [if_neg q]
          have e2 : (pre ++ zfm (zhl a cl ok X) (c + 1)).length = (pre ++ zfm (zhl a cl ok X) c).length + 1 := by
            rw [zfm, e]
            simp only [List.length_append, List.length_cons, List.length_nil]
            omega
          have ih := zmf_c h ho hcl hN hturn ⟨rest, hL'⟩ hb hk g f (c + 1) υ (by omega) (by omega) (zF30_trans h30 u1) (by
            rw [e2]
            intro j hj
            by_cases v : j = (pre ++ zfm (zhl a cl ok X) c).length
            · rw [v]; exact q
            · exact hn j (by omega))
          rw [e2] at ih
          exact ih
/-! the loop over the second -/
theorem zmf_b {N cl : Nat} {a : zA} {ok : Nat → Nat → Bool} {X : Nat → Nat → Nat → Bool} {pre L : List Nat} {ρ0 : zSt} {w x5 x6 : Int32} {k46 : Int32 → Int32 → Int32 → Int32 → Int32 → zSt → Option (Int32 × zSt)} {k65 : Int32 → Int32 → Int32 → Int32 → Int32 → Int32 → zSt → Option (Int32 × zSt)} (h : zMN ρ0 a) (ho : zOk a) (hcl : cl < 20) (hN : 600000 ≤ N) (h5 : ¬ x5 ≤ (1 : Int32))
    (hturn : ∀ (k97 : Int32 → Int32 → Int32 → Int32 → Int32 → Int32 → Int32 → zSt → Option (Int32 × zSt)) (b f c n : Nat) (ρ : zSt), b < a 0 0 → c < a 0 0 → zMN ρ a → fX8_felling_119 N k46 k65 k97 (f + 1) (nI cl) w (nI (zS (zsd a))) (nI n) x5 x6 (nI b) (nI c) ρ = fX8_felling_191 N k46 k65 k97 (fX8_felling_119 N k46 k65 k97 f) (nI cl) w (nI (zS (zsd a))) (nI n) x5 x6 (nI b) (nI c) (nI (zS (X b c))) (if ok b c then 1 else 0) ρ)
    (hL : ∃ rest, L = (pre ++ zfm (fun b => zfm (zhl a cl (ok b) (X b)) (a 0 0)) (a 0 0)) ++ rest) (hb : L.length < 2 ^ 31)
    (hk : ∀ ρ', zF30 ρ0 ρ' → znh w (pre ++ zfm (fun b => zfm (zhl a cl (ok b) (X b)) (a 0 0)) (a 0 0)).length → zGo (zfin w L) ρ0 (k65 (nI cl) w (nI (zS (zsd a))) (nI (pre ++ zfm (fun b => zfm (zhl a cl (ok b) (X b)) (a 0 0)) (a 0 0)).length) x5 (x6 + 1) ρ')) :
    ∀ (g f b : Nat) (ρ : zSt), g < f → b + g = a 0 0 → zF30 ρ0 ρ → znh w (pre ++ zfm (fun b => zfm (zhl a cl (ok b) (X b)) (a 0 0)) b).length → zGo (zfin w L) ρ0 (fX8_felling_97 N k46 k65 f (nI cl) w (nI (zS (zsd a))) (nI (pre ++ zfm (fun b => zfm (zhl a cl (ok b) (X b)) (a 0 0)) b).length) x5 x6 (nI b) ρ)
  | 0, f + 1, b, ρ, _, hc, h30, hn => by
    have h20 := ho.1
    have e : b = a 0 0 := by omega
    subst e
    rw [fX8_felling_97, if_neg h5, fX8_felling_113, (zMN_30 h h30).1, if_pos (nI_le (by omega) (by omega))]
    exact hk ρ h30 hn
  | g + 1, f + 1, b, ρ, hf, hc, h30, hn => by
    have h20 := ho.1
    have hm := zMN_30 h h30
    obtain ⟨rest, hL'⟩ := hL
    obtain ⟨more, hmore⟩ := zfm_at (h := fun b => zfm (zhl a cl (ok b) (X b)) (a 0 0)) (c := b) (m := a 0 0) (by omega)
    rw [fX8_felling_97, if_neg h5, fX8_felling_113, hm.1, if_neg (nI_ge (by omega) (by omega))]
    have es : (pre ++ zfm (fun b => zfm (zhl a cl (ok b) (X b)) (a 0 0)) b) ++ zfm (zhl a cl (ok b) (X b)) (a 0 0) = pre ++ zfm (fun b => zfm (zhl a cl (ok b) (X b)) (a 0 0)) (b + 1) := by
      rw [List.append_assoc]
      rfl
    have r := zmf_c (N := N) (cl := cl) (ok := ok b) (X := X b) (pre := pre ++ zfm (fun b => zfm (zhl a cl (ok b) (X b)) (a 0 0)) b) (L := L) (ρ0 := ρ0) (w := w) (x5 := x5) (x6 := x6) (x7 := nI b) (k46 := k46) (k65 := k65) (k97 := fX8_felling_97 N k46 k65 f) h ho hcl hN (fun f c n ρ q1 q2 => hturn _ b f c n ρ (by omega) q1 q2) ⟨more ++ rest, by rw [hL', hmore]; simp⟩ hb (fun ρ' q1 q2 => by
      rw [es, nI_1]
      rw [es] at q2
      exact zmf_b h ho hcl hN h5 hturn ⟨rest, hL'⟩ hb hk g f (b + 1) ρ' (by omega) (by omega) q1 q2) (a 0 0) N 0 ρ (by omega) (by omega) h30 (by rw [zfm, List.append_nil]; exact hn)
    rw [zfm, List.append_nil] at r
    exact r
/-! the loop over the third -/
theorem zmf_a {N cl : Nat} {a : zA} {ok : Nat → Nat → Nat → Bool} {X : Nat → Nat → Nat → Nat → Bool} {pre L : List Nat} {ρ0 : zSt} {w : Int32} {k46 : Int32 → Int32 → Int32 → Int32 → Int32 → zSt → Option (Int32 × zSt)} (h : zMN ρ0 a) (ho : zOk a) (hcl : cl < 20) (hN : 600000 ≤ N)
    (hturn : ∀ (k65 : Int32 → Int32 → Int32 → Int32 → Int32 → Int32 → zSt → Option (Int32 × zSt)) (k97 : Int32 → Int32 → Int32 → Int32 → Int32 → Int32 → Int32 → zSt → Option (Int32 × zSt)) (a' b f c n : Nat) (ρ : zSt), a' < a 0 0 → b < a 0 0 → c < a 0 0 → zMN ρ a → fX8_felling_119 N k46 k65 k97 (f + 1) (nI cl) w (nI (zS (zsd a))) (nI n) 3 (nI a') (nI b) (nI c) ρ = fX8_felling_191 N k46 k65 k97 (fX8_felling_119 N k46 k65 k97 f) (nI cl) w (nI (zS (zsd a))) (nI n) 3 (nI a') (nI b) (nI c) (nI (zS (X a' b c))) (if ok a' b c then 1 else 0) ρ)
    (hL : ∃ rest, L = (pre ++ zfm (fun a' => zfm (fun b => zfm (zhl a cl (ok a' b) (X a' b)) (a 0 0)) (a 0 0)) (a 0 0)) ++ rest) (hb : L.length < 2 ^ 31)
    (hk : ∀ ρ', zF30 ρ0 ρ' → znh w (pre ++ zfm (fun a' => zfm (fun b => zfm (zhl a cl (ok a' b) (X a' b)) (a 0 0)) (a 0 0)) (a 0 0)).length → zGo (zfin w L) ρ0 (k46 (nI cl) w (nI (zS (zsd a))) (nI (pre ++ zfm (fun a' => zfm (fun b => zfm (zhl a cl (ok a' b) (X a' b)) (a 0 0)) (a 0 0)) (a 0 0)).length) (3 + 1) ρ')) :
    ∀ (g f b : Nat) (ρ : zSt), g < f → b + g = a 0 0 → zF30 ρ0 ρ → znh w (pre ++ zfm (fun a' => zfm (fun b => zfm (zhl a cl (ok a' b) (X a' b)) (a 0 0)) (a 0 0)) b).length → zGo (zfin w L) ρ0 (fX8_felling_65 N k46 f (nI cl) w (nI (zS (zsd a))) (nI (pre ++ zfm (fun a' => zfm (fun b => zfm (zhl a cl (ok a' b) (X a' b)) (a 0 0)) (a 0 0)) b).length) 3 (nI b) ρ)
  | 0, f + 1, b, ρ, _, hc, h30, hn => by
    have h20 := ho.1
    have e : b = a 0 0 := by omega
    subst e
    rw [fX8_felling_65, if_neg (by decide), fX8_felling_81, (zMN_30 h h30).1, if_pos (nI_le (by omega) (by omega))]
    exact hk ρ h30 hn
  | g + 1, f + 1, b, ρ, hf, hc, h30, hn => by
    have h20 := ho.1
    have hm := zMN_30 h h30
    obtain ⟨rest, hL'⟩ := hL
    obtain ⟨more, hmore⟩ := zfm_at (h := fun a' => zfm (fun b => zfm (zhl a cl (ok a' b) (X a' b)) (a 0 0)) (a 0 0)) (c := b) (m := a 0 0) (by omega)
    rw [fX8_felling_65, if_neg (by decide), fX8_felling_81, hm.1, if_neg (nI_ge (by omega) (by omega)), if_neg (by decide), fX8_felling_95]
    have es : (pre ++ zfm (fun a' => zfm (fun b => zfm (zhl a cl (ok a' b) (X a' b)) (a 0 0)) (a 0 0)) b) ++ zfm (fun b' => zfm (zhl a cl (ok b b') (X b b')) (a 0 0)) (a 0 0) = pre ++ zfm (fun a' => zfm (fun b => zfm (zhl a cl (ok a' b) (X a' b)) (a 0 0)) (a 0 0)) (b + 1) := by
      rw [List.append_assoc]
      rfl
    have r := zmf_b (N := N) (cl := cl) (ok := ok b) (X := X b) (pre := pre ++ zfm (fun a' => zfm (fun b => zfm (zhl a cl (ok a' b) (X a' b)) (a 0 0)) (a 0 0)) b) (L := L) (ρ0 := ρ0) (w := w) (x5 := 3) (x6 := nI b) (k46 := k46) (k65 := fX8_felling_65 N k46 f) h ho hcl hN (by decide) (fun k97 b' f c n ρ q0 q1 q2 => hturn _ k97 b b' f c n ρ (by omega) q0 q1 q2) ⟨more ++ rest, by rw [hL', hmore]; simp⟩ hb (fun ρ' q1 q2 => by
      rw [es, nI_1]
      rw [es] at q2
      exact zmf_a h ho hcl hN hturn ⟨rest, hL'⟩ hb hk g f (b + 1) ρ' (by omega) (by omega) q1 q2) (a 0 0) N 0 ρ (by omega) (by omega) h30 (by rw [zfm, List.append_nil]; exact hn)
    rw [zfm, List.append_nil] at r
    exact r
/-! sets of one, two, three -/
def zX1 (c i : Nat) : Bool := i == c
def zX2 (b c i : Nat) : Bool := (i == c) || (i == b)
def zX3 (a b c i : Nat) : Bool := ((i == c) || (i == b)) || (i == a)
def zM1 (a : zA) (cl : Nat) : List Nat := zfm (zhl a cl (fun _ => true) zX1) (a 0 0)
def zM2 (a : zA) (cl : Nat) : List Nat := zfm (fun b => zfm (zhl a cl (fun c => decide (c < b)) (zX2 b)) (a 0 0)) (a 0 0)
def zM3 (a : zA) (cl : Nat) : List Nat := zfm (fun a' => zfm (fun b => zfm (zhl a cl (fun c => decide (c < b) && decide (b < a')) (zX3 a' b)) (a 0 0)) (a 0 0)) (a 0 0)
theorem zhl_len {a : zA} {cl c : Nat} {ok : Nat → Bool} {X : Nat → Nat → Bool} : (zhl a cl ok X c).length ≤ 1 := by
  unfold zhl
  split <;> simp
theorem zM_len {a : zA} {cl : Nat} (ho : zOk a) : (zM1 a cl ++ (zM2 a cl ++ zM3 a cl)).length < 2 ^ 31 := by
  have h20 := ho.1
  have l1 : (zM1 a cl).length ≤ a 0 0 * 1 := zfm_len (fun i _ => zhl_len)
  have l2 : (zM2 a cl).length ≤ a 0 0 * (a 0 0 * 1) := zfm_len (fun i _ => zfm_len (fun i _ => zhl_len))
  have l3 : (zM3 a cl).length ≤ a 0 0 * (a 0 0 * (a 0 0 * 1)) := zfm_len (fun i _ => zfm_len (fun i _ => zfm_len (fun i _ => zhl_len)))
  have b1 : a 0 0 * (a 0 0 * 1) ≤ 20 * (20 * 1) := Nat.mul_le_mul h20 (Nat.mul_le_mul h20 (Nat.le_refl _))
  have b2 : a 0 0 * (a 0 0 * (a 0 0 * 1)) ≤ 20 * (20 * (20 * 1)) := Nat.mul_le_mul h20 (Nat.mul_le_mul h20 (Nat.mul_le_mul h20 (Nat.le_refl _)))
  simp only [List.length_append]
  omega
theorem zor_0 {x : Int32} : x ||| (0 : Int32) = x := Int32.or_zero
theorem zmt_1 {N cl f c n : Nat} {a : zA} {ρ : zSt} {w x5 : Int32} {k46 : Int32 → Int32 → Int32 → Int32 → Int32 → zSt → Option (Int32 × zSt)} {k65 : Int32 → Int32 → Int32 → Int32 → Int32 → Int32 → zSt → Option (Int32 × zSt)} {k97 : Int32 → Int32 → Int32 → Int32 → Int32 → Int32 → Int32 → zSt → Option (Int32 × zSt)} (ho : zOk a) (hc : c < a 0 0) (hm : zMN ρ a) : fX8_felling_119 N k46 k65 k97 (f + 1) (nI cl) w (nI (zS (zsd a))) (nI n) x5 (-1) (-1) (nI c) ρ = fX8_felling_191 N k46 k65 k97 (fX8_felling_119 N k46 k65 k97 f) (nI cl) w (nI (zS (zsd a))) (nI n) x5 (-1) (-1) (nI c) (nI (zS (zX1 c))) (if (fun (_ : Nat) => true) c then 1 else 0) ρ := by
  have h20 := ho.1
  rw [fX8_felling_119, hm.1, if_neg (nI_ge (by omega) (by omega)), if_neg (by decide), fX8_felling_145, if_neg (by decide), fX8_felling_159, znm_eq, if_pos (by decide), fX8_felling_174, if_pos (by decide), fX8_felling_186, zor_0, zor_0, zS_shl (by omega)]
  rfl
theorem zmt_2 {N cl f b c n : Nat} {a : zA} {ρ : zSt} {w x5 : Int32} {k46 : Int32 → Int32 → Int32 → Int32 → Int32 → zSt → Option (Int32 × zSt)} {k65 : Int32 → Int32 → Int32 → Int32 → Int32 → Int32 → zSt → Option (Int32 × zSt)} {k97 : Int32 → Int32 → Int32 → Int32 → Int32 → Int32 → Int32 → zSt → Option (Int32 × zSt)} (ho : zOk a) (hb : b < a 0 0) (hc : c < a 0 0) (hm : zMN ρ a) : fX8_felling_119 N k46 k65 k97 (f + 1) (nI cl) w (nI (zS (zsd a))) (nI n) x5 (-1) (nI b) (nI c) ρ = fX8_felling_191 N k46 k65 k97 (fX8_felling_119 N k46 k65 k97 f) (nI cl) w (nI (zS (zsd a))) (nI n) x5 (-1) (nI b) (nI c) (nI (zS (zX2 b c))) (if decide (c < b) then 1 else 0) ρ := by
  have h20 := ho.1
  rw [fX8_felling_119, hm.1, if_neg (nI_ge (by omega) (by omega)), if_pos (nI_pos' (by omega)), fX8_felling_145, if_neg (by decide), fX8_felling_159, znm_eq, if_neg (nI_pos (by omega)), fX8_felling_174, fX8_felling_186, fX8_felling_190, zor_0, zS_shl (by omega), zS_shl (by omega), zS_or]
  by_cases q : c < b
  · rw [if_neg (nI_ge q (by omega)), if_pos (by decide), decide_eq_true q]
    rfl
  · rw [if_pos (nI_le (by omega) (by omega)), decide_eq_false q]
    rfl
theorem zmt_3 {N cl f a' b c n : Nat} {a : zA} {ρ : zSt} {w x5 : Int32} {k46 : Int32 → Int32 → Int32 → Int32 → Int32 → zSt → Option (Int32 × zSt)} {k65 : Int32 → Int32 → Int32 → Int32 → Int32 → Int32 → zSt → Option (Int32 × zSt)} {k97 : Int32 → Int32 → Int32 → Int32 → Int32 → Int32 → Int32 → zSt → Option (Int32 × zSt)} (ho : zOk a) (ha : a' < a 0 0) (hb : b < a 0 0) (hc : c < a 0 0) (hm : zMN ρ a) : fX8_felling_119 N k46 k65 k97 (f + 1) (nI cl) w (nI (zS (zsd a))) (nI n) x5 (nI a') (nI b) (nI c) ρ = fX8_felling_191 N k46 k65 k97 (fX8_felling_119 N k46 k65 k97 f) (nI cl) w (nI (zS (zsd a))) (nI n) x5 (nI a') (nI b) (nI c) (nI (zS (zX3 a' b c))) (if decide (c < b) && decide (b < a') then 1 else 0) ρ := by
  have h20 := ho.1
  rw [fX8_felling_119, hm.1, if_neg (nI_ge (by omega) (by omega)), if_pos (nI_pos' (by omega)), fX8_felling_145, if_pos (nI_pos' (by omega)), fX8_felling_159, znm_eq, if_neg (nI_pos (by omega)), fX8_felling_174, fX8_felling_186, fX8_felling_190, if_neg (nI_pos (by omega)), zS_shl (by omega), zS_shl (by omega), zS_shl (by omega), zS_or, zS_or]
  by_cases q : c < b
  · rw [if_neg (nI_ge q (by omega)), decide_eq_true q, Bool.true_and]
    by_cases v : b < a'
    · rw [if_neg (nI_ge v (by omega)), decide_eq_true v]
      rfl
    · rw [if_pos (nI_le (by omega) (by omega)), decide_eq_false v]
      rfl
  · rw [if_pos (nI_le (by omega) (by omega)), decide_eq_false q, Bool.false_and]
    rfl
theorem zmsearch {N cl : Nat} {a : zA} {ρ0 : zSt} {w : Int32} (h : zMN ρ0 a) (ho : zOk a) (hcl : cl < 20) (hN : 600000 ≤ N) : zGo (zfin w (zM1 a cl ++ (zM2 a cl ++ zM3 a cl))) ρ0 (fX8_felling_46 N N (nI cl) w (nI (zS (zsd a))) 0 1 ρ0) := by
  have h20 := ho.1
  have hb := zM_len (cl := cl) ho
  have s4 : ∀ f, 1 ≤ f → ∀ ρ', zF30 ρ0 ρ' → znh w (zM1 a cl ++ (zM2 a cl ++ zM3 a cl)).length → zGo (zfin w (zM1 a cl ++ (zM2 a cl ++ zM3 a cl))) ρ0 (fX8_felling_46 N f (nI cl) w (nI (zS (zsd a))) (nI (zM1 a cl ++ (zM2 a cl ++ zM3 a cl)).length) (3 + 1) ρ') := by
    intro f hf ρ' q1 q2
    obtain ⟨f, rfl⟩ : ∃ f', f = f' + 1 := ⟨f - 1, by omega⟩
    rw [fX8_felling_46, if_pos (by decide), zfin_none q2]
    by_cases q : w = -1
    · rw [if_pos q, if_pos q]
      exact ⟨ρ', rfl, q1⟩
    · rw [if_neg q, if_neg q]
      exact ⟨ρ', rfl, q1⟩
  have s3 : ∀ f, 2 ≤ f → ∀ ρ', zF30 ρ0 ρ' → znh w (zM1 a cl ++ zM2 a cl).length → zGo (zfin w (zM1 a cl ++ (zM2 a cl ++ zM3 a cl))) ρ0 (fX8_felling_46 N f (nI cl) w (nI (zS (zsd a))) (nI (zM1 a cl ++ zM2 a cl).length) 3 ρ') := by
    intro f hf ρ' q1 q2
    obtain ⟨f, rfl⟩ : ∃ f', f = f' + 1 := ⟨f - 1, by omega⟩
    rw [fX8_felling_46, if_neg (by decide), if_neg (by decide), fX8_felling_63]
    have r := zmf_a (N := N) (cl := cl) (ok := fun a' b c => decide (c < b) && decide (b < a')) (X := zX3) (pre := zM1 a cl ++ zM2 a cl) (L := zM1 a cl ++ (zM2 a cl ++ zM3 a cl)) (ρ0 := ρ0) (w := w) (k46 := fX8_felling_46 N f) h ho hcl hN (fun k65 k97 a' b f c n ρ p1 p2 p3 p4 => zmt_3 ho p1 p2 p3 p4) ⟨[], by rw [List.append_nil, List.append_assoc]; rfl⟩ hb (fun ρ'' p1 p2 => by
      have e : zM1 a cl ++ zM2 a cl ++ zM3 a cl = zM1 a cl ++ (zM2 a cl ++ zM3 a cl) := List.append_assoc _ _ _
      have p2 : znh w (zM1 a cl ++ zM2 a cl ++ zM3 a cl).length := p2
      show zGo _ ρ0 (fX8_felling_46 N f (nI cl) w (nI (zS (zsd a))) (nI (zM1 a cl ++ zM2 a cl ++ zM3 a cl).length) (3 + 1) ρ'')
      rw [e] at p2 ⊢
      exact s4 f (by omega) ρ'' p1 p2) (a 0 0) N 0 ρ' (by omega) (by omega) q1 (by rw [zfm, List.append_nil]; exact q2)
    rw [zfm, List.append_nil] at r
    exact r
  have s2 : ∀ f, 3 ≤ f → ∀ ρ', zF30 ρ0 ρ' → znh w (zM1 a cl).length → zGo (zfin w (zM1 a cl ++ (zM2 a cl ++ zM3 a cl))) ρ0 (fX8_felling_46 N f (nI cl) w (nI (zS (zsd a))) (nI (zM1 a cl).length) 2 ρ') := by
    intro f hf ρ' q1 q2
    obtain ⟨f, rfl⟩ : ∃ f', f = f' + 1 := ⟨f - 1, by omega⟩
    rw [fX8_felling_46, if_neg (by decide), if_pos (by decide), fX8_felling_63]
    have any : ∀ F, 2 ≤ F → zGo (zfin w (zM1 a cl ++ (zM2 a cl ++ zM3 a cl))) ρ0 (fX8_felling_65 N (fX8_felling_46 N f) F (nI cl) w (nI (zS (zsd a))) (nI (zM1 a cl).length) 2 (-1) ρ') := by
      intro F hF
      obtain ⟨F, rfl⟩ : ∃ f', F = f' + 2 := ⟨F - 2, by omega⟩
      rw [fX8_felling_65, if_pos (by decide), fX8_felling_81, if_neg (by decide), if_neg (by decide), fX8_felling_95]
      have r := zmf_b (N := N) (cl := cl) (ok := fun b c => decide (c < b)) (X := zX2) (pre := zM1 a cl) (L := zM1 a cl ++ (zM2 a cl ++ zM3 a cl)) (ρ0 := ρ0) (w := w) (x5 := 2) (x6 := -1) (k46 := fX8_felling_46 N f) (k65 := fX8_felling_65 N (fX8_felling_46 N f) (F + 1)) h ho hcl hN (by decide) (fun k97 b f c n ρ p2 p3 p4 => zmt_2 ho p2 p3 p4) ⟨zM3 a cl, by rw [List.append_assoc]; rfl⟩ hb (fun ρ'' p1 p2 => by
        have p2 : znh w (zM1 a cl ++ zM2 a cl).length := p2
        show zGo _ ρ0 (fX8_felling_65 N (fX8_felling_46 N f) (F + 1) (nI cl) w (nI (zS (zsd a))) (nI (zM1 a cl ++ zM2 a cl).length) 2 (-1 + 1) ρ'')
        rw [fX8_felling_65, if_pos (by decide), fX8_felling_81, if_pos (by decide)]
        exact s3 f (by omega) ρ'' p1 p2) (a 0 0) N 0 ρ' (by omega) (by omega) q1 (by rw [zfm, List.append_nil]; exact q2)
      rw [zfm, List.append_nil] at r
      exact r
    exact any N (by omega)
  have s1 : ∀ f, 4 ≤ f → zGo (zfin w (zM1 a cl ++ (zM2 a cl ++ zM3 a cl))) ρ0 (fX8_felling_46 N f (nI cl) w (nI (zS (zsd a))) 0 1 ρ0) := by
    intro f hf
    obtain ⟨f, rfl⟩ : ∃ f', f = f' + 1 := ⟨f - 1, by omega⟩
    rw [fX8_felling_46, if_neg (by decide), if_pos (by decide), fX8_felling_63]
    have any : ∀ F G, 2 ≤ F → 2 ≤ G → zGo (zfin w (zM1 a cl ++ (zM2 a cl ++ zM3 a cl))) ρ0 (fX8_felling_97 N (fX8_felling_46 N f) (fX8_felling_65 N (fX8_felling_46 N f) (F - 1)) G (nI cl) w (nI (zS (zsd a))) 0 1 (-1) (-1) ρ0) := by
      intro F G hF hG
      obtain ⟨G, rfl⟩ : ∃ f', G = f' + 2 := ⟨G - 2, by omega⟩
      obtain ⟨F, rfl⟩ : ∃ f', F = f' + 2 := ⟨F - 2, by omega⟩
      rw [fX8_felling_97, if_pos (by decide), fX8_felling_113, if_neg (by decide)]
      have r := zmf_c (N := N) (cl := cl) (ok := fun _ => true) (X := zX1) (pre := []) (L := zM1 a cl ++ (zM2 a cl ++ zM3 a cl)) (ρ0 := ρ0) (w := w) (x5 := 1) (x6 := -1) (x7 := -1) (k46 := fX8_felling_46 N f) (k65 := fX8_felling_65 N (fX8_felling_46 N f) (F + 2 - 1)) (k97 := fX8_felling_97 N (fX8_felling_46 N f) (fX8_felling_65 N (fX8_felling_46 N f) (F + 2 - 1)) (G + 1)) h ho hcl hN (fun f c n ρ p3 p4 => zmt_1 ho p3 p4) ⟨zM2 a cl ++ zM3 a cl, by rw [List.nil_append]; rfl⟩ hb (fun ρ'' p1 p2 => by
        have p2 : znh w (zM1 a cl).length := p2
        show zGo _ ρ0 (fX8_felling_97 N (fX8_felling_46 N f) (fX8_felling_65 N (fX8_felling_46 N f) (F + 2 - 1)) (G + 1) (nI cl) w (nI (zS (zsd a))) (nI (zM1 a cl).length) 1 (-1) (-1 + 1) ρ'')
        rw [fX8_felling_97, if_pos (by decide), fX8_felling_113, if_pos (by decide), show F + 2 - 1 = F + 1 by omega, fX8_felling_65, if_pos (by decide), fX8_felling_81, if_pos (by decide)]
        exact s2 f (by omega) ρ'' p1 p2) (a 0 0) N 0 ρ0 (by omega) (by omega) zF30_rfl (fun j hj => absurd hj (by simp [zfm]))
      exact r
    have any2 : ∀ F, 2 ≤ F → zGo (zfin w (zM1 a cl ++ (zM2 a cl ++ zM3 a cl))) ρ0 (fX8_felling_65 N (fX8_felling_46 N f) F (nI cl) w (nI (zS (zsd a))) 0 1 (-1) ρ0) := by
      intro F hF
      have := any F N hF (by omega)
      obtain ⟨F, rfl⟩ : ∃ f', F = f' + 1 := ⟨F - 1, by omega⟩
      rw [fX8_felling_65, if_pos (by decide), fX8_felling_81, if_neg (by decide), if_pos (by decide), fX8_felling_95]
      exact this
    exact any2 N (by omega)
  exact s1 N (by omega)
