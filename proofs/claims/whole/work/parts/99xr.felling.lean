/-! ===== felling: the same sets in the same order ===== -/
theorem zsd_lt {a : zA} {n : Nat} (h : zsd a n = true) : n < a 0 0 := by
  unfold zsd at h
  rw [Bool.and_eq_true, decide_eq_true_eq] at h
  exact h.1
theorem zfm_nil {h : Nat → List Nat} {n : Nat} (e : ∀ i, i < n → h i = []) : zfm h n = [] := by
  have := zfm_ext (h := h) (n := 0) n (fun i _ hi => e i (by omega))
  rw [Nat.zero_add] at this
  exact this
theorem zhl_no {a : zA} {cl c : Nat} {ok : Nat → Bool} {X : Nat → Nat → Bool} (h : ok c = false) : zhl a cl ok X c = [] := by
  unfold zhl
  rw [h]; rfl
theorem zhl_ok {a : zA} {cl c : Nat} {ok : Nat → Bool} {X : Nat → Nat → Bool} (h : ok c = true) : zhl a cl ok X c = if zcds a cl (X c) then [zS (X c)] else [] := by
  unfold zhl
  rw [h]; rfl
section zSame
variable {a : zA} {cl : Nat}
theorem zcds1 {i : Nat} (ho : zOk a) (hcl : cl < 20) (h0 : zfl a cl (fun _ => false) = false) (hi : i < a 0 0) : zcds a cl (zX1 i) = (zsd a i && zfl a cl (zX1 i)) := by
  have h20 := ho.1
  have hs : zqq (fun k => zX1 i k && !(k == i)) (fun _ => false) := fun k _ => by
    show ((k == i) && !(k == i)) = false
    cases (k == i) <;> rfl
  refine Bool.eq_iff_iff.mpr ?_
  rw [zcds_iff, Bool.and_eq_true]
  refine ⟨fun ⟨h1, h2, _⟩ => ⟨h1 i (by omega) (by unfold zX1; simp), h2⟩, fun ⟨h1, h2⟩ => ⟨fun j hj hx => ?_, h2, fun n hn hx => ?_⟩⟩
  · unfold zX1 at hx
    rw [beq_iff_eq] at hx
    rw [hx]; exact h1
  · unfold zX1 at hx
    rw [beq_iff_eq] at hx
    subst hx
    rw [zfl_cong ho hcl hs]
    exact h0
theorem zL1 (ho : zOk a) (hcl : cl < 20) (h0 : zfl a cl (fun _ => false) = false) : zfm (zH1 a cl) 20 = zM1 a cl := by
  have h20 := ho.1
  have e := zfm_ext (h := zH1 a cl) (n := a 0 0) (20 - a 0 0) (fun i h1 h2 => by
    have : zsd a i = false := by
      cases hz : zsd a i
      · rfl
      · have := zsd_lt hz
        omega
    unfold zH1
    rw [this]; rfl)
  rw [show a 0 0 + (20 - a 0 0) = 20 by omega] at e
  rw [e]
  refine zfm_cong (fun i hi => ?_)
  unfold zH1 zhl
  rw [zcds1 ho hcl h0 hi, Bool.true_and]
theorem zY2X {b c : Nat} : zqq (zX2 b c) (zY2 b c) := fun j _ => by
  unfold zX2 zY2
  rw [Bool.or_comm]
theorem zcds2 {b c : Nat} (ho : zOk a) (hcl : cl < 20) (hb : b < a 0 0) (hc : c < b) : zcds a cl (zX2 b c) = (zrs a cl b && (zrs a cl c && zfl a cl (zY2 b c))) := by
  have h20 := ho.1
  have s1 : zqq (fun k => zX2 b c k && !(k == c)) (zX1 b) := fun k _ => Bool.eq_iff_iff.mpr (by
    unfold zX2 zX1
    simp only [Bool.and_eq_true, Bool.or_eq_true, beq_iff_eq, Bool.not_eq_true', beq_eq_false_iff_ne]
    omega)
  have s2 : zqq (fun k => zX2 b c k && !(k == b)) (zX1 c) := fun k _ => Bool.eq_iff_iff.mpr (by
    unfold zX2 zX1
    simp only [Bool.and_eq_true, Bool.or_eq_true, beq_iff_eq, Bool.not_eq_true', beq_eq_false_iff_ne]
    omega)
  have xb : zX2 b c b = true := by unfold zX2; simp
  have xc : zX2 b c c = true := by unfold zX2; simp
  refine Bool.eq_iff_iff.mpr ?_
  unfold zrs
  rw [zcds_iff]
  simp only [Bool.and_eq_true, Bool.not_eq_true']
  rw [← zfl_cong ho hcl (zY2X (b := b) (c := c))]
  refine ⟨fun ⟨h1, h2, h3⟩ => ?_, fun ⟨⟨h1, h2⟩, ⟨h3, h4⟩, h5⟩ => ⟨fun j hj hx => ?_, h5, fun n hn hx => ?_⟩⟩
  · have t1 := h3 c (by omega) xc
    have t2 := h3 b hb xb
    rw [zfl_cong ho hcl s1] at t1
    rw [zfl_cong ho hcl s2] at t2
    exact ⟨⟨h1 b (by omega) xb, t1⟩, ⟨h1 c (by omega) xc, t2⟩, h2⟩
  · unfold zX2 at hx
    rw [Bool.or_eq_true, beq_iff_eq, beq_iff_eq] at hx
    rcases hx with hx | hx
    · rw [hx]; exact h3
    · rw [hx]; exact h1
  · unfold zX2 at hx
    rw [Bool.or_eq_true, beq_iff_eq, beq_iff_eq] at hx
    rcases hx with hx | hx
    · subst hx
      rw [zfl_cong ho hcl s1]; exact h2
    · subst hx
      rw [zfl_cong ho hcl s2]; exact h4
theorem zL2 (ho : zOk a) (hcl : cl < 20) : zfm (zK2 a cl) 20 = zM2 a cl := by
  have h20 := ho.1
  have e := zfm_ext (h := zK2 a cl) (n := a 0 0) (20 - a 0 0) (fun i h1 h2 => by
    have : zrs a cl i = false := by
      cases hz : zsd a i
      · unfold zrs; rw [hz]; rfl
      · have := zsd_lt hz
        omega
    unfold zK2
    rw [this]; rfl)
  rw [show a 0 0 + (20 - a 0 0) = 20 by omega] at e
  rw [e]
  refine zfm_cong (fun b hb => ?_)
  have e2 := zfm_ext (h := zhl a cl (fun c => decide (c < b)) (zX2 b)) (n := b) (a 0 0 - b) (fun i h1 h2 => zhl_no (decide_eq_false (by omega)))
  rw [show b + (a 0 0 - b) = a 0 0 by omega] at e2
  rw [e2]
  unfold zK2
  cases hz : zrs a cl b
  · rw [if_neg (by decide)]
    refine (zfm_nil (fun i hi => ?_)).symm
    rw [zhl_ok (decide_eq_true hi), zcds2 ho hcl hb hi, hz, Bool.false_and]; rfl
  · rw [if_pos rfl]
    refine zfm_cong (fun c hc => ?_)
    unfold zH2
    rw [zhl_ok (decide_eq_true hc), zcds2 ho hcl hb hc, hz, Bool.true_and, zS_qq.mpr (zY2X (b := b) (c := c))]
theorem zY3X {x b c : Nat} : zqq (zX3 x b c) (zY3 x b c) := fun j _ => by
  unfold zX3 zY3
  cases (j == c) <;> cases (j == b) <;> cases (j == x) <;> rfl
theorem zcds3 {x b c : Nat} (ho : zOk a) (hcl : cl < 20) (hx : x < a 0 0) (hb : b < x) (hc : c < b) : zcds a cl (zX3 x b c) = (zrs a cl x && (zb1 a cl x b && (zb2 a cl x b c && zfl a cl (zY3 x b c)))) := by
  have h20 := ho.1
  have s1 : zqq (fun k => zX3 x b c k && !(k == c)) (zY2 x b) := fun k _ => Bool.eq_iff_iff.mpr (by
    unfold zX3 zY2
    simp only [Bool.and_eq_true, Bool.or_eq_true, beq_iff_eq, Bool.not_eq_true', beq_eq_false_iff_ne]
    omega)
  have s2 : zqq (fun k => zX3 x b c k && !(k == b)) (zY2 x c) := fun k _ => Bool.eq_iff_iff.mpr (by
    unfold zX3 zY2
    simp only [Bool.and_eq_true, Bool.or_eq_true, beq_iff_eq, Bool.not_eq_true', beq_eq_false_iff_ne]
    omega)
  have s3 : zqq (fun k => zX3 x b c k && !(k == x)) (zY2 b c) := fun k _ => Bool.eq_iff_iff.mpr (by
    unfold zX3 zY2
    simp only [Bool.and_eq_true, Bool.or_eq_true, beq_iff_eq, Bool.not_eq_true', beq_eq_false_iff_ne]
    omega)
  have xx : zX3 x b c x = true := by unfold zX3; simp
  have xb : zX3 x b c b = true := by unfold zX3; simp
  have xc : zX3 x b c c = true := by unfold zX3; simp
  have one : ∀ u v k, (k = u ∨ k = v) → zfl a cl (zY2 u v) = false → zfl a cl (zX1 k) = false := by
    intro u v k hk hf
    cases hz : zfl a cl (zX1 k)
    · rfl
    · have := zfl_mono ho hcl (X := zX1 k) (Y := zY2 u v) (fun i _ hi => by
        unfold zX1 at hi
        unfold zY2
        rw [beq_iff_eq] at hi
        simp only [Bool.or_eq_true, beq_iff_eq]
        omega) hz
      rw [this] at hf
      exact hf
  refine Bool.eq_iff_iff.mpr ?_
  rw [zcds_iff, ← zfl_cong ho hcl (zY3X (x := x) (b := b) (c := c))]
  unfold zb2 zb1 zpr
  simp only [Bool.and_eq_true, Bool.not_eq_true']
  rw [decide_eq_true hb, decide_eq_true hc, decide_eq_true (show c < x by omega)]
  simp only [Bool.true_and]
  refine ⟨fun ⟨h1, h2, h3⟩ => ?_, fun ⟨h1, ⟨h2, h3⟩, ⟨⟨h4, h5⟩, h6⟩, h7⟩ => ?_⟩
  · have t1 := h3 c (by omega) xc
    have t2 := h3 b (by omega) xb
    have t3 := h3 x hx xx
    rw [zfl_cong ho hcl s1] at t1
    rw [zfl_cong ho hcl s2] at t2
    rw [zfl_cong ho hcl s3] at t3
    have rx : zrs a cl x = true := by unfold zrs; rw [h1 x (by omega) xx, one x b x (Or.inl rfl) t1]; rfl
    have rb : zrs a cl b = true := by unfold zrs; rw [h1 b (by omega) xb, one x b b (Or.inr rfl) t1]; rfl
    have rc : zrs a cl c = true := by unfold zrs; rw [h1 c (by omega) xc, one x c c (Or.inr rfl) t2]; rfl
    rw [rx, rb, rc, t1, t2, t3]
    exact ⟨rfl, ⟨rfl, rfl⟩, ⟨⟨rfl, rfl⟩, rfl⟩, h2⟩
  · rw [h1, h2] at h3
    rw [h1, h4] at h5
    rw [h2, h4] at h6
    simp only [Bool.true_and] at h3 h5 h6
    have sx : zsd a x = true := by unfold zrs at h1; rw [Bool.and_eq_true] at h1; exact h1.1
    have sb : zsd a b = true := by unfold zrs at h2; rw [Bool.and_eq_true] at h2; exact h2.1
    have sc : zsd a c = true := by unfold zrs at h4; rw [Bool.and_eq_true] at h4; exact h4.1
    refine ⟨fun j hj hx => ?_, h7, fun n hn hx => ?_⟩
    · unfold zX3 at hx
      simp only [Bool.or_eq_true, beq_iff_eq] at hx
      rcases hx with (hx | hx) | hx
      · rw [hx]; exact sc
      · rw [hx]; exact sb
      · rw [hx]; exact sx
    · unfold zX3 at hx
      simp only [Bool.or_eq_true, beq_iff_eq] at hx
      rcases hx with (hx | hx) | hx
      · subst hx
        rw [zfl_cong ho hcl s1]; exact h3
      · subst hx
        rw [zfl_cong ho hcl s2]; exact h5
      · subst hx
        rw [zfl_cong ho hcl s3]; exact h6
theorem zL3 (ho : zOk a) (hcl : cl < 20) : zfm (zK3 a cl) 20 = zM3 a cl := by
  have h20 := ho.1
  have e := zfm_ext (h := zK3 a cl) (n := a 0 0) (20 - a 0 0) (fun i h1 h2 => by
    have : zrs a cl i = false := by
      cases hz : zsd a i
      · unfold zrs; rw [hz]; rfl
      · have := zsd_lt hz
        omega
    unfold zK3
    rw [this]; rfl)
  rw [show a 0 0 + (20 - a 0 0) = 20 by omega] at e
  rw [e]
  refine zfm_cong (fun x hx => ?_)
  have e2 := zfm_ext (h := fun b => zfm (zhl a cl (fun c => decide (c < b) && decide (b < x)) (zX3 x b)) (a 0 0)) (n := x) (a 0 0 - x) (fun i h1 h2 => zfm_nil (fun j _ => zhl_no (by
    show (decide (j < i) && decide (i < x)) = false
    rw [decide_eq_false (show ¬ i < x by omega), Bool.and_false])))
  rw [show x + (a 0 0 - x) = a 0 0 by omega] at e2
  rw [e2]
  have e3 : ∀ b, b < x → zfm (zhl a cl (fun c => decide (c < b) && decide (b < x)) (zX3 x b)) (a 0 0) = zfm (zhl a cl (fun c => decide (c < b) && decide (b < x)) (zX3 x b)) b := by
    intro b hb
    have := zfm_ext (h := zhl a cl (fun c => decide (c < b) && decide (b < x)) (zX3 x b)) (n := b) (a 0 0 - b) (fun i h1 h2 => zhl_no (by
      show (decide (i < b) && decide (b < x)) = false
      rw [decide_eq_false (show ¬ i < b by omega)]; rfl))
    rw [show b + (a 0 0 - b) = a 0 0 by omega] at this
    exact this
  unfold zK3
  cases hz : zrs a cl x
  · rw [if_neg (by decide)]
    refine (zfm_nil (fun b hb => ?_)).symm
    show zfm (zhl a cl (fun c => decide (c < b) && decide (b < x)) (zX3 x b)) (a 0 0) = []
    rw [e3 b hb]
    refine zfm_nil (fun c hc => ?_)
    rw [zhl_ok (show (fun c => decide (c < b) && decide (b < x)) c = true by show (decide (c < b) && decide (b < x)) = true; rw [decide_eq_true hc, decide_eq_true hb]; rfl), zcds3 ho hcl hx hb hc, hz, Bool.false_and]; rfl
  · rw [if_pos rfl]
    refine zfm_cong (fun b hb => ?_)
    show zI3 a cl x b = zfm (zhl a cl (fun c => decide (c < b) && decide (b < x)) (zX3 x b)) (a 0 0)
    rw [e3 b hb]
    unfold zI3
    cases hw : zb1 a cl x b
    · rw [if_neg (by decide)]
      refine (zfm_nil (fun c hc => ?_)).symm
      rw [zhl_ok (show (fun c => decide (c < b) && decide (b < x)) c = true by show (decide (c < b) && decide (b < x)) = true; rw [decide_eq_true hc, decide_eq_true hb]; rfl), zcds3 ho hcl hx hb hc, hz, hw, Bool.false_and, Bool.and_false]; rfl
    · rw [if_pos rfl]
      refine zfm_cong (fun c hc => ?_)
      unfold zH3
      rw [zhl_ok (show (fun c => decide (c < b) && decide (b < x)) c = true by show (decide (c < b) && decide (b < x)) = true; rw [decide_eq_true hc, decide_eq_true hb]; rfl), zcds3 ho hcl hx hb hc, hz, hw, Bool.true_and, Bool.true_and, zS_qq.mpr (zY3X (x := x) (b := b) (c := c))]
end zSame
theorem zcseek {N cl : Nat} {a : zA} {σ : zSt} {w : Int32} (h : zCN σ a) (ho : zOk a) (hcl : cl < 20) (hN : 600000 ≤ N) (h0 : zfl a cl (fun _ => false) = false) (hw : (-1 : Int32) ≤ w) : ∃ τ, fX1_seek N (nI cl) w σ = some (zfin w (zM1 a cl ++ (zM2 a cl ++ zM3 a cl)), τ) ∧ ∀ k, k ≠ 21 → k ≠ 22 → τ.1 k = σ.1 k := by
  have h20 := ho.1
  have hlen := zM_len (cl := cl) ho
  have l1 : (zM1 a cl).length ≤ a 0 0 * 1 := zfm_len (fun i _ => zhl_len)
  have l2 : (zM2 a cl).length ≤ a 0 0 * (a 0 0 * 1) := zfm_len (fun i _ => zfm_len (fun i _ => zhl_len))
  have b1 : a 0 0 * (a 0 0 * 1) ≤ 20 * (20 * 1) := Nat.mul_le_mul h20 (Nat.mul_le_mul h20 (Nat.le_refl _))
  have hc1 : zCN (zsi σ 21 1 (nI cl)) a := zCN_fr h (fun k q1 q2 => zsi_c (by omega))
  unfold fX1_seek
  rw [zpf_eq, zcstanding hc1 ho hN, zbnd_some, zpf_eq, zpf_eq, zpf_eq, zpf_eq]
  generalize hσ : zsi (zsi (zsi (zsi (zsi σ 21 1 (nI cl)) 21 2 (nI (zS (zsd a)))) 21 3 w) 21 4 0) 21 5 (-1000000) = σ7
  have fr7 : ∀ k, k ≠ 21 → σ7.1 k = σ.1 k := fun k hk => by rw [← hσ, zsi_c hk, zsi_c hk, zsi_c hk, zsi_c hk, zsi_c hk]
  have hc7 : zCN σ7 a := zCN_fr h (fun k q1 q2 => fr7 k (by omega))
  have hs7 : zFS σ7 a cl w [] := by
    rw [← hσ]
    refine ⟨?_, ?_, ?_, ?_, ?_⟩
    · rw [zsi_o (by decide), zsi_o (by decide), zsi_o (by decide), zsi_o (by decide), zsi_s]
    · rw [zsi_o (by decide), zsi_o (by decide), zsi_o (by decide), zsi_s]
    · rw [zsi_o (by decide), zsi_o (by decide), zsi_s]
    · rw [zsi_o (by decide), zsi_s]; rfl
    · rw [zsi_s]; rfl
  obtain ⟨τ1, t1, t2, t3⟩ := zco_1 (N := N) (w := w) ho hcl hN 20 N 0 σ7 hc7 hs7 (by omega) (by omega)
  rw [← zacc_0] at t1
  have t1 : fX1_seekOnes N σ7 = _ := t1
  rw [zL1 ho hcl h0] at t2
  have er : nI (zS (zsd a)) &&& (nI (zS (fun n => decide (n < 20) && (zsd a n && zfl a cl (zX1 n)))) ^^^ (-1 : Int32)) = nI (zS (zrs a cl)) := by
    rw [zS_andn]
    refine zS_eq.mpr (fun n hn => ?_)
    unfold zrs
    rw [decide_eq_true hn]
    cases zsd a n <;> cases zfl a cl (zX1 n) <;> rfl
  have hc1' : zCN τ1 a := zCN_fr hc7 (fun k q1 q2 => t3 k (by omega))
  obtain ⟨τ2, u1, u2, u3, u4⟩ := zco_2 (N := N) (w := w) (pre := zM1 a cl) ho hcl hN (by omega) 20 N 0 τ1 hc1' (by rw [zfm, List.append_nil]; exact t2) (fun n hn => absurd hn (Nat.not_lt_zero n)) (by omega) (by omega)
  have u1 : fX1_seekTwos N (nI (zS (zrs a cl))) τ1 = _ := u1
  rw [zL2 ho hcl] at u2
  have hc2' : zCN τ2 a := zCN_fr hc1' (fun k q1 q2 => u3 k (by omega) (by omega))
  obtain ⟨τ3, v1, v2, v3⟩ := zco_3 (N := N) (w := w) (pre := zM1 a cl ++ zM2 a cl) ho hcl hN (by rw [List.length_append]; omega) 20 N 0 τ2 hc2' (by rw [zfm, List.append_nil]; exact u2) u4 (by omega) (by omega)
  have v1 : fX1_seekThrees N (nI (zS (zrs a cl))) τ2 = _ := v1
  rw [zL3 ho hcl, List.append_assoc] at v2
  rw [t1, zbnd_some, znm_eq, hs7.2.1, er, u1, zbnd_some, v1, zbnd_some, v2.2.2.2.1, v2.2.2.2.2]
  have fr : ∀ k, k ≠ 21 → k ≠ 22 → τ3.1 k = σ.1 k := fun k q1 q2 => (v3 k q1).trans ((u3 k q1 q2).trans ((t3 k q1).trans (fr7 k q1)))
  unfold zfin
  by_cases q : w = -1
  · rw [if_pos q, q, if_neg (by decide)]
    exact ⟨τ3, rfl, fr⟩
  · have q0 : (0 : Int32) ≤ w := by
      have n1 : (-1 : Int32).toInt = -1 := by decide
      have n0 : (0 : Int32).toInt = 0 := by decide
      rw [fa_le, n1] at hw
      have : w.toInt ≠ -1 := fun z => q ((fa_eq w (-1)).mpr (by rw [z, n1]))
      rw [fa_le, n0]
      omega
    rw [if_neg q, if_pos q0]
    exact ⟨τ3, rfl, fr⟩
theorem zp_felling {N : Nat} (hN : 600000 ≤ N) (x y : Int32) : zP2 (fX7_felling N x y) (fX8_felling N x y) := by
  intro σ ρ hR
  have hR2 := zR_keep hR zKC_rfl (zKM_thr (σ := ρ))
  have hR' := hR2
  obtain ⟨a, ho, hc, hm, -⟩ := hR'
  have h20 := ho.1
  unfold fX7_felling fX8_felling
  rw [zpf_eq]
  rcases zclaim2 (N := N) (x := x) hc hm ho with ⟨k, hk, hk2, e, c1, c2⟩ | ⟨c1, c2⟩
  · rw [c1, c2, zbnd_some, zbnd_some, if_neg (show ¬ (1 : Int32) = 0 by decide), if_neg (show ¬ (1 : Int32) = 0 by decide), e]
    by_cases hy : (-1 : Int32) ≤ y
    · obtain ⟨υ, s1, -, s3⟩ := zmshown (N := N) hm ho hN
      have hm2 := zMN_30 hm s3
      rw [if_pos hy, if_pos hy, zcshown hc ho hN, zbnd_some, zbitAt (by omega), zbnd_some, s1, zbnd_some, zS_at (by omega)]
      cases hz : zsh a (fun _ => false) (zsd a) k
      · rw [if_neg (show ¬ false = true by decide), if_pos (show nI 0 = (0 : Int32) from rfl), if_pos (show nI 0 = (0 : Int32) from rfl)]
        exact ⟨_, _, _, rfl, rfl, zR_keep hR2 zKC_rfl (zKM_30 s3)⟩
      · have h0 : zfl a k (fun _ => false) = false := by
          have eq : zqq (zsh a (fun _ => false) (fun i => zsd a i && !false)) (zsh a (fun _ => false) (zsd a)) := zit_cong ho (fun _ _ => rfl) 20 (fun n _ => by
            show (zsd a n && !false) = zsd a n
            cases zsd a n <;> rfl)
          unfold zfl
          rw [eq k (by omega), hz]
          rfl
        obtain ⟨τ, t1, t2⟩ := zcseek (N := N) (cl := k) (w := y) hc ho (by omega) hN h0 hy
        obtain ⟨υ2, r1, r2⟩ := zmsearch (N := N) (cl := k) (w := y) hm2 ho (by omega) hN
        rw [if_pos rfl, if_neg (show ¬ nI 1 = (0 : Int32) by decide), if_neg (show ¬ nI 1 = (0 : Int32) by decide), t1, zbnd_some, zmstanding hm2 ho hN, zbnd_some, r1]
        exact ⟨_, _, _, rfl, rfl, zR_keep hR2 ⟨fun j _ _ q1 q2 _ _ _ _ => t2 j q1 q2, by rw [t2 5 (by decide) (by decide)], by rw [t2 33 (by decide) (by decide)]⟩ (zKM_30 (zF30_trans s3 r2))⟩
    · rw [if_neg hy, if_neg hy]
      exact ⟨_, _, _, rfl, rfl, hR2⟩
  · rw [c1, c2, zbnd_some, zbnd_some, if_pos rfl, if_pos rfl]
    exact ⟨_, _, _, rfl, rfl, hR2⟩
