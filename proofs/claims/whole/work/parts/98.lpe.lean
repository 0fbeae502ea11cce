/-! ===== the class's table: settled ===== -/
theorem zch_mono : ∀ (N k : Nat), zch N k ≤ zch (N + 1) k
  | 0, 0 => Nat.le_refl _
  | _ + 1, 0 => Nat.le_refl _
  | N, k + 1 => by
    rw [zch]
    omega
theorem zch_mono2 {k : Nat} : ∀ {N M : Nat}, N ≤ M → zch N k ≤ zch M k := by
  intro N M h
  induction h with
  | refl => exact Nat.le_refl _
  | step _ ih => exact Nat.le_trans ih (zch_mono _ _)
theorem zch23 : ∀ n, n ≤ 8 → zch 23 n < 500000 := by
  have h : ∀ n, n < 9 → zch 23 n < 500000 := by decide +kernel
  intro n hn
  exact h n (by omega)
theorem zTab_bd {m n : Nat} {t0 t : Nat → Nat → Int} {d : Int} {rn cn : Nat → Nat} (hm : m ≤ 15) (hn : n ≤ 8) (h0 : zSm m n t0) (h : zTab m n 8 t0 t d rn cn) : zBd m n t d rn cn := by
  obtain ⟨h1, h2⟩ := zTab_small hn h0 h
  have hf : ∀ n, n < 9 → zfac n ≤ 40320 := by decide
  have hg : ∀ n, n < 9 → (n + 1) * (100 * zfac n) ≤ 36288000 := by decide
  have a1 := hf n (by omega)
  have a2 := hg n (by omega)
  have a3 : ((n : Int) + 1) * (100 * zfac n) ≤ 36288000 := by
    have e : ((n : Int) + 1) * (100 * zfac n) = (((n + 1) * (100 * zfac n) : Nat) : Int) := by rw [Int.natCast_mul, Int.natCast_add, Int.natCast_mul]; rfl
    rw [e]
    exact Int.ofNat_le.mpr a2
  obtain ⟨n1, n2, n3, n4, n5, n6⟩ := h.2.2.2
  refine ⟨hm, hn, h.1, by omega, fun r hr c hc => ?_, fun r hr c hc => ?_, fun r hr => ?_, fun c hc => ?_⟩
  · obtain ⟨b1, b2, b3⟩ := h2 r hr
    by_cases q : c = n
    · rw [q]; omega
    · have := b1 c (by omega)
      omega
  · have := (h2 r hr).1 c hc
    omega
  · have := n4 r hr
    omega
  · have := n5 c hc
    omega
def zpush (T : Nat → zT) (K : Nat) (x : zT) : Nat → zT := fun l => if l ≤ K then T l else x
theorem zRun_ext {m n B ob K : Nat} {t0 : Nat → Nat → Int} {rule : (Nat → Nat → Int) → (Nat → Nat) → (Nat → Nat) → Nat → Nat → Prop} {T : Nat → zT} {pr ps : Nat → Nat} (hB : n ≤ B) (h : zRun m n B ob t0 rule T pr ps K) {r s : Nat} (hr : r < m) (hro : r ≠ ob) (hs : s < n) (hrule : rule (T K).1 (T K).2.2.1 (T K).2.2.2 r s) {ε : Int} (hε : ε = 1 ∨ ε = -1) (hp : 0 < ε * (T K).1 r s) :
    zRun m n B ob t0 rule (zpush T K (zpT r s ε (T K).1 (T K).2.1, ε * (T K).1 r s, va_up (T K).2.2.1 r ((T K).2.2.2 s), va_up (T K).2.2.2 s ((T K).2.2.1 r))) (va_up pr K r) (va_up ps K s) (K + 1) := by
  obtain ⟨h1, h2⟩ := h
  have hK := h1 K (Nat.le_refl _)
  refine ⟨fun l hl => ?_, fun l hl => ?_⟩
  · unfold zpush
    by_cases q : l ≤ K
    · rw [if_pos q]; exact h1 l q
    · rw [if_neg q]
      refine ⟨zTab_piv hB hK.1 hr hs hε hp, ?_, znb_ct hK.1.2.2.2 ⟨by omega, Nat.le_refl _⟩ hr hs hK.2.2⟩
      show (if ob = r then _ else (T K).2.2.1 ob) = _
      rw [if_neg (fun q => hro q.symm)]
      exact hK.2.1
  · unfold zpush
    by_cases q : l = K
    · subst q
      rw [if_pos (Nat.le_refl _), if_neg (by omega)]
      have e1 : va_up pr l r l = r := if_pos rfl
      have e2 : va_up ps l s l = s := if_pos rfl
      rw [e1, e2]
      exact ⟨hrule, hr, hs, rfl, rfl⟩
    · rw [if_pos (by omega), if_pos (by omega)]
      have e1 : va_up pr K r l = pr l := if_neg q
      have e2 : va_up ps K s l = ps l := if_neg q
      rw [e1, e2]
      exact h2 l (by omega)
theorem zStep_ext {T : Nat → zT} {pr ps : Nat → Nat} {K r s : Nat} {x y : Nat → Nat} (h : zStepT T pr ps K) : zStepT (zpush T K (zpT r s (-1) (T K).1 (T K).2.1, -1 * (T K).1 r s, x, y)) (va_up pr K r) (va_up ps K s) (K + 1) := by
  intro l hl
  unfold zpush
  by_cases q : l = K
  · subst q
    rw [if_pos (Nat.le_refl _), if_neg (by omega)]
    have e1 : va_up pr l r l = r := if_pos rfl
    have e2 : va_up ps l s l = s := if_pos rfl
    rw [e1, e2]
    exact ⟨rfl, rfl⟩
  · rw [if_pos (by omega), if_pos (by omega)]
    have e1 : va_up pr K r l = pr l := if_neg q
    have e2 : va_up ps K s l = ps l := if_neg q
    rw [e1, e2]
    exact h l (by omega)
/-- settled: the least cost, or no shares -/
def zSettled (m n : Nat) (t0 : Nat → Nat → Int) (b : Int32) (τ : zSt) : Prop :=
  (b = 1 ∧ ∃ t d rn cn, zTC τ m n t d rn cn ∧ zBd m n t d rn cn ∧ (∃ x, zFe m n 8 0 t0 x d ∧ x 8 = t 0 n) ∧ ∀ x D, zFe m n 8 0 t0 x D → d * x 8 ≤ t 0 n * D) ∨ (b = 0 ∧ ∀ x D, ¬ zFe m n 8 0 t0 x D)
theorem zsettle_loop {N m n : Nat} {t0 : Nat → Nat → Int} (hm0 : 1 ≤ m) (hm : m ≤ 15) (hn : n ≤ 8) (h0 : zSm m n t0) (hN : 100 ≤ N) : ∀ (g f K : Nat) (T : Nat → zT) (pr ps : Nat → Nat) (σ : zSt), zch (8 + m) n ≤ K + g → g < f → zRun m n 8 0 t0 (zDS m n 0) T pr ps K → zStepT T pr ps K → (∀ c, c < n → 0 ≤ (T K).1 0 c) → zTC σ m n (T K).1 (T K).2.1 (T K).2.2.1 (T K).2.2.2 →
    ∃ b τ, fX4_settle_2 N f (nI K) σ = some (b, τ) ∧ zFT σ τ ∧ zSettled m n t0 b τ
  | 0, f, K, T, pr, ps, σ, hg, hf, hR, hS, hC, hT => by
    have := zRun_ds hn (by omega) hR hS
    omega
  | g + 1, f + 1, K, T, pr, ps, σ, hg, hf, hR, hS, hC, hT => by
    have hK := zRun_ds hn (by omega) hR hS
    have hK2 := Nat.lt_of_le_of_lt (zch_mono2 (k := n) (show 8 + m ≤ 23 by omega)) (zch23 n hn)
    obtain ⟨hTab, hob, -⟩ := hR.1 K (Nat.le_refl _)
    have hb := zTab_bd hm hn h0 hTab
    obtain ⟨b, eb, hbr⟩ := zbroken (N := N) hT hb hm0 hN
    rw [fX4_settle_2, if_neg (show ¬ (1000000 : Int32) ≤ nI K from nI_ge (b := 1000000) (by omega) (by omega)), eb, zbnd_some]
    rcases hbr with ⟨e, ha⟩ | ⟨k, e, k1, k2, k3, ha⟩
    · rw [e, if_neg (by decide)]
      refine ⟨1, σ, zrz_1, zFT_rfl, Or.inl ⟨rfl, (T K).1, (T K).2.1, (T K).2.2.1, (T K).2.2.2, hT, hb, ?_⟩⟩
      exact zbest hn hTab hob (by omega) (fun r hr hro => ha r (by omega) hr) hC
    · rw [e, if_pos (nI_pos' (by omega))]
      obtain ⟨b2, eb2, hmc⟩ := zmending (N := N) hT hb k2 hN
      rw [eb2, zbnd_some]
      rcases hmc with ⟨e2, ha2⟩ | ⟨s, e2, s2, s3, ha2⟩
      · rw [e2, if_neg (by decide)]
        exact ⟨0, σ, zrz_0, zFT_rfl, Or.inr ⟨rfl, fun x D hx => zno_point hTab hob (by omega) k2 (by omega) k3 ha2 hx⟩⟩
      · rw [e2, if_pos (nI_pos' (by omega))]
        have hds : zDS m n 0 (T K).1 (T K).2.2.1 (T K).2.2.2 k s := ⟨k2, by omega, s2, k3, s3, hC, fun i hi hi0 hin => ha i (by omega) hi hin, ha2⟩
        obtain ⟨τ, eτ, hτ, hFT⟩ := zexchange (N := N) hT hb k2 s2 hN (fun r c hr hc hcs => zTab_exact hn hTab k2 s2 hr hc hcs)
        rw [eτ, zbnd_some, nI_1]
        have hp : 0 < -1 * (T K).1 k s := by omega
        have hR' := zRun_ext (ε := -1) hn hR k2 (by omega) s2 hds (Or.inr rfl) hp
        obtain ⟨b3, υ, e3, f3, q3⟩ := zsettle_loop hm0 hm hn h0 hN g f (K + 1) _ _ _ τ (by omega) (by omega) hR' (zStep_ext hS) (by
          have : zpush T K (zpT k s (-1) (T K).1 (T K).2.1, -1 * (T K).1 k s, va_up (T K).2.2.1 k ((T K).2.2.2 s), va_up (T K).2.2.2 s ((T K).2.2.1 k)) (K + 1) = (zpT k s (-1) (T K).1 (T K).2.1, -1 * (T K).1 k s, va_up (T K).2.2.1 k ((T K).2.2.2 s), va_up (T K).2.2.2 s ((T K).2.2.1 k)) := if_neg (by omega)
          rw [this]
          exact zds_keeps hn (by omega) hTab hds) (by
          have : zpush T K (zpT k s (-1) (T K).1 (T K).2.1, -1 * (T K).1 k s, va_up (T K).2.2.1 k ((T K).2.2.2 s), va_up (T K).2.2.2 s ((T K).2.2.1 k)) (K + 1) = (zpT k s (-1) (T K).1 (T K).2.1, -1 * (T K).1 k s, va_up (T K).2.2.1 k ((T K).2.2.2 s), va_up (T K).2.2.2 s ((T K).2.2.1 k)) := if_neg (by omega)
          rw [this]
          exact hτ)
        exact ⟨b3, υ, e3, zFT_trans hFT f3, q3⟩
theorem zsettle {N m n : Nat} {t0 : Nat → Nat → Int} {σ : zSt} (hm0 : 1 ≤ m) (hm : m ≤ 15) (hn : n ≤ 8) (h0 : zSm m n t0) (hN : 600000 ≤ N) (hC : ∀ c, c < n → 0 ≤ t0 0 c) (hT : zTC σ m n t0 1 (fun r => 8 + r) (fun c => c)) :
    ∃ b τ, fX4_settle N σ = some (b, τ) ∧ zFT σ τ ∧ zSettled m n t0 b τ := by
  have hK2 := Nat.lt_of_le_of_lt (zch_mono2 (k := n) (show 8 + m ≤ 23 by omega)) (zch23 n hn)
  refine zsettle_loop hm0 hm hn h0 (by omega) (zch (8 + m) n) N 0 (fun _ => (t0, 1, fun r => 8 + r, fun c => c)) (fun _ => 0) (fun _ => 0) σ (by omega) (by omega) ⟨fun l _ => ⟨zTab_init hn t0, rfl, znb_init (by omega)⟩, fun l hl => by omega⟩ (fun l hl => by omega) hC hT
