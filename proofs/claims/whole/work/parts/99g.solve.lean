/-! ===== the reference solves ===== -/
theorem zleastRow {N q n : Nat} {t : Nat → Nat → Int} {d : Int} {rn cn : Nat → Nat} {σ : zSt} (h : zTM σ q n t d rn cn) (hb : zBd (q + 1) n t d rn cn) (hq : q ≤ 13) (hn : n ≤ 7) (hN : 100 ≤ N) : ∃ b, fX8_leastRow N σ = some (b, σ) ∧ zPk (fun i => t i n < 0) rn q b :=
  zleastRow_loop h hb hq hn q N 0 (-1000000) (by omega) (by omega) (Or.inl ⟨rfl, fun k hk => by omega⟩)
theorem zleastCol {N q n : Nat} {t : Nat → Nat → Int} {d : Int} {rn cn : Nat → Nat} {σ : zSt} (h : zTM σ q n t d rn cn) (hb : zBd (q + 1) n t d rn cn) (hq : q ≤ 13) (hn : n ≤ 7) (hN : 100 ≤ N) : ∃ b, fX8_leastColumn N σ = some (b, σ) ∧ zPk (fun i => t q i < 0) cn n b :=
  zleastCol_loop h hb hq hn n N 0 (-1000000) (by omega) (by omega) (Or.inl ⟨rfl, fun k hk => by omega⟩)
/-- no way without end: the total holds it -/
theorem zno_way {q n s : Nat} {t0 t : Nat → Nat → Int} {d : Int} {rn cn : Nat → Nat} (h : zTab (q + 1) n n t0 t d rn cn) (ho : rn q = n + q) (hq : 1 ≤ q) (h1 : ∀ c, c < n → t0 0 c = 1) (hs : s < n) (hp : ∀ k, k < q → ¬ 0 < t k s) : False := by
  obtain ⟨x, hr, hc, hsol⟩ := zway h hs
  obtain ⟨n1, n2, n3, n4, n5, n6⟩ := h.2.2.2
  have hnn : ∀ v, v < n + q → 0 ≤ x v := by
    intro v hv
    rcases n6 v (by omega) with ⟨c, hcn, e⟩ | ⟨r, hrm, e⟩
    · rw [← e, hc c hcn]
      split
      · exact Int.le_of_lt h.1
      · exact Int.le_refl 0
    · by_cases z : r = q
      · rw [z, ho] at e; omega
      · rw [← e, hr r hrm]
        have := hp r (by omega)
        omega
  have row0 := hsol 0 (by omega)
  have row0 : 1 * x (n + 0) + fb_si (fun c => t0 0 c * x c) n = t0 0 n * 0 := row0
  have es : fb_si (fun c => t0 0 c * x c) n = fb_si x n := fb_si_cong (fun c hcn => by rw [h1 c hcn, Int.one_mul])
  rw [es] at row0
  have hx0 := hnn (n + 0) (by omega)
  have hsum : fb_si x n = 0 := by
    have := fb_si_nonneg (f := x) (n := n) (fun c hcn => hnn c (by omega))
    omega
  have hz : ∀ c, c < n → x c = 0 := by
    intro c hcn
    have a1 := fb_si_le1 (f := x) hcn (fun k hk => hnn k (by omega))
    have a2 := hnn c (by omega)
    omega
  have hd : x (cn s) = d := by rw [hc s hs, if_pos rfl]
  have hdp := h.1
  rcases n5 s hs with z | z
  · have := hz _ z
    omega
  · have row := hsol (cn s - n) (by omega)
    have row : 1 * x (n + (cn s - n)) + fb_si (fun c => t0 (cn s - n) c * x c) n = t0 (cn s - n) n * 0 := row
    rw [show n + (cn s - n) = cn s by omega, fb_si_zero (fun c hcn => by rw [hz c hcn, Int.mul_zero])] at row
    omega
def zSolved (q n : Nat) (t0 : Nat → Nat → Int) (b : Int32) (τ : zSt) : Prop :=
  (b = 1 ∧ ∃ t d rn cn, zTM τ q n t d rn cn ∧ zBd (q + 1) n t d rn cn ∧ (∃ x, zFe (q + 1) n n q t0 x d ∧ x (n + q) = t q n) ∧ ∀ x D, zFe (q + 1) n n q t0 x D → d * x (n + q) ≤ t q n * D) ∨ (b = 0 ∧ ∀ x D, ¬ zFe (q + 1) n n q t0 x D)
theorem zsolve_loop {N q n : Nat} {t0 : Nat → Nat → Int} (hq1 : 1 ≤ q) (hq : q ≤ 13) (hn : n ≤ 7) (h0 : zSm (q + 1) n t0) (hN : 600000 ≤ N) (h1 : ∀ c, c < n → t0 0 c = 1) : ∀ (g f K : Nat) (T : Nat → zT) (pr ps : Nat → Nat) (σ : zSt) (b1 b3 : Int32), zch (n + (q + 1)) n ≤ K + g → g < f → zRun (q + 1) n n q t0 (fun t rn cn r s => zCCP (q + 1) n q t rn cn r s ∨ zCCD (q + 1) n q t rn cn r s) T pr ps K → zTM σ q n (T K).1 (T K).2.1 (T K).2.2.1 (T K).2.2.2 →
    zPk (fun i => (T K).1 i n < 0) (T K).2.2.1 q b1 → zPk (fun i => (T K).1 q i < 0) (T K).2.2.2 n b3 →
    ∃ b τ, fX8_isSolved_10 N f b1 b3 σ = some (b, τ) ∧ zFM σ τ ∧ zSolved q n t0 b τ
  | 0, f, K, T, pr, ps, σ, b1, b3, hg, hf, hR, hT, hb1, hb3 => by
    have := zRun_cc (Nat.le_refl n) (by omega) hR
    omega
  | g + 1, f + 1, K, T, pr, ps, σ, b1, b3, hg, hf, hR, hT, hb1, hb3 => by
    obtain ⟨hTab, hob, -⟩ := hR.1 K (Nat.le_refl _)
    have hb := zTab_bdB (by omega) (Nat.le_refl n) (by omega) h0 hTab
    -- what follows a turn
    have next : ∀ (r s : Nat) (ε : Int), r < q → s < n → ((ε = 1 ∧ 0 < (T K).1 r s) ∨ (ε = -1 ∧ (T K).1 r s < 0)) → (zCCP (q + 1) n q (T K).1 (T K).2.2.1 (T K).2.2.2 r s ∨ zCCD (q + 1) n q (T K).1 (T K).2.2.1 (T K).2.2.2 r s) →
        ∃ b τ, zbnd (fX8_turn N (nI r) (nI s) σ) (fun (b1 : Unit) (σ2 : zSt) => fX8_isSolved_201 N (fX8_isSolved_10 N f) σ2) = some (b, τ) ∧ zFM σ τ ∧ zSolved q n t0 b τ := by
      intro r s ε hr hs hε hrule
      obtain ⟨τ, eτ, hτ, fτ⟩ := zturn (N := N) hT hb hq hn hr hs hN (fun i c hi hc hcs => zTab_exact (Nat.le_refl n) hTab (by omega) hs (by omega) hc hcs) hε
      have hε' : ε = 1 ∨ ε = -1 := by omega
      have hp : 0 < ε * (T K).1 r s := by
        rcases hε with ⟨e, z⟩ | ⟨e, z⟩ <;> rw [e] <;> omega
      have hR' := zRun_ext (Nat.le_refl n) hR (show r < q + 1 by omega) (by omega) hs hrule hε' hp
      have eK : zpush T K (zpT r s ε (T K).1 (T K).2.1, ε * (T K).1 r s, va_up (T K).2.2.1 r ((T K).2.2.2 s), va_up (T K).2.2.2 s ((T K).2.2.1 r)) (K + 1) = (zpT r s ε (T K).1 (T K).2.1, ε * (T K).1 r s, va_up (T K).2.2.1 r ((T K).2.2.2 s), va_up (T K).2.2.2 s ((T K).2.2.1 r)) := if_neg (by omega)
      have hTab' := (hR'.1 (K + 1) (Nat.le_refl _)).1
      have hb' := zTab_bdB (by omega) (Nat.le_refl n) (by omega) h0 hTab'
      have hτ' := hτ
      rw [eK] at hb'
      obtain ⟨c1, f1, q1⟩ := zleastRow (N := N) hτ hb' hq hn (by omega)
      obtain ⟨c3, f3, q3⟩ := zleastCol (N := N) hτ hb' hq hn (by omega)
      rw [eτ, zbnd_some, fX8_isSolved_201, f1, zbnd_some, f3, zbnd_some]
      obtain ⟨b, υ, e, fr, z⟩ := zsolve_loop hq1 hq hn h0 hN h1 g f (K + 1) _ _ _ τ c1 c3 (by omega) (by omega) hR' (by rw [eK]; exact hτ) (by rw [eK]; exact q1) (by rw [eK]; exact q3)
      exact ⟨b, υ, e, zFM_trans fτ fr, z⟩
    -- a row is mended
    have row : ∀ r, b1 = nI r → r < q → (T K).1 r n < 0 → (∀ i, i < q → (T K).1 i n < 0 → (T K).2.2.1 r ≤ (T K).2.2.1 i) → (∀ c, c < n → (T K).1 q c < 0 → (T K).2.2.1 r ≤ (T K).2.2.2 c) → ∃ b τ, fX8_isSolved_52 N (fX8_isSolved_10 N f) b1 (-1000000) σ = some (b, τ) ∧ zFM σ τ ∧ zSolved q n t0 b τ := by
      intro r e hr hneg hle hle2
      rw [e]
      unfold fX8_isSolved_52
      obtain ⟨b', e', hpk⟩ := zsolveRow_loop (N := N) (k10 := fX8_isSolved_10 N f) (r := r) hT hb hq hn hr n N 0 (-1000000) (by omega) (by omega) (Or.inl ⟨rfl, fun k hk => by omega⟩)
      rw [show (0 : Int32) = nI 0 from rfl, e']
      rcases hpk with ⟨eb, ha⟩ | ⟨s, eb, s1, s2, ha⟩
      · rw [eb, if_pos rfl]
        exact ⟨0, σ, zrz_0, zFM_rfl, Or.inr ⟨rfl, fun x D hx => zno_point hTab hob (by omega) (show r < q + 1 by omega) (by omega) hneg (fun c hc => by have := ha c hc; omega) hx⟩⟩
      · rw [eb, if_neg (zNone_ne (by omega))]
        exact next r s (-1) hr s1 (Or.inr ⟨rfl, s2⟩) (Or.inl ⟨by omega, by omega, s1, hneg, s2, fun c hc hcn => ha c hc hcn, fun i hi hiq hin => hle i (by omega) hin, hle2⟩)
    have col : ∀ s, b3 = nI s → s < n → (T K).1 q s < 0 → (∀ c, c < n → (T K).1 q c < 0 → (T K).2.2.2 s ≤ (T K).2.2.2 c) → (∀ i, i < q → (T K).1 i n < 0 → (T K).2.2.2 s ≤ (T K).2.2.1 i) → ∃ b τ, fX8_isSolved_128 N (fX8_isSolved_10 N f) b3 (-1000000) σ = some (b, τ) ∧ zFM σ τ ∧ zSolved q n t0 b τ := by
      intro s e hs hneg hle hle2
      rw [e]
      unfold fX8_isSolved_128
      obtain ⟨b', e', hpk⟩ := zsolveCol_loop (N := N) (k10 := fX8_isSolved_10 N f) (s := s) hT hb hq hn hs q N 0 (-1000000) (by omega) (by omega) (Or.inl ⟨rfl, fun k hk => by omega⟩)
      rw [show (0 : Int32) = nI 0 from rfl, e']
      rcases hpk with ⟨eb, ha⟩ | ⟨r, eb, s1, s2, ha⟩
      · exact absurd (zno_way hTab hob hq1 h1 hs ha) id
      · rw [eb, if_neg (zNone_ne (by omega))]
        exact next r s 1 s1 hs (Or.inl ⟨rfl, s2⟩) (Or.inr ⟨by omega, by omega, hs, hneg, s2, fun i hi hiq hip => ha i (by omega) hip, hle, fun i hi hiq hin => hle2 i (by omega) hin⟩)
    rw [fX8_isSolved_10]
    rcases hb1 with ⟨e1, a1⟩ | ⟨r, e1, r1, r2, a1⟩
    · rw [if_pos e1]
      rcases hb3 with ⟨e3, a3⟩ | ⟨s, e3, s1, s2, a3⟩
      · rw [if_pos e3]
        refine ⟨1, σ, zrz_1, zFM_rfl, Or.inl ⟨rfl, (T K).1, (T K).2.1, (T K).2.2.1, (T K).2.2.2, hT, hb, ?_⟩⟩
        exact zbest (Nat.le_refl n) hTab hob (by omega) (fun r hr hro => by have := a1 r (by omega); omega) (fun c hc => by have := a3 c hc; omega)
      · rw [if_neg (by rw [e3]; exact zNone_ne (by omega)), fX8_isSolved_22, if_neg (by rw [e3]; exact zNone_ne (by omega)), if_pos e1]
        exact col s e3 s1 s2 a3 (fun i hi hin => absurd hin (a1 i hi))
    · have e1' : ¬ b1 = -1000000 := by rw [e1]; exact zNone_ne (by omega)
      rw [if_neg e1']
      rcases hb3 with ⟨e3, a3⟩ | ⟨s, e3, s1, s2, a3⟩
      · rw [fX8_isSolved_22, if_pos e3]
        exact row r e1 r1 r2 a1 (fun c hc hcn => absurd hcn (a3 c hc))
      · have n1 := hb.2.2.2.2.2.2.1 r (by omega)
        have n2 := hb.2.2.2.2.2.2.2 s s1
        rw [fX8_isSolved_22, if_neg (by rw [e3]; exact zNone_ne (by omega)), if_neg e1', e1, e3, zag_nI (by omega) (by omega), zag_nI (by omega) (by omega), hT.2.2.2.2.1 r r1, hT.2.2.2.2.2 s s1, ← e1, ← e3]
        by_cases hle : (T K).2.2.2 s ≤ (T K).2.2.1 r
        · rw [if_pos (nI_le hle (by omega))]
          exact col s e3 s1 s2 a3 (fun i hi hin => Nat.le_trans hle (a1 i hi hin))
        · rw [if_neg (nI_ge (by omega) (by omega))]
          exact row r e1 r1 r2 a1 (fun c hc hcn => by have := a3 c hc hcn; omega)
theorem zsolve {N q n : Nat} {t0 : Nat → Nat → Int} {σ : zSt} (hq1 : 1 ≤ q) (hq : q ≤ 13) (hn : n ≤ 7) (h0 : zSm (q + 1) n t0) (hN : 600000 ≤ N) (h1 : ∀ c, c < n → t0 0 c = 1) (hT : zTM σ q n t0 1 (fun r => n + r) (fun c => c)) : ∃ b τ, fX8_isSolved N σ = some (b, τ) ∧ zFM σ τ ∧ zSolved q n t0 b τ := by
  have hK2 := Nat.lt_of_le_of_lt (zch_mono2 (k := n) (show n + (q + 1) ≤ 23 by omega)) (zch23 n (by omega))
  have hb := zTab_bdB (by omega) (Nat.le_refl n) (by omega) h0 (zTab_init (m := q + 1) (Nat.le_refl n) t0)
  obtain ⟨c1, f1, q1⟩ := zleastRow (N := N) hT hb hq hn (by omega)
  obtain ⟨c3, f3, q3⟩ := zleastCol (N := N) hT hb hq hn (by omega)
  unfold fX8_isSolved
  rw [f1, zbnd_some, f3, zbnd_some]
  exact zsolve_loop hq1 hq hn h0 hN h1 (zch (n + (q + 1)) n) N 0 (fun _ => (t0, 1, fun r => n + r, fun c => c)) (fun _ => 0) (fun _ => 0) σ c1 c3 (by omega) (by omega) ⟨fun l _ => ⟨zTab_init (Nat.le_refl n) t0, rfl, znb_init (by omega)⟩, fun l hl => by omega⟩ hT q1 q3
