/-! ===== looked ===== -/
theorem zwin18 {N : Nat} (x : Int32) : (∃ n, 1 ≤ n ∧ n ≤ 8 ∧ x = nI n ∧ ∀ σ, fX7_isWithin N x 1 8 σ = some (1, σ)) ∨ ∀ σ, fX7_isWithin N x 1 8 σ = some (0, σ) := by
  unfold fX7_isWithin
  by_cases q1 : x < 1
  · exact Or.inr (fun σ => by rw [if_pos q1]; exact zrz_0)
  · by_cases q2 : (8 : Int32) < x
    · exact Or.inr (fun σ => by rw [if_neg q1, if_pos q2]; exact zrz_0)
    · obtain ⟨j, hj, ej⟩ := nI_of (x := x) (fun z => q1 (by rw [fa_lt] at *; have : (0 : Int32).toInt = 0 := by decide
                                                            have : (1 : Int32).toInt = 1 := by decide
                                                            omega))
      refine Or.inl ⟨j, ?_, ?_, ej, fun σ => by rw [if_neg q1, if_neg q2]; exact zrz_1⟩
      · rw [ej] at q1
        exact Nat.le_of_not_lt (fun z => q1 (nI_lt (b := 1) z (by omega)))
      · rw [ej] at q2
        exact Nat.le_of_not_lt (fun z => q2 (nI_lt (a := 8) z hj))
theorem zcground1 {N m : Nat} {a : zA} {σ : zSt} (hc : zCN σ a) (ho : zOk a) (hm : m < a 0 0) (hg : a 1 m < 2) : fX2_isGround N (nI m) σ = some (1, σ) := by
  have h20 := ho.1
  have e1 : fX2_hasNode N (nI m) σ = some (1, σ) := by
    unfold fX2_hasNode
    rw [hc.1, if_neg (nI_pos (by omega)), if_neg (nI_ge hm (by omega))]; exact zrz_1
  unfold fX2_isGround
  rw [e1, zbnd_some, if_neg (by decide), zag_nI (by omega) (by omega), (hc.2.2.2.1 m hm).1, if_neg (show ¬ nI (a 1 m) = (2 : Int32) from fun z => by have := (nI_eq (b := 2) (by omega) (by omega)).mp z; omega)]
  exact zrz_1
/-- three items that tell a look -/
def zgd (a : zA) (v : Nat → Int32) (i : Nat) : Prop := ∃ m d e, v i = nI m ∧ m < a 0 0 ∧ a 1 m < 2 ∧ v (i + 1) = nI d ∧ d ≤ 9999 ∧ v (i + 2) = nI e ∧ e ≤ 9999
theorem zcitem {N s p : Nat} {σ : zSt} (hs : s < 8) (hp : p < 40) : fX3_itemAt N (nI s) (nI p) σ = some (σ.1 2 (40 * s + p), σ) := by
  unfold fX3_itemAt
  rw [z40', zag_nI (by omega) (by omega)]
theorem zlook1 {N s p P0 n : Nat} {a : zA} {σ ρ : zSt} (hc : zCN σ a) (hm : zMN ρ a) (ho : zOk a) (hs : s < 8) (hp : p + 2 < 40) (hS : ∀ i, i < 320 → σ.1 2 i = ρ.1 3 i) (hb : 40 * s + p < P0 + 3 * n) (hP : P0 + 3 * n ≤ 320) : (fX7_isLook N (nI s) (nI p) σ = some (0, σ) ∧ ∀ f, fX8_looked_82 N (f + 1) (nI n) (nI P0) (nI (40 * s + p)) ρ = some (-1000001, ρ)) ∨ (zgd a (σ.1 2) (40 * s + p) ∧ fX7_isLook N (nI s) (nI p) σ = some (1, σ) ∧ ∀ f, fX8_looked_82 N (f + 1) (nI n) (nI P0) (nI (40 * s + p)) ρ = fX8_looked_82 N f (nI n) (nI P0) (nI (40 * s + p + 3)) ρ) := by
  have e0 : (0 : Int64) = (0 : Int32).toInt64 := by decide
  have e9 : (9999 : Int64) = (nI 10000 - 1).toInt64 := by decide
  have e9' : ∀ v : Int32, fX7_isWithin N v 0 9999 σ = fX7_isWithin N v 0 (nI 10000 - 1) σ := fun _ => rfl
  have e3 : nI P0 + (3 : Int32) * nI n = nI (P0 + 3 * n) := by
    show nI P0 + nI 3 * nI n = _
    rw [pk_mul, nI_add]
  have s0 := hS (40 * s + p) (by omega)
  have s1 := hS (40 * s + p + 1) (by omega)
  have s2 := hS (40 * s + p + 2) (by omega)
  have t1 : nI (40 * s + p) + (1 : Int32) = nI (40 * s + p + 1) := nI_1 _
  have t2 : nI (40 * s + p) + (2 : Int32) = nI (40 * s + p + 2) := nI_add _ 2
  have t3 : nI (40 * s + p) + (3 : Int32) = nI (40 * s + p + 3) := nI_add _ 3
  have u1 : nI p + (1 : Int32) = nI (p + 1) := nI_1 _
  have u2 : nI p + (2 : Int32) = nI (p + 2) := nI_add _ 2
  have step : ∀ f, fX8_looked_82 N (f + 1) (nI n) (nI P0) (nI (40 * s + p)) ρ = zbnd (fX8_isLeaf N (σ.1 2 (40 * s + p)) ρ) (fun (b3 : Int32) (σ4 : zSt) => if b3 = 0 then some ((-1000001 : Int32), σ4) else zag σ4 3 320 (nI (40 * s + p + 1)) (fun (v5 : Int32) => zbnd (fX8_in N v5.toInt64 (0 : Int64) (9999 : Int64) σ4) (fun (b6 : Int32) (σ7 : zSt) => if b6 = 0 then some ((-1000001 : Int32), σ7) else zag σ7 3 320 (nI (40 * s + p + 2)) (fun (v8 : Int32) => zbnd (fX8_in N v8.toInt64 (0 : Int64) (9999 : Int64) σ7) (fun (b9 : Int32) (σ10 : zSt) => if b9 = 0 then some ((-1000001 : Int32), σ10) else fX8_looked_82 N f (nI n) (nI P0) (nI (40 * s + p + 3)) σ10))))) := by
    intro f
    rw [fX8_looked_82, e3, if_neg (nI_ge hb (by omega)), zag_nI (by omega) (by omega), t1, t2, t3, s0]
  unfold fX7_isLook
  rw [zcitem hs (by omega), zbnd_some]
  rcases zground2 (N := N) (x := σ.1 2 (40 * s + p)) hc hm ho with ⟨k, hk, hk2, e, c1, c2⟩ | ⟨c1, c2⟩
  · rw [c1, zbnd_some, if_neg (show ¬ (1 : Int32) = 0 by decide), u1, zcitem hs (by omega), zbnd_some, e9']
    rcases zw_ex (N := N) (n := 10000) (x := σ.1 2 (40 * s + (p + 1))) (by decide) with ⟨d, hd, ed, q⟩ | ⟨-, q⟩
    · rw [q, zbnd_some, if_neg (show ¬ (1 : Int32) = 0 by decide), u2, zcitem hs (by omega), zbnd_some, e9']
      rcases zw_ex (N := N) (n := 10000) (x := σ.1 2 (40 * s + (p + 2))) (by decide) with ⟨f, hf, ef, q2⟩ | ⟨-, q2⟩
      · rw [q2, zbnd_some, if_neg (show ¬ (1 : Int32) = 0 by decide)]
        refine Or.inr ⟨⟨k, d, f, e, hk, hk2, ed, by omega, ef, by omega⟩, zrz_1, fun f => ?_⟩
        rw [step f, c2, zbnd_some, if_neg (show ¬ (1 : Int32) = 0 by decide), zag_nI (by omega) (by omega), ← s1, e9, e0, zinM]
        have q' := q (zsi ρ 0 0 (ρ.1 0 0))
        rw [show 40 * s + p + 1 = 40 * s + (p + 1) by omega, q, zbnd_some, if_neg (show ¬ (1 : Int32) = 0 by decide), zag_nI (by omega) (by omega), ← s2, zinM, show 40 * s + p + 2 = 40 * s + (p + 2) by omega, q2, zbnd_some, if_neg (show ¬ (1 : Int32) = 0 by decide)]
      · rw [q2, zbnd_some, if_pos rfl]
        refine Or.inl ⟨zrz_0, fun f => ?_⟩
        rw [step f, c2, zbnd_some, if_neg (show ¬ (1 : Int32) = 0 by decide), zag_nI (by omega) (by omega), ← s1, e9, e0, zinM, show 40 * s + p + 1 = 40 * s + (p + 1) by omega, q, zbnd_some, if_neg (show ¬ (1 : Int32) = 0 by decide), zag_nI (by omega) (by omega), ← s2, zinM, show 40 * s + p + 2 = 40 * s + (p + 2) by omega, q2, zbnd_some, if_pos rfl]
    · rw [q, zbnd_some, if_pos rfl]
      refine Or.inl ⟨zrz_0, fun f => ?_⟩
      rw [step f, c2, zbnd_some, if_neg (show ¬ (1 : Int32) = 0 by decide), zag_nI (by omega) (by omega), ← s1, e9, e0, zinM, show 40 * s + p + 1 = 40 * s + (p + 1) by omega, q, zbnd_some, if_pos rfl]
  · rw [c1, zbnd_some, if_pos rfl]
    refine Or.inl ⟨zrz_0, fun f => ?_⟩
    rw [step f, c2, zbnd_some, if_pos rfl]
theorem zlook_chk {N s i n : Nat} {a : zA} {σ ρ : zSt} (hc : zCN σ a) (hm : zMN ρ a) (ho : zOk a) (hs : s < 8) (hi : i + 3 * n ≤ 40) (hS : ∀ i, i < 320 → σ.1 2 i = ρ.1 3 i) : ∀ (g f f' k : Nat), g < f → g < f' → k + g = n → (fX7_looked_65 N f (nI s) (nI i) (nI n) (nI k) σ = some (-1000001, σ) ∧ fX8_looked_82 N f' (nI n) (nI (40 * s + i)) (nI (40 * s + (i + 3 * k))) ρ = some (-1000001, ρ)) ∨ ((∀ k', k ≤ k' → k' < n → zgd a (σ.1 2) (40 * s + (i + 3 * k'))) ∧ fX7_looked_65 N f (nI s) (nI i) (nI n) (nI k) σ = fX7_looked_97 N N (nI s) (nI i) (nI n) 0 σ ∧ fX8_looked_82 N f' (nI n) (nI (40 * s + i)) (nI (40 * s + (i + 3 * k))) ρ = fX8_looked_165 N N (nI n) (nI (40 * s + i)) (nI (40 * s + i)) (zsi ρ 0 1 0))
  | 0, f + 1, f' + 1, k, _, _, hk => by
    have e3 : nI (40 * s + i) + (3 : Int32) * nI n = nI (40 * s + i + 3 * n) := by
      show nI (40 * s + i) + nI 3 * nI n = _
      rw [pk_mul, nI_add]
    refine Or.inr ⟨fun k' h1 h2 => by omega, ?_, ?_⟩
    · rw [fX7_looked_65, if_pos (nI_le (by omega) (by omega))]
    · rw [fX8_looked_82, e3, if_pos (nI_le (by omega) (by omega)), zpf_eq]
  | g + 1, f + 1, f' + 1, k, hf, hf', hk => by
    have e3 : nI i + (3 : Int32) * nI k = nI (i + 3 * k) := by
      show nI i + nI 3 * nI k = _
      rw [pk_mul, nI_add]
    rw [fX7_looked_65, if_neg (nI_ge (by omega) (by omega)), e3, nI_1]
    rcases zlook1 (N := N) (s := s) (p := i + 3 * k) (P0 := 40 * s + i) (n := n) hc hm ho hs (by omega) hS (by omega) (by omega) with ⟨z1, z2⟩ | ⟨z0, z1, z2⟩
    · rw [z1, zbnd_some, if_pos rfl, z2]
      exact Or.inl ⟨rfl, rfl⟩
    · rw [z1, zbnd_some, if_neg (show ¬ (1 : Int32) = 0 by decide), z2, show 40 * s + (i + 3 * k) + 3 = 40 * s + (i + 3 * (k + 1)) by omega]
      rcases zlook_chk (N := N) hc hm ho hs hi hS g f f' (k + 1) (by omega) (by omega) (by omega) with h | ⟨h1, h2, h3⟩
      · exact Or.inl h
      · refine Or.inr ⟨fun k' q1 q2 => ?_, h2, h3⟩
        by_cases w : k' = k
        · rw [w]; exact z0
        · exact h1 k' (by omega) q2
theorem zlook_tell {N s i n : Nat} (hs : s < 8) (hi : i + 3 * n ≤ 40) : ∀ (g f f' k : Nat) (a : zA) (σ ρ : zSt), g < f → g < f' → k + g = n → zOk a → zCN σ a → zMN ρ a → (∀ i, i < 320 → σ.1 2 i = ρ.1 3 i) → (∀ k', k ≤ k' → k' < n → zgd a (σ.1 2) (40 * s + (i + 3 * k'))) → ∃ (a' : zA) (τ υ : zSt), fX7_looked_97 N f (nI s) (nI i) (nI n) (nI k) σ = some (nI n, zsi τ 0 7 0) ∧ fX8_looked_165 N f' (nI n) (nI (40 * s + i)) (nI (40 * s + (i + 3 * k))) ρ = some (nI n, υ) ∧ zOk a' ∧ zCN τ a' ∧ zMN υ a' ∧ a' 0 = a 0 ∧ (∀ c, c ≠ 10 → c ≠ 11 → τ.1 c = σ.1 c) ∧ (∀ c, c ≠ 6 → c ≠ 7 → υ.1 c = ρ.1 c)
  | 0, f + 1, f' + 1, k, a, σ, ρ, _, _, hk, ho, hc, hm, _, _ => by
    have e3 : nI (40 * s + i) + (3 : Int32) * nI n = nI (40 * s + i + 3 * n) := by
      show nI (40 * s + i) + nI 3 * nI n = _
      rw [pk_mul, nI_add]
    refine ⟨a, σ, ρ, ?_, ?_, ho, hc, hm, rfl, fun _ _ _ => rfl, fun _ _ _ => rfl⟩
    · unfold fX7_looked_97 fX7_unfound
      rw [if_pos (nI_le (by omega) (by omega)), zpf_eq, zbnd_some]
    · rw [fX8_looked_165, e3, if_pos (nI_le (by omega) (by omega))]
  | g + 1, f + 1, f' + 1, k, a, σ, ρ, hf, hf', hk, ho, hc, hm, hS, hG => by
    have h20 := ho.1
    obtain ⟨m, d, e, v1, v2, v3, v4, v5, v6, v7⟩ := hG k (by omega) (by omega)
    have e3 : nI i + (3 : Int32) * nI k = nI (i + 3 * k) := by
      show nI i + nI 3 * nI k = _
      rw [pk_mul, nI_add]
    have e4 : nI (40 * s + i) + (3 : Int32) * nI n = nI (40 * s + i + 3 * n) := by
      show nI (40 * s + i) + nI 3 * nI n = _
      rw [pk_mul, nI_add]
    have u1 : nI (i + 3 * k) + (1 : Int32) = nI (i + 3 * k + 1) := nI_1 _
    have u2 : nI (i + 3 * k) + (2 : Int32) = nI (i + 3 * k + 2) := nI_add _ 2
    have t1 : nI (40 * s + (i + 3 * k)) + (1 : Int32) = nI (40 * s + (i + 3 * k) + 1) := nI_1 _
    have t2 : nI (40 * s + (i + 3 * k)) + (2 : Int32) = nI (40 * s + (i + 3 * k) + 2) := nI_add _ 2
    have t3 : nI (40 * s + (i + 3 * k)) + (3 : Int32) = nI (40 * s + (i + 3 * (k + 1))) := by
      rw [show (3 : Int32) = nI 3 from rfl, nI_add]; congr 1
    have r1 : ρ.1 3 (40 * s + (i + 3 * k)) = nI m := (hS _ (by omega)).symm.trans v1
    have r2 : ρ.1 3 (40 * s + (i + 3 * k) + 1) = nI d := (hS _ (by omega)).symm.trans v4
    have r3 : ρ.1 3 (40 * s + (i + 3 * k) + 2) = nI e := (hS _ (by omega)).symm.trans v6
    have v4 : σ.1 2 (40 * s + (i + 3 * k + 1)) = nI d := v4
    have v6 : σ.1 2 (40 * s + (i + 3 * k + 2)) = nI e := v6
    have hcell : fX7_tellLook N (nI s) (nI (i + 3 * k)) σ = some ((), zsi (zsi σ 10 m (nI d)) 11 m (nI e)) := by
      have v6' : (zsi σ 10 m (nI d)).1 2 (40 * s + (i + 3 * k + 2)) = nI e := v6
      unfold fX7_tellLook
      rw [zcitem hs (by omega), zbnd_some, v1, zcground1 hc ho v2 v3, zbnd_some, if_neg (show ¬ (1 : Int32) = 0 by decide), u1, zcitem hs (by omega), zbnd_some, v4, zas_nI (by omega) (by omega), u2, zcitem hs (by omega), zbnd_some, v6', zas_nI (by omega) (by omega)]
    have ho2 : zOk (zup (zup a 3 (zu1 (a 3) m d)) 4 (zu1 (a 4) m e)) := by
      refine ⟨ho.1, ho.2.1, ho.2.2.1, fun n hn => ?_, ho.2.2.2.2⟩
      obtain ⟨q1, q2, q3, q4, q5⟩ := ho.2.2.2.1 n hn
      refine ⟨q1, q2, ?_, ?_, q5⟩
      · show (if n = m then d else a 3 n) ≤ 9999
        split <;> omega
      · show (if n = m then e else a 4 n) ≤ 9999
        split <;> omega
    have hc2 : zCN (zsi (zsi σ 10 m (nI d)) 11 m (nI e)) (zup (zup a 3 (zu1 (a 3) m d)) 4 (zu1 (a 4) m e)) := by
      refine ⟨hc.1, hc.2.1, hc.2.2.1, fun n hn => ?_, hc.2.2.2.2⟩
      obtain ⟨q1, q2, q3⟩ := hc.2.2.2.1 n hn
      refine ⟨q1, q2, fun hg => ?_⟩
      obtain ⟨p1, p2, p3⟩ := q3 hg
      refine ⟨p1, ?_, ?_⟩
      · show (zsi σ 10 m (nI d)).1 10 n = nI (if n = m then d else a 3 n)
        by_cases z : n = m
        · rw [if_pos z, z, zsi_s]
        · rw [if_neg z, zsi_o z]; exact p2
      · show (zsi (zsi σ 10 m (nI d)) 11 m (nI e)).1 11 n = nI (if n = m then e else a 4 n)
        by_cases z : n = m
        · rw [if_pos z, z, zsi_s]
        · rw [if_neg z, zsi_o z]; exact p3
    have hm2 : zMN (zsi (zsi ρ 6 m (nI d)) 7 m (nI e)) (zup (zup a 3 (zu1 (a 3) m d)) 4 (zu1 (a 4) m e)) := by
      refine ⟨hm.1, hm.2.1, hm.2.2.1, fun n hn => ?_, hm.2.2.2.2⟩
      obtain ⟨q1, q2, q3, q4⟩ := hm.2.2.2.1 n hn
      refine ⟨q1, q2, fun hg => ?_, fun hg => ?_⟩
      · obtain ⟨p1, p2, p3⟩ := q3 hg
        refine ⟨p1, ?_, ?_⟩
        · show (zsi ρ 6 m (nI d)).1 6 n = nI (if n = m then d else a 3 n)
          by_cases z : n = m
          · rw [if_pos z, z, zsi_s]
          · rw [if_neg z, zsi_o z]; exact p2
        · show (zsi (zsi ρ 6 m (nI d)) 7 m (nI e)).1 7 n = nI (if n = m then e else a 4 n)
          by_cases z : n = m
          · rw [if_pos z, z, zsi_s]
          · rw [if_neg z, zsi_o z]; exact p3
      · have hg : a 1 n = 2 := hg
        have z : n ≠ m := fun z => by rw [z] at hg; omega
        obtain ⟨p1, p2, p3⟩ := q4 hg
        refine ⟨p1, ?_, ?_⟩
        · show (zsi ρ 6 m (nI d)).1 6 n = -1000000
          rw [zsi_o z]; exact p2
        · show (zsi (zsi ρ 6 m (nI d)) 7 m (nI e)).1 7 n = -1000000
          rw [zsi_o z]; exact p3
    obtain ⟨a', τ, υ, y1, y2, y3, y4, y5, y6, y7, y8⟩ := zlook_tell (N := N) hs hi g f f' (k + 1) _ _ _ (by omega) (by omega) (by omega) ho2 hc2 hm2 hS (fun k' q1 q2 => hG k' (by omega) q2)
    have r1' : (zsi ρ 6 m (nI d)).1 3 (40 * s + (i + 3 * k)) = nI m := r1
    have r3' : (zsi ρ 6 m (nI d)).1 3 (40 * s + (i + 3 * k) + 2) = nI e := r3
    refine ⟨a', τ, υ, ?_, ?_, y3, y4, y5, y6, fun c q1 q2 => (y7 c q1 q2).trans (by rw [zsi_c q2, zsi_c q1]), fun c q1 q2 => (y8 c q1 q2).trans (by rw [zsi_c q2, zsi_c q1])⟩
    · rw [fX7_looked_97, if_neg (nI_ge (by omega) (by omega)), e3, hcell, zbnd_some, nI_1]
      exact y1
    · rw [fX8_looked_165, e4, if_neg (nI_ge (by omega) (by omega)), zag_nI (by omega) (by omega), r1, t1, zag_nI (by omega) (by omega), r2, zas_nI (by omega) (by omega), zag_nI (by omega) (by omega), r1', t2, zag_nI (by omega) (by omega), r3', zas_nI (by omega) (by omega), t3]
      exact y2
theorem zp_looked {N : Nat} (hN : 600000 ≤ N) (x y z : Int32) : zP2 (fX7_looked N x y z) (fX8_looked N x y z) := by
  intro σ ρ hR
  have hR2 := zR_keep hR zKC_rfl (zKM_thr (σ := ρ))
  have hR' := hR2
  obtain ⟨a, ho, hc, hm, hW, hS, hT, hF, hA⟩ := hR'
  have e1 : (1 : Int64) = (1 : Int32).toInt64 := by decide
  have e8 : (8 : Int64) = (8 : Int32).toInt64 := by decide
  have found : ∀ v, zR (zsi σ 0 7 v) (zsi (zsi ρ 0 0 0) 0 1 v) := fun v => zR_sheet hR2 (fun k q _ _ _ => zsi_c q) (zsi_o (by decide)) (fun k q _ _ _ => by rw [zsi_c q]) (fun i q1 q2 => by rw [zsi_o q2]) hS (by rw [zsi_s, zsi_s])
  unfold fX7_looked fX8_looked
  rw [zpf_eq]
  rcases zsheet2 (N := N) x with ⟨s, hs, e, c1, c2⟩ | ⟨c1, c2⟩
  · rw [c1, c2, zbnd_some, zbnd_some, if_neg (show ¬ (1 : Int32) = 0 by decide), if_neg (show ¬ (1 : Int32) = 0 by decide), e8, e1, zinM]
    rcases zwin18 (N := N) z with ⟨n, n1, n8, en, q⟩ | q
    · rw [q, q, zbnd_some, zbnd_some, if_neg (show ¬ (1 : Int32) = 0 by decide), if_neg (show ¬ (1 : Int32) = 0 by decide), e, en, zag_nI (by omega) (by omega)]
      unfold fX3_isMissing
      rw [zag_nI (by omega) (by omega)]
      rcases hS.1 s hs with ⟨d1, d2⟩ | ⟨l, sz, hl, hsz, d1, d2, d3, d4⟩
      · rw [d1, d2, if_pos rfl, zrz_1, zbnd_some, if_neg (show ¬ (1 : Int32) = 0 by decide), if_neg (show ¬ (0 : Int32) ≤ -1 by decide)]
        unfold fX7_found fX8_finding
        rw [zpf_eq, zpf_eq, zbnd_some, zbnd_some]
        exact ⟨_, _, _, rfl, rfl, found 1⟩
      · have nm : ¬ nI sz = (-1 : Int32) := fun z => by
          have := nI_pos (n := sz) (by omega)
          rw [z] at this
          exact absurd (by decide) this
        have em : (3 : Int32) * nI n = nI (3 * n) := pk_mul 3 n
        rw [d3, d2, if_neg nm, zrz_0, zbnd_some, if_pos rfl, if_pos (nI_pos' (by omega)), em]
        rcases zplaces (N := N) (s := s) (n := sz) (m := 3 * n) (x := y) (σ := σ) hs hsz (by omega) d3 with ⟨i, hi, ei, p⟩ | ⟨hx, p⟩
        · have lg : (nI i).toInt64 + (nI (3 * n)).toInt64 ≤ (nI sz).toInt64 := by
            rw [nI_l (by omega), nI_l (by omega), nI_l (by omega), ← iL_nat, ← iL_nat, ← iL_nat, iL_add, iL_le (by unfold zB62; omega) (by unfold zB62; omega)]
            omega
          rw [p, zbnd_some, if_neg (show ¬ (1 : Int32) = 0 by decide), ei, if_neg (nI_pos (by omega)), zag_nI (by omega) (by omega), d4, if_pos lg, znm_eq, z40]
          rcases zlook_chk (N := N) (s := s) (i := i) (n := n) hc hm ho hs (by omega) hS.2 n N N 0 (by omega) (by omega) (by omega) with ⟨h1, h2⟩ | ⟨hG, h1, h2⟩
          · have h1 : fX7_looked_65 N N (nI s) (nI i) (nI n) 0 σ = some (-1000001, σ) := h1
            have h2 : fX8_looked_82 N N (nI n) (nI (40 * s + i)) (nI (40 * s + i)) (zsi ρ 0 0 0) = some (-1000001, zsi ρ 0 0 0) := h2
            rw [h1, h2]
            exact ⟨_, _, _, rfl, rfl, hR2⟩
          · have h1 : fX7_looked_65 N N (nI s) (nI i) (nI n) 0 σ = fX7_looked_97 N N (nI s) (nI i) (nI n) 0 σ := h1
            have h2 : fX8_looked_82 N N (nI n) (nI (40 * s + i)) (nI (40 * s + i)) (zsi ρ 0 0 0) = fX8_looked_165 N N (nI n) (nI (40 * s + i)) (nI (40 * s + i)) (zsi (zsi ρ 0 0 0) 0 1 0) := h2
            have hm' : zMN (zsi (zsi ρ 0 0 0) 0 1 0) a := zMN_fr hm (fun j h1 h2 => zsi_c (by omega)) (zsi_o (by decide)) (zsi_o (by decide)) (zsi_o (by decide))
            obtain ⟨a', τ, υ, y1, y2, y3, y4, y5, y6, y7, y8⟩ := zlook_tell (N := N) (s := s) (i := i) (n := n) hs (by omega) n N N 0 a σ (zsi (zsi ρ 0 0 0) 0 1 0) (by omega) (by omega) (by omega) ho hc hm' hS.2 hG
            have y1 : fX7_looked_97 N N (nI s) (nI i) (nI n) 0 σ = some (nI n, zsi τ 0 7 0) := y1
            have y2 : fX8_looked_165 N N (nI n) (nI (40 * s + i)) (nI (40 * s + i)) (zsi (zsi ρ 0 0 0) 0 1 0) = some (nI n, υ) := y2
            rw [h1, h2, y1, y2]
            have tc : ∀ c, c ≠ 0 → c ≠ 10 → c ≠ 11 → (zsi τ 0 7 0).1 c = σ.1 c := fun c q0 q1 q2 => by rw [zsi_c q0]; exact y7 c q1 q2
            have uc : ∀ c, c ≠ 0 → c ≠ 6 → c ≠ 7 → υ.1 c = (zsi ρ 0 0 0).1 c := fun c q0 q1 q2 => by rw [y8 c q1 q2, zsi_c q0]
            have u0 : ∀ i, i ≠ 1 → υ.1 0 i = (zsi ρ 0 0 0).1 0 i := fun i q1 => by rw [y8 0 (by decide) (by decide), zsi_o q1]
            refine ⟨_, _, _, rfl, rfl, ⟨a', y3, zCN_fr y4 (fun k q1 q2 => zsi_c (by omega)), y5, ?_, ?_, ?_, ?_, ?_⟩⟩
            · obtain ⟨cnt, lo, hi, has, nd, w1, w2, w3⟩ := hW
              obtain ⟨p1, p2, p3, p4, p5⟩ := w1
              obtain ⟨g1, g2, g3⟩ := w2
              refine ⟨cnt, lo, hi, has, nd, ⟨p1, ?_, fun k hk => ?_, fun j hj => ?_, p5⟩, ⟨g1, ?_, fun k hk => ?_⟩, fun k hk => ?_⟩
              · rw [tc 23 (by decide) (by decide) (by decide)]; exact p2
              · rw [tc 25 (by decide) (by decide) (by decide), tc 26 (by decide) (by decide) (by decide)]; exact p3 k hk
              · rw [tc 27 (by decide) (by decide) (by decide), tc 28 (by decide) (by decide) (by decide)]; exact p4 j hj
              · rw [u0 31 (by decide)]; exact g2
              · rw [uc 16 (by decide) (by decide) (by decide), uc 17 (by decide) (by decide) (by decide), uc 18 (by decide) (by decide) (by decide)]; exact g3 k hk
              · rw [tc 24 (by decide) (by decide) (by decide), uc 15 (by decide) (by decide) (by decide), y6]; exact w3 k hk
            · unfold zRS
              rw [tc 2 (by decide) (by decide) (by decide), tc 3 (by decide) (by decide) (by decide), tc 4 (by decide) (by decide) (by decide), uc 1 (by decide) (by decide) (by decide), uc 2 (by decide) (by decide) (by decide), uc 3 (by decide) (by decide) (by decide)]
              exact hS
            · unfold zRT
              rw [tc 5 (by decide) (by decide) (by decide), tc 6 (by decide) (by decide) (by decide), u0 20 (by decide), uc 14 (by decide) (by decide) (by decide)]
              exact hT
            · refine ⟨?_, ?_⟩
              · rw [zsi_o (by decide), y7 0 (by decide) (by decide), u0 21 (by decide)]
                exact hF.1
              · rw [zsi_s, y8 0 (by decide) (by decide), zsi_s]
            · unfold zRA
              rw [tc 33 (by decide) (by decide) (by decide), tc 34 (by decide) (by decide) (by decide), u0 45 (by decide), uc 22 (by decide) (by decide) (by decide)]
              exact hA
        · unfold fX7_found fX8_looked_64 fX8_finding
          rw [p, zbnd_some, if_pos rfl, zpf_eq, zbnd_some]
          rcases hx with hx | ⟨k, hk, ek, hgt⟩
          · rw [if_pos hx, zpf_eq, zbnd_some]
            exact ⟨_, _, _, rfl, rfl, found 2⟩
          · have lg : ¬ (nI k).toInt64 + (nI (3 * n)).toInt64 ≤ (nI sz).toInt64 := by
              rw [nI_l (by omega), nI_l (by omega), nI_l (by omega), ← iL_nat, ← iL_nat, ← iL_nat, iL_add, iL_le (by unfold zB62; omega) (by unfold zB62; omega)]
              omega
            rw [ek, if_neg (nI_pos hk), zag_nI (by omega) (by omega), d4, if_neg lg, zpf_eq, zbnd_some]
            exact ⟨_, _, _, rfl, rfl, found 2⟩
    · rw [q, q, zbnd_some, zbnd_some, if_pos rfl, if_pos rfl]
      exact ⟨_, _, _, rfl, rfl, hR2⟩
  · rw [c1, c2, zbnd_some, zbnd_some, if_pos rfl, if_pos rfl]
    exact ⟨_, _, _, rfl, rfl, hR2⟩
