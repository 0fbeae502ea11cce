/-- the cells of world C -/
def zcC (ad : Nat → Nat) (ca : Nat → ClassId) : zSh := fun k f g => match k with
  | 0 => (ad 0, .inr (7, [.ref (ad 1), .ref (ad 5), .ref (ad 7), .ref (ad 21), .ref (ad 23), .ref (ad 33), .int (f 6), .int (f 7)]))
  | 1 => (ad 1, .inr (3, [.ref (ad 2), .ref (ad 3), .ref (ad 4)]))
  | 2 => (ad 2, .inl (ca 0, 320, .inl f))
  | 3 => (ad 3, .inl (ca 0, 8, .inl f))
  | 4 => (ad 4, .inl (ca 0, 8, .inl f))
  | 5 => (ad 5, .inr (5, [.ref (ad 6), .int (f 1), .int (f 2), .int (f 3), .int (f 4), .int (f 5)]))
  | 6 => (ad 6, .inl (ca 1, 400, .inl f))
  | 7 => (ad 7, .inr (2, [.int (f 0), .int (f 1), .int (f 2), .ref (ad 8), .ref (ad 9), .ref (ad 10), .ref (ad 11), .ref (ad 12), .ref (ad 13), .ref (ad 14), .ref (ad 15), .ref (ad 16), .ref (ad 17), .ref (ad 18), .ref (ad 19), .ref (ad 20)]))
  | 8 => (ad 8, .inl (ca 0, 20, .inl f))
  | 9 => (ad 9, .inl (ca 0, 20, .inl f))
  | 10 => (ad 10, .inl (ca 0, 20, .inl f))
  | 11 => (ad 11, .inl (ca 0, 20, .inl f))
  | 12 => (ad 12, .inl (ca 0, 20, .inl f))
  | 13 => (ad 13, .inl (ca 0, 16, .inl f))
  | 14 => (ad 14, .inl (ca 0, 16, .inl f))
  | 15 => (ad 15, .inl (ca 0, 16, .inl f))
  | 16 => (ad 16, .inl (ca 0, 16, .inl f))
  | 17 => (ad 17, .inl (ca 0, 96, .inl f))
  | 18 => (ad 18, .inl (ca 0, 16, .inl f))
  | 19 => (ad 19, .inl (ca 0, 48, .inl f))
  | 20 => (ad 20, .inl (ca 0, 20, .inl f))
  | 21 => (ad 21, .inr (1, [.ref (ad 22), .int (f 1), .int (f 2), .int (f 3), .int (f 4), .int (f 5)]))
  | 22 => (ad 22, .inl (ca 0, 20, .inl f))
  | 23 => (ad 23, .inr (6, [.int (f 0), .ref (ad 24), .ref (ad 25), .ref (ad 26), .ref (ad 27), .ref (ad 28), .ref (ad 29), .long (g 7), .long (g 8)]))
  | 24 => (ad 24, .inl (ca 0, 3, .inl f))
  | 25 => (ad 25, .inl (ca 0, 3, .inl f))
  | 26 => (ad 26, .inl (ca 0, 3, .inl f))
  | 27 => (ad 27, .inl (ca 0, 3, .inl f))
  | 28 => (ad 28, .inl (ca 0, 3, .inl f))
  | 29 => (ad 29, .inr (4, [.ref (ad 30), .ref (ad 31), .ref (ad 32), .int (f 3), .int (f 4), .long (g 5)]))
  | 30 => (ad 30, .inl (ca 4, 15, .inr (.inr (.inr (.inr (fun j => some (ad (35 + j))))))))
  | 31 => (ad 31, .inl (ca 0, 15, .inl f))
  | 32 => (ad 32, .inl (ca 0, 8, .inl f))
  | 33 => (ad 33, .inr (0, [.ref (ad 34), .int (f 1), .int (f 2)]))
  | 34 => (ad 34, .inl (ca 0, 16, .inl f))
  | 35 => (ad 35, .inl (ca 2, 9, .inr (.inl g)))
  | 36 => (ad 36, .inl (ca 2, 9, .inr (.inl g)))
  | 37 => (ad 37, .inl (ca 2, 9, .inr (.inl g)))
  | 38 => (ad 38, .inl (ca 2, 9, .inr (.inl g)))
  | 39 => (ad 39, .inl (ca 2, 9, .inr (.inl g)))
  | 40 => (ad 40, .inl (ca 2, 9, .inr (.inl g)))
  | 41 => (ad 41, .inl (ca 2, 9, .inr (.inl g)))
  | 42 => (ad 42, .inl (ca 2, 9, .inr (.inl g)))
  | 43 => (ad 43, .inl (ca 2, 9, .inr (.inl g)))
  | 44 => (ad 44, .inl (ca 2, 9, .inr (.inl g)))
  | 45 => (ad 45, .inl (ca 2, 9, .inr (.inl g)))
  | 46 => (ad 46, .inl (ca 2, 9, .inr (.inl g)))
  | 47 => (ad 47, .inl (ca 2, 9, .inr (.inl g)))
  | 48 => (ad 48, .inl (ca 2, 9, .inr (.inl g)))
  | 49 => (ad 49, .inl (ca 2, 9, .inr (.inl g)))
  | k => (ad k, .inl (ca 0, 0, .inl f))
abbrev zwC (ad : Nat → Nat) (ca : Nat → ClassId) : zSt → va_W := zlay (zcC ad ca) 50
theorem zcC_ad (ad : Nat → Nat) (ca : Nat → ClassId) (k : Nat) (f : Nat → Int32) (g : Nat → Int64) : (zcC ad ca k f g).1 = ad k := by
  unfold zcC
  split <;> rfl
theorem zcC_row {ad : Nat → Nat} {ca : Nat → ClassId} {r : Nat} (h : r < 15) (f : Nat → Int32) (g : Nat → Int64) : zcC ad ca (35 + r) f g = (ad (35 + r), .inl (ca 2, 9, .inr (.inl g))) := by
  rcases (show r = 0 ∨ r = 1 ∨ r = 2 ∨ r = 3 ∨ r = 4 ∨ r = 5 ∨ r = 6 ∨ r = 7 ∨ r = 8 ∨ r = 9 ∨ r = 10 ∨ r = 11 ∨ r = 12 ∨ r = 13 ∨ r = 14 by omega) with rfl | rfl | rfl | rfl | rfl | rfl | rfl | rfl | rfl | rfl | rfl | rfl | rfl | rfl | rfl <;> rfl
theorem zcC_rc0 {ad : Nat → Nat} {ca : Nat → ClassId} {σ : zSt} : ∃ (q0 ci : Nat) (fs : List Value) (T : u_T) (N : Nat), (zwC ad ca σ)[q0]? = some (ad 0, .inr (ci, fs)) ∧ vwCl[ci]? = some (RX7, T, N) := ⟨0, 7, _, TX7, 8, zlay_get (by decide), rfl⟩
theorem zcC_rc1 {ad : Nat → Nat} {ca : Nat → ClassId} {σ : zSt} : ∃ (q0 ci : Nat) (fs : List Value) (T : u_T) (N : Nat), (zwC ad ca σ)[q0]? = some (ad 1, .inr (ci, fs)) ∧ vwCl[ci]? = some (RX3, T, N) := ⟨1, 3, _, TX3, 3, zlay_get (by decide), rfl⟩
theorem zcC_rc5 {ad : Nat → Nat} {ca : Nat → ClassId} {σ : zSt} : ∃ (q0 ci : Nat) (fs : List Value) (T : u_T) (N : Nat), (zwC ad ca σ)[q0]? = some (ad 5, .inr (ci, fs)) ∧ vwCl[ci]? = some (RX5, T, N) := ⟨5, 5, _, TX5, 6, zlay_get (by decide), rfl⟩
theorem zcC_rc7 {ad : Nat → Nat} {ca : Nat → ClassId} {σ : zSt} : ∃ (q0 ci : Nat) (fs : List Value) (T : u_T) (N : Nat), (zwC ad ca σ)[q0]? = some (ad 7, .inr (ci, fs)) ∧ vwCl[ci]? = some (RX2, T, N) := ⟨7, 2, _, TX2, 16, zlay_get (by decide), rfl⟩
theorem zcC_rc21 {ad : Nat → Nat} {ca : Nat → ClassId} {σ : zSt} : ∃ (q0 ci : Nat) (fs : List Value) (T : u_T) (N : Nat), (zwC ad ca σ)[q0]? = some (ad 21, .inr (ci, fs)) ∧ vwCl[ci]? = some (RX1, T, N) := ⟨21, 1, _, TX1, 6, zlay_get (by decide), rfl⟩
theorem zcC_rc23 {ad : Nat → Nat} {ca : Nat → ClassId} {σ : zSt} : ∃ (q0 ci : Nat) (fs : List Value) (T : u_T) (N : Nat), (zwC ad ca σ)[q0]? = some (ad 23, .inr (ci, fs)) ∧ vwCl[ci]? = some (RX6, T, N) := ⟨23, 6, _, TX6, 9, zlay_get (by decide), rfl⟩
theorem zcC_rc29 {ad : Nat → Nat} {ca : Nat → ClassId} {σ : zSt} : ∃ (q0 ci : Nat) (fs : List Value) (T : u_T) (N : Nat), (zwC ad ca σ)[q0]? = some (ad 29, .inr (ci, fs)) ∧ vwCl[ci]? = some (RX4, T, N) := ⟨29, 4, _, TX4, 6, zlay_get (by decide), rfl⟩
theorem zcC_rc33 {ad : Nat → Nat} {ca : Nat → ClassId} {σ : zSt} : ∃ (q0 ci : Nat) (fs : List Value) (T : u_T) (N : Nat), (zwC ad ca σ)[q0]? = some (ad 33, .inr (ci, fs)) ∧ vwCl[ci]? = some (RX0, T, N) := ⟨33, 0, _, TX0, 3, zlay_get (by decide), rfl⟩
/-- the cells of world M -/
def zcM (ad : Nat → Nat) (ca : Nat → ClassId) : zSh := fun k f g => match k with
  | 0 => (ad 0, .inr (8, [.int (f 0), .int (f 1), .ref (ad 1), .ref (ad 2), .ref (ad 3), .int (f 5), .int (f 6), .int (f 7), .int (f 8), .ref (ad 4), .ref (ad 5), .ref (ad 6), .ref (ad 7), .ref (ad 8), .ref (ad 9), .ref (ad 10), .ref (ad 11), .ref (ad 12), .ref (ad 13), .ref (ad 14), .int (f 20), .int (f 21), .int (f 22), .int (f 23), .int (f 24), .int (f 25), .int (f 26), .int (f 27), .int (f 28), .int (f 29), .int (f 30), .int (f 31), .ref (ad 15), .ref (ad 16), .ref (ad 17), .ref (ad 18), .int (f 36), .int (f 37), .long (g 38), .ref (ad 19), .ref (ad 20), .ref (ad 21), .long (g 42), .long (g 43), .ref (ad 22), .int (f 45)]))
  | 1 => (ad 1, .inl (ca 0, 8, .inl f))
  | 2 => (ad 2, .inl (ca 0, 8, .inl f))
  | 3 => (ad 3, .inl (ca 0, 320, .inl f))
  | 4 => (ad 4, .inl (ca 0, 20, .inl f))
  | 5 => (ad 5, .inl (ca 0, 20, .inl f))
  | 6 => (ad 6, .inl (ca 0, 20, .inl f))
  | 7 => (ad 7, .inl (ca 0, 20, .inl f))
  | 8 => (ad 8, .inl (ca 3, 20, .inl f))
  | 9 => (ad 9, .inl (ca 0, 16, .inl f))
  | 10 => (ad 10, .inl (ca 0, 16, .inl f))
  | 11 => (ad 11, .inl (ca 0, 16, .inl f))
  | 12 => (ad 12, .inl (ca 0, 96, .inl f))
  | 13 => (ad 13, .inl (ca 0, 48, .inl f))
  | 14 => (ad 14, .inl (ca 0, 400, .inl f))
  | 15 => (ad 15, .inl (ca 0, 3, .inl f))
  | 16 => (ad 16, .inl (ca 3, 6, .inl f))
  | 17 => (ad 17, .inl (ca 0, 6, .inl f))
  | 18 => (ad 18, .inl (ca 0, 6, .inl f))
  | 19 => (ad 19, .inl (ca 2, 112, .inr (.inl g)))
  | 20 => (ad 20, .inl (ca 0, 14, .inl f))
  | 21 => (ad 21, .inl (ca 0, 8, .inl f))
  | 22 => (ad 22, .inl (ca 0, 16, .inl f))
  | k => (ad k, .inl (ca 0, 0, .inl f))
abbrev zwM (ad : Nat → Nat) (ca : Nat → ClassId) : zSt → va_W := zlay (zcM ad ca) 23
theorem zcM_ad (ad : Nat → Nat) (ca : Nat → ClassId) (k : Nat) (f : Nat → Int32) (g : Nat → Int64) : (zcM ad ca k f g).1 = ad k := by
  unfold zcM
  split <;> rfl
theorem zcM_rc0 {ad : Nat → Nat} {ca : Nat → ClassId} {σ : zSt} : ∃ (q0 ci : Nat) (fs : List Value) (T : u_T) (N : Nat), (zwM ad ca σ)[q0]? = some (ad 0, .inr (ci, fs)) ∧ vwCl[ci]? = some (RX8, T, N) := ⟨0, 8, _, TX8, 46, zlay_get (by decide), rfl⟩
theorem zinX0 : ∀ w ∈ u_ws RX0 TX0 3, w ∈ zlwg := by decide +kernel
theorem zinX1 : ∀ w ∈ u_ws RX1 TX1 6, w ∈ zlwg := by decide +kernel
theorem zinX2 : ∀ w ∈ u_ws RX2 TX2 16, w ∈ zlwg := by decide +kernel
theorem zinX3 : ∀ w ∈ u_ws RX3 TX3 3, w ∈ zlwg := by decide +kernel
theorem zinX4 : ∀ w ∈ u_ws RX4 TX4 6, w ∈ zlwg := by decide +kernel
theorem zinX5 : ∀ w ∈ u_ws RX5 TX5 6, w ∈ zlwg := by decide +kernel
theorem zinX6 : ∀ w ∈ u_ws RX6 TX6 9, w ∈ zlwg := by decide +kernel
theorem zinX7 : ∀ w ∈ u_ws RX7 TX7 8, w ∈ zlwg := by decide +kernel
theorem zinX8 : ∀ w ∈ u_ws RX8 TX8 46, w ∈ zlwg := by decide +kernel
theorem zsw0_2 {x : Int32} (h0 : ¬ x = (0 : Int32)) (h1 : ¬ x = (1 : Int32)) (h2 : ¬ x = (2 : Int32)) : x.toInt < 0 ∨ 2 < x.toInt := by
  have g0 := lv_neT h0 (show (0 : Int32).toInt = 0 by decide)
  have g1 := lv_neT h1 (show (1 : Int32).toInt = 1 by decide)
  have g2 := lv_neT h2 (show (2 : Int32).toInt = 2 by decide)
  omega
theorem zsw0_4 {x : Int32} (h0 : ¬ x = (0 : Int32)) (h1 : ¬ x = (1 : Int32)) (h2 : ¬ x = (2 : Int32)) (h3 : ¬ x = (3 : Int32)) (h4 : ¬ x = (4 : Int32)) : x.toInt < 0 ∨ 4 < x.toInt := by
  have g0 := lv_neT h0 (show (0 : Int32).toInt = 0 by decide)
  have g1 := lv_neT h1 (show (1 : Int32).toInt = 1 by decide)
  have g2 := lv_neT h2 (show (2 : Int32).toInt = 2 by decide)
  have g3 := lv_neT h3 (show (3 : Int32).toInt = 3 by decide)
  have g4 := lv_neT h4 (show (4 : Int32).toInt = 4 by decide)
  omega
theorem zsw0_5 {x : Int32} (h0 : ¬ x = (0 : Int32)) (h1 : ¬ x = (1 : Int32)) (h2 : ¬ x = (2 : Int32)) (h3 : ¬ x = (3 : Int32)) (h4 : ¬ x = (4 : Int32)) (h5 : ¬ x = (5 : Int32)) : x.toInt < 0 ∨ 5 < x.toInt := by
  have g0 := lv_neT h0 (show (0 : Int32).toInt = 0 by decide)
  have g1 := lv_neT h1 (show (1 : Int32).toInt = 1 by decide)
  have g2 := lv_neT h2 (show (2 : Int32).toInt = 2 by decide)
  have g3 := lv_neT h3 (show (3 : Int32).toInt = 3 by decide)
  have g4 := lv_neT h4 (show (4 : Int32).toInt = 4 by decide)
  have g5 := lv_neT h5 (show (5 : Int32).toInt = 5 by decide)
  omega
theorem zsw0_7 {x : Int32} (h0 : ¬ x = (0 : Int32)) (h1 : ¬ x = (1 : Int32)) (h2 : ¬ x = (2 : Int32)) (h3 : ¬ x = (3 : Int32)) (h4 : ¬ x = (4 : Int32)) (h5 : ¬ x = (5 : Int32)) (h6 : ¬ x = (6 : Int32)) (h7 : ¬ x = (7 : Int32)) : x.toInt < 0 ∨ 7 < x.toInt := by
  have g0 := lv_neT h0 (show (0 : Int32).toInt = 0 by decide)
  have g1 := lv_neT h1 (show (1 : Int32).toInt = 1 by decide)
  have g2 := lv_neT h2 (show (2 : Int32).toInt = 2 by decide)
  have g3 := lv_neT h3 (show (3 : Int32).toInt = 3 by decide)
  have g4 := lv_neT h4 (show (4 : Int32).toInt = 4 by decide)
  have g5 := lv_neT h5 (show (5 : Int32).toInt = 5 by decide)
  have g6 := lv_neT h6 (show (6 : Int32).toInt = 6 by decide)
  have g7 := lv_neT h7 (show (7 : Int32).toInt = 7 by decide)
  omega
theorem zsw1_5 {x : Int32} (h0 : ¬ x = (1 : Int32)) (h1 : ¬ x = (2 : Int32)) (h2 : ¬ x = (3 : Int32)) (h3 : ¬ x = (4 : Int32)) (h4 : ¬ x = (5 : Int32)) : x.toInt < 1 ∨ 5 < x.toInt := by
  have g0 := lv_neT h0 (show (1 : Int32).toInt = 1 by decide)
  have g1 := lv_neT h1 (show (2 : Int32).toInt = 2 by decide)
  have g2 := lv_neT h2 (show (3 : Int32).toInt = 3 by decide)
  have g3 := lv_neT h3 (show (4 : Int32).toInt = 4 by decide)
  have g4 := lv_neT h4 (show (5 : Int32).toInt = 5 by decide)
  omega
theorem zsw3_5 {x : Int32} (h0 : ¬ x = (3 : Int32)) (h1 : ¬ x = (4 : Int32)) (h2 : ¬ x = (5 : Int32)) : x.toInt < 3 ∨ 5 < x.toInt := by
  have g0 := lv_neT h0 (show (3 : Int32).toInt = 3 by decide)
  have g1 := lv_neT h1 (show (4 : Int32).toInt = 4 by decide)
  have g2 := lv_neT h2 (show (5 : Int32).toInt = 5 by decide)
  omega
