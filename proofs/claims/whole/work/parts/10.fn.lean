/-- Preconditions.checkIndex: what it answers where it doesn't throw -/
def rmJ3_checkIndex_8e157 : Room := { frames := 0, cells := 0, slots := 0, locals := 0 }
def fJ3_checkIndex_8e157 (N : Nat) (x0 x1 : Int32) (σ : zSt) : Option (Int32 × zSt) := if x0 < 0 then none else if x0 < x1 then some (x0, σ) else none
def rmJ0_checkIndex_df160 : Room := { frames := 1, cells := 0, slots := 0, locals := 22 }
def fJ0_checkIndex_df160 (N : Nat) (x0 x1 : Int32) (σ : zSt) : Option (Unit × zSt) := zbnd (fJ3_checkIndex_8e157 N x0 x1 σ) (fun _ τ => some ((), τ))

def rmX3_isNumber : Room := { frames := 0, cells := 0, slots := 0, locals := 0 }
def fX3_isNumber (N : Nat) (x1 : Int32) (σ : zSt) : Option (Int32 × zSt) :=
  if x1 < 0 then zrz (0 : Int32) σ else if (8 : Int32) ≤ x1 then zrz (0 : Int32) σ else zrz (1 : Int32) σ
def rmX7_isWithin : Room := { frames := 0, cells := 0, slots := 0, locals := 0 }
def fX7_isWithin (N : Nat) (x0 : Int32) (x1 : Int32) (x2 : Int32) (σ : zSt) : Option (Int32 × zSt) :=
  if x0 < x1 then zrz (0 : Int32) σ else if x2 < x0 then zrz (0 : Int32) σ else zrz (1 : Int32) σ
def rmX7_found : Room := { frames := 0, cells := 0, slots := 0, locals := 0 }
def fX7_found (N : Nat) (x1 : Int32) (σ : zSt) : Option (Int32 × zSt) :=
  zpf σ 0 7 x1 (fun (σ1 : zSt) => some (((-1000010 : Int32) - x1), σ1))
def rmX3_lay : Room := { frames := 0, cells := 0, slots := 0, locals := 0 }
def fX3_lay_17 (N : Nat)  : Nat → Int32 → Int32 → zSt → Option (Unit × zSt)
  | 0, _, _, _ => none
  | n + 1, x1, x4, σ => if (40 : Int32) ≤ x4 then some ((), σ) else zas σ 2 320 ((x1 * (40 : Int32)) + x4) (0 : Int32) (fun (σ1 : zSt) => fX3_lay_17 N n x1 (x4 + (1 : Int32)) σ1)
def fX3_lay (N : Nat) (x1 : Int32) (x2 : Int32) (x3 : Int32) (σ : zSt) : Option (Unit × zSt) :=
  zas σ 3 8 x1 x2 (fun (σ1 : zSt) => zas σ1 4 8 x1 x3 (fun (σ2 : zSt) => fX3_lay_17 N N x1 (0 : Int32) σ2))
def rmX7_unfound : Room := { frames := 0, cells := 0, slots := 0, locals := 0 }
def fX7_unfound (N : Nat) (x1 : Int32) (σ : zSt) : Option (Int32 × zSt) :=
  zpf σ 0 7 (0 : Int32) (fun (σ1 : zSt) => some (x1, σ1))
def rmX7_sheet : Room := { frames := 1, cells := 0, slots := 0, locals := 24 }
def fX7_sheet (N : Nat) (x1 : Int32) (x2 : Int32) (x3 : Int32) (σ : zSt) : Option (Int32 × zSt) :=
  zbnd (fX3_isNumber N x1 σ) (fun (b1 : Int32) (σ2 : zSt) => if b1 = 0 then some ((-1000001 : Int32), σ2) else zbnd (fX7_isWithin N x2 (0 : Int32) (2 : Int32) σ2) (fun (b3 : Int32) (σ4 : zSt) => if b3 = 0 then some ((-1000001 : Int32), σ4) else if x3 ≤ (40 : Int32) then if 0 ≤ x3 then zbnd (fX3_lay N x1 x2 x3 σ4) (fun (b5 : Unit) (σ6 : zSt) => zbnd (fX7_unfound N x3 σ6) (fun (b7 : Int32) (σ8 : zSt) => some (b7, σ8))) else zbnd (fX7_found N (4 : Int32) σ4) (fun (b9 : Int32) (σ10 : zSt) => some (b9, σ10)) else some ((-1000001 : Int32), σ4)))
def rmX3_isMissing : Room := { frames := 0, cells := 0, slots := 0, locals := 0 }
def fX3_isMissing (N : Nat) (x1 : Int32) (σ : zSt) : Option (Int32 × zSt) :=
  zag σ 4 8 x1 (fun (v1 : Int32) => if v1 = (-1 : Int32) then zrz (1 : Int32) σ else zrz (0 : Int32) σ)
def rmX3_hasPlaces : Room := { frames := 0, cells := 0, slots := 0, locals := 0 }
def fX3_hasPlaces (N : Nat) (x1 : Int32) (x2 : Int32) (x3 : Int32) (σ : zSt) : Option (Int32 × zSt) :=
  if x2 < 0 then zrz (0 : Int32) σ else if x3 < 0 then zrz (0 : Int32) σ else zag σ 4 8 x1 (fun (v1 : Int32) => if (v1 - x2) < x3 then zrz (0 : Int32) σ else zrz (1 : Int32) σ)
def rmX3_put : Room := { frames := 0, cells := 0, slots := 0, locals := 0 }
def fX3_put_30 (N : Nat)  (x1 : Int32) (x2 : Int32) (x4 : Int32) (σ : zSt) : Option (Int32 × zSt) :=
  zas σ 2 320 ((x1 * (40 : Int32)) + x2) x4 (fun (σ1 : zSt) => some (x4, σ1))
def fX3_put_16 (N : Nat)  (x1 : Int32) (x2 : Int32) (x3 : Int32) (x4 : Int32) (σ : zSt) : Option (Int32 × zSt) :=
  zag σ 3 8 x1 (fun (v1 : Int32) => if v1 = (1 : Int32) then znm x3.toInt16.toInt32 (fun (v2 : Int32) => fX3_put_30 N x1 x2 v2 σ) else fX3_put_30 N x1 x2 x4 σ)
def fX3_put (N : Nat) (x1 : Int32) (x2 : Int32) (x3 : Int32) (σ : zSt) : Option (Int32 × zSt) :=
  zag σ 3 8 x1 (fun (v1 : Int32) => if v1 = 0 then znm x3.toInt8.toInt32 (fun (v2 : Int32) => fX3_put_16 N x1 x2 x3 v2 σ) else fX3_put_16 N x1 x2 x3 x3 σ)
def rmX7_set : Room := { frames := 1, cells := 0, slots := 0, locals := 24 }
def fX7_set (N : Nat) (x1 : Int32) (x2 : Int32) (x3 : Int32) (σ : zSt) : Option (Int32 × zSt) :=
  zbnd (fX3_isNumber N x1 σ) (fun (b1 : Int32) (σ2 : zSt) => if b1 = 0 then some ((-1000001 : Int32), σ2) else zbnd (fX3_isMissing N x1 σ2) (fun (b3 : Int32) (σ4 : zSt) => if b3 = 0 then zbnd (fX3_hasPlaces N x1 x2 (1 : Int32) σ4) (fun (b5 : Int32) (σ6 : zSt) => if b5 = 0 then zbnd (fX7_found N (2 : Int32) σ6) (fun (b7 : Int32) (σ8 : zSt) => some (b7, σ8)) else zbnd (fX3_put N x1 x2 x3 σ6) (fun (b9 : Int32) (σ10 : zSt) => zbnd (fX7_unfound N b9 σ10) (fun (b11 : Int32) (σ12 : zSt) => some (b11, σ12)))) else zbnd (fX7_found N (1 : Int32) σ4) (fun (b13 : Int32) (σ14 : zSt) => some (b13, σ14))))
def rmX3_areOfOneLane : Room := { frames := 0, cells := 0, slots := 0, locals := 0 }
def fX3_areOfOneLane (N : Nat) (x1 : Int32) (x2 : Int32) (σ : zSt) : Option (Int32 × zSt) :=
  zag σ 3 8 x1 (fun (v1 : Int32) => zag σ 3 8 x2 (fun (v2 : Int32) => if v1 = v2 then zrz (1 : Int32) σ else zrz (0 : Int32) σ))
def rmX3_move : Room := { frames := 1, cells := 0, slots := 0, locals := 60 }
def fX3_move (N : Nat) (x1 : Int32) (x2 : Int32) (x3 : Int32) (x4 : Int32) (x5 : Int32) (σ : zSt) : Option (Unit × zSt) :=
  zcp σ 2 320 ((x1 * (40 : Int32)) + x2) ((x3 * (40 : Int32)) + x4) x5 (fun (σ1 : zSt) => some ((), σ1))
def rmX7_copy : Room := { frames := 2, cells := 0, slots := 0, locals := 85 }
def fX7_copy_47 (N : Nat)   (σ : zSt) : Option (Int32 × zSt) :=
  zbnd (fX7_found N (1 : Int32) σ) (fun (b1 : Int32) (σ2 : zSt) => some (b1, σ2))
def fX7_copy_100 (N : Nat)   (σ : zSt) : Option (Int32 × zSt) :=
  zbnd (fX7_found N (2 : Int32) σ) (fun (b1 : Int32) (σ2 : zSt) => some (b1, σ2))
def fX7_copy (N : Nat) (x1 : Int32) (x2 : Int32) (x3 : Int32) (x4 : Int32) (x5 : Int32) (σ : zSt) : Option (Int32 × zSt) :=
  zbnd (fX3_isNumber N x1 σ) (fun (b1 : Int32) (σ2 : zSt) => if b1 = 0 then some ((-1000001 : Int32), σ2) else zbnd (fX3_isNumber N x3 σ2) (fun (b3 : Int32) (σ4 : zSt) => if b3 = 0 then some ((-1000001 : Int32), σ4) else zbnd (fX3_isMissing N x1 σ4) (fun (b5 : Int32) (σ6 : zSt) => if b5 = 0 then zbnd (fX3_isMissing N x3 σ6) (fun (b7 : Int32) (σ8 : zSt) => if b7 = 0 then zbnd (fX3_areOfOneLane N x1 x3 σ8) (fun (b9 : Int32) (σ10 : zSt) => if b9 = 0 then zbnd (fX7_found N (5 : Int32) σ10) (fun (b11 : Int32) (σ12 : zSt) => some (b11, σ12)) else zbnd (fX3_hasPlaces N x1 x2 x5 σ10) (fun (b13 : Int32) (σ14 : zSt) => if b13 = 0 then fX7_copy_100 N σ14 else zbnd (fX3_hasPlaces N x3 x4 x5 σ14) (fun (b15 : Int32) (σ16 : zSt) => if b15 = 0 then fX7_copy_100 N σ16 else zbnd (fX3_move N x1 x2 x3 x4 x5 σ16) (fun (b17 : Unit) (σ18 : zSt) => zbnd (fX7_unfound N x5 σ18) (fun (b19 : Int32) (σ20 : zSt) => some (b19, σ20)))))) else fX7_copy_47 N σ8) else fX7_copy_47 N σ6)))
def rmX3_takeAway : Room := { frames := 0, cells := 0, slots := 0, locals := 0 }
def fX3_takeAway (N : Nat) (x1 : Int32) (σ : zSt) : Option (Int32 × zSt) :=
  zag σ 4 8 x1 (fun (v1 : Int32) => zas σ 4 8 x1 (-1 : Int32) (fun (σ2 : zSt) => some (v1, σ2)))
def rmX7_drop : Room := { frames := 1, cells := 0, slots := 0, locals := 22 }
def fX7_drop (N : Nat) (x1 : Int32) (σ : zSt) : Option (Int32 × zSt) :=
  zbnd (fX3_isNumber N x1 σ) (fun (b1 : Int32) (σ2 : zSt) => if b1 = 0 then some ((-1000001 : Int32), σ2) else zbnd (fX3_isMissing N x1 σ2) (fun (b3 : Int32) (σ4 : zSt) => if b3 = 0 then zbnd (fX3_takeAway N x1 σ4) (fun (b5 : Int32) (σ6 : zSt) => zbnd (fX7_unfound N b5 σ6) (fun (b7 : Int32) (σ8 : zSt) => some (b7, σ8))) else zbnd (fX7_found N (1 : Int32) σ4) (fun (b9 : Int32) (σ10 : zSt) => some (b9, σ10))))
def rmX5_hasRoom : Room := { frames := 0, cells := 0, slots := 0, locals := 0 }
def fX5_hasRoom (N : Nat) (x1 : Int32) (σ : zSt) : Option (Int32 × zSt) :=
  if ((400 : Int32) - (σ.1 5 1)) < x1 then zrz (0 : Int32) σ else zrz (1 : Int32) σ
def rmX5_append : Room := { frames := 0, cells := 0, slots := 0, locals := 0 }
def fX5_append_5 (N : Nat)  : Nat → Int64 → Int32 → zSt → Option (Int32 × zSt)
  | 0, _, _, _ => none
  | n + 1, y1, x4, σ => if x4 < 0 then some ((σ.1 5 1), σ) else if (400 : Int32) ≤ (σ.1 5 1) then some ((σ.1 5 1), σ) else zas σ 6 400 (σ.1 5 1) (vp_nar .byte (y1 >>> (((8 : Int32) * x4).toInt64 &&& 63)).toInt32.toInt8.toInt32) (fun (σ1 : zSt) => zpf σ1 5 1 ((σ1.1 5 1) + (1 : Int32)) (fun (σ2 : zSt) => fX5_append_5 N n y1 (x4 + (-1 : Int32)) σ2))
def fX5_append (N : Nat) (y1 : Int64) (x3 : Int32) (σ : zSt) : Option (Int32 × zSt) :=
  znm (x3 - (1 : Int32)) (fun (v1 : Int32) => fX5_append_5 N N y1 v1 σ)
def rmX7_feed : Room := { frames := 1, cells := 0, slots := 0, locals := 24 }
def fX7_feed (N : Nat) (y1 : Int64) (x3 : Int32) (σ : zSt) : Option (Int32 × zSt) :=
  zbnd (fX7_isWithin N x3 (1 : Int32) (8 : Int32) σ) (fun (b1 : Int32) (σ2 : zSt) => if b1 = 0 then some ((-1000001 : Int32), σ2) else zbnd (fX5_hasRoom N x3 σ2) (fun (b3 : Int32) (σ4 : zSt) => if b3 = 0 then some ((-1000003 : Int32), σ4) else zbnd (fX5_append N y1 x3 σ4) (fun (b5 : Int32) (σ6 : zSt) => some (b5, σ6))))
def rmX5_sortAt : Room := { frames := 0, cells := 0, slots := 0, locals := 0 }
def fX5_sortAt_63 (N : Nat)  (x2 : Int32) (σ : zSt) : Option (Int32 × zSt) :=
  if x2 = (59 : Int32) then some ((3 : Int32), σ) else some ((5 : Int32), σ)
def fX5_sortAt_49 (N : Nat)  (x2 : Int32) (σ : zSt) : Option (Int32 × zSt) :=
  if x2 < (48 : Int32) then fX5_sortAt_63 N x2 σ else if (57 : Int32) < x2 then fX5_sortAt_63 N x2 σ else some ((2 : Int32), σ)
def fX5_sortAt (N : Nat) (x1 : Int32) (σ : zSt) : Option (Int32 × zSt) :=
  if x1 < 0 then some ((0 : Int32), σ) else if x1 < (σ.1 5 1) then zag σ 6 400 x1 (fun (v1 : Int32) => if v1 = (32 : Int32) then some ((4 : Int32), σ) else if v1 = (10 : Int32) then some ((4 : Int32), σ) else if v1 < (97 : Int32) then fX5_sortAt_49 N v1 σ else if (122 : Int32) < v1 then fX5_sortAt_49 N v1 σ else some ((1 : Int32), σ)) else some ((0 : Int32), σ)
def rmX5_takeWorth : Room := { frames := 0, cells := 0, slots := 0, locals := 0 }
def fX5_takeWorth_55 (N : Nat)   (σ : zSt) : Option (Unit × zSt) :=
  if ((σ.1 5 3) - (σ.1 5 2)) ≤ (4 : Int32) then some ((), σ) else zpf σ 5 4 (5 : Int32) (fun (σ1 : zSt) => some ((), σ1))
def fX5_takeWorth_10 (N : Nat)  : Nat → Int32 → zSt → Option (Unit × zSt)
  | 0, _, _ => none
  | n + 1, x1, σ => if (σ.1 5 3) ≤ x1 then fX5_takeWorth_55 N σ else if ((σ.1 5 2) + (4 : Int32)) ≤ x1 then fX5_takeWorth_55 N σ else zag σ 6 400 x1 (fun (v1 : Int32) => zpf σ 5 5 ((((10 : Int32) * (σ.1 5 5)) + v1) - (48 : Int32)) (fun (σ2 : zSt) => fX5_takeWorth_10 N n (x1 + (1 : Int32)) σ2))
def fX5_takeWorth (N : Nat)  (σ : zSt) : Option (Unit × zSt) :=
  zpf σ 5 5 (0 : Int32) (fun (σ1 : zSt) => znm (σ1.1 5 2) (fun (v2 : Int32) => fX5_takeWorth_10 N N v2 σ1))
def rmX5_take : Room := { frames := 1, cells := 0, slots := 0, locals := 22 }
def fX5_take_138 (N : Nat)   (σ : zSt) : Option (Unit × zSt) :=
  if (σ.1 5 4) = (2 : Int32) then zbnd (fX5_takeWorth N σ) (fun (b1 : Unit) (σ2 : zSt) => some ((), σ2)) else some ((), σ)
def fX5_take_95 (N : Nat)  : Nat → Int32 → zSt → Option (Unit × zSt)
  | 0, _, _ => none
  | n + 1, x1, σ => if x1 = 0 then fX5_take_138 N σ else if (σ.1 5 1) ≤ (σ.1 5 3) then fX5_take_138 N σ else zbnd (fX5_sortAt N (σ.1 5 3) σ) (fun (b1 : Int32) (σ2 : zSt) => if b1 = (σ2.1 5 4) then zpf σ2 5 3 ((σ2.1 5 3) + (1 : Int32)) (fun (σ3 : zSt) => fX5_take_95 N n x1 σ3) else fX5_take_138 N σ2)
def fX5_take_94 (N : Nat)  (s0 : Int32) (σ : zSt) : Option (Unit × zSt) :=
  fX5_take_95 N N s0 σ
def fX5_take_89 (N : Nat)   (σ : zSt) : Option (Unit × zSt) :=
  fX5_take_94 N (1 : Int32) σ
def fX5_take_44 (N : Nat)   (σ : zSt) : Option (Unit × zSt) :=
  zbnd (fX5_sortAt N (σ.1 5 2) σ) (fun (b1 : Int32) (σ2 : zSt) => zpf σ2 5 4 b1 (fun (σ3 : zSt) => zpf σ3 5 3 (if (σ3.1 5 1) < ((σ3.1 5 2) + (1 : Int32)) then (σ3.1 5 1) else ((σ3.1 5 2) + (1 : Int32))) (fun (σ4 : zSt) => if (σ4.1 5 4) = (1 : Int32) then fX5_take_89 N σ4 else if (σ4.1 5 4) = (2 : Int32) then fX5_take_89 N σ4 else fX5_take_94 N (0 : Int32) σ4)))
def fX5_take_8 (N : Nat)  : Nat → zSt → Option (Unit × zSt)
  | 0, _ => none
  | n + 1, σ => if (σ.1 5 1) ≤ (σ.1 5 2) then fX5_take_44 N σ else zbnd (fX5_sortAt N (σ.1 5 2) σ) (fun (b1 : Int32) (σ2 : zSt) => if b1 = (4 : Int32) then zpf σ2 5 2 ((σ2.1 5 2) + (1 : Int32)) (fun (σ3 : zSt) => fX5_take_8 N n σ3) else fX5_take_44 N σ2)
def fX5_take (N : Nat)  (σ : zSt) : Option (Unit × zSt) :=
  zpf σ 5 2 (σ.1 5 3) (fun (σ1 : zSt) => fX5_take_8 N N σ1)
def rmJ0_coder_7d493 : Room := { frames := 0, cells := 0, slots := 0, locals := 0 }
def fJ0_coder_7d493 (N : Nat) (w0 : Nat) (σ : zSt) : Option (Int32 × zSt) :=
  zstr w0 (if (1 : Int32) = 0 then zrn .byte (1 : Int32) σ else zstr w0 (zrn .byte (0 : Int32) σ))
theorem hwJ0_coder_7d493 {N : Nat} {w0 : Nat} {σ : zSt} : fJ0_coder_7d493 N w0 σ ≠ none → w0 < 8 := by
  unfold fJ0_coder_7d493 zstr
  intro h
  by_cases q : w0 < 8
  · exact q
  · rw [if_neg q] at h; exact absurd rfl h
def rmJ0_length_8abf5 : Room := { frames := 1, cells := 0, slots := 0, locals := 20 }
def fJ0_length_8abf5 (N : Nat) (w0 : Nat) (σ : zSt) : Option (Int32 × zSt) :=
  zstr w0 (zstr w0 (zstr w0 (zbnd (fJ0_coder_7d493 N w0 σ) (fun (b1 : Int32) (σ2 : zSt) => some (((Int32.ofNat (zSlen.getD w0 0)) >>> (b1 &&& 31)), σ2)))))
theorem hwJ0_length_8abf5 {N : Nat} {w0 : Nat} {σ : zSt} : fJ0_length_8abf5 N w0 σ ≠ none → w0 < 8 := by
  unfold fJ0_length_8abf5 zstr
  intro h
  by_cases q : w0 < 8
  · exact q
  · rw [if_neg q] at h; exact absurd rfl h
def rmJ0_isLatin1_aae02 : Room := { frames := 0, cells := 0, slots := 0, locals := 0 }
def fJ0_isLatin1_aae02 (N : Nat) (w0 : Nat) (σ : zSt) : Option (Int32 × zSt) :=
  zstr w0 (if (1 : Int32) = 0 then zrz (0 : Int32) σ else zstr w0 (if (0 : Int32) = 0 then zrz (1 : Int32) σ else zrz (0 : Int32) σ))
theorem hwJ0_isLatin1_aae02 {N : Nat} {w0 : Nat} {σ : zSt} : fJ0_isLatin1_aae02 N w0 σ ≠ none → w0 < 8 := by
  unfold fJ0_isLatin1_aae02 zstr
  intro h
  by_cases q : w0 < 8
  · exact q
  · rw [if_neg q] at h; exact absurd rfl h
def rmJ1_charAt_3b067 : Room := { frames := 2, cells := 0, slots := 0, locals := 43 }
def fJ1_charAt_3b067 (N : Nat) (w0 : Nat) (x1 : Int32) (σ : zSt) : Option (Int32 × zSt) :=
  zstr w0 (zbnd (fJ0_checkIndex_df160 N x1 (Int32.ofNat (zSlen.getD w0 0)) σ) (fun (b1 : Unit) (σ2 : zSt) => zstrAt w0 x1 (fun (v3 : Int32) => zrn .char ((v3 &&& (255 : Int32)).toUInt32 % 65536).toInt32 σ2)))
def rmJ0_charAt_5068e : Room := { frames := 3, cells := 0, slots := 0, locals := 64 }
def fJ0_charAt_5068e (N : Nat) (w0 : Nat) (x1 : Int32) (σ : zSt) : Option (Int32 × zSt) :=
  zstr w0 (zbnd (fJ0_isLatin1_aae02 N w0 σ) (fun (b1 : Int32) (σ2 : zSt) => if b1 = 0 then zstr w0 (none) else zstr w0 (zbnd (fJ1_charAt_3b067 N w0 x1 σ2) (fun (b3 : Int32) (σ4 : zSt) => zrn .char b3 σ4))))
theorem hwJ0_charAt_5068e {N : Nat} {w0 : Nat} {x1 : Int32} {σ : zSt} : fJ0_charAt_5068e N w0 x1 σ ≠ none → w0 < 8 := by
  unfold fJ0_charAt_5068e zstr
  intro h
  by_cases q : w0 < 8
  · exact q
  · rw [if_neg q] at h; exact absurd rfl h
def rmX5_isWord : Room := { frames := 4, cells := 0, slots := 0, locals := 85 }
def fX5_isWord_28 (N : Nat)  : Nat → Nat → Int32 → zSt → Option (Int32 × zSt)
  | 0, _, _, _ => none
  | n + 1, w1, x2, σ => zbnd (fJ0_length_8abf5 N w1 σ) (fun (b1 : Int32) (σ2 : zSt) => if b1 ≤ x2 then zrz (1 : Int32) σ2 else zag σ2 6 400 ((σ2.1 5 2) + x2) (fun (v3 : Int32) => zbnd (fJ0_charAt_5068e N w1 x2 σ2) (fun (b4 : Int32) (σ5 : zSt) => if v3 = b4 then fX5_isWord_28 N n w1 (x2 + (1 : Int32)) σ5 else zrz (0 : Int32) σ5)))
def fX5_isWord (N : Nat) (w1 : Nat) (σ : zSt) : Option (Int32 × zSt) :=
  if (σ.1 5 4) = (1 : Int32) then zbnd (fJ0_length_8abf5 N w1 σ) (fun (b1 : Int32) (σ2 : zSt) => if ((σ.1 5 3) - (σ.1 5 2)) = b1 then fX5_isWord_28 N N w1 (0 : Int32) σ2 else zrz (0 : Int32) σ2) else zrz (0 : Int32) σ
def rmX2_addNode : Room := { frames := 0, cells := 0, slots := 0, locals := 0 }
def fX2_addNode (N : Nat) (x1 : Int32) (x2 : Int32) (σ : zSt) : Option (Unit × zSt) :=
  if (σ.1 7 0) < (20 : Int32) then zas σ 8 20 (σ.1 7 0) x1 (fun (σ1 : zSt) => zas σ1 9 20 (σ1.1 7 0) x2 (fun (σ2 : zSt) => zas σ2 10 20 (σ2.1 7 0) (0 : Int32) (fun (σ3 : zSt) => zas σ3 11 20 (σ3.1 7 0) (9999 : Int32) (fun (σ4 : zSt) => zas σ4 12 20 (σ4.1 7 0) (0 : Int32) (fun (σ5 : zSt) => zpf σ5 7 0 ((σ5.1 7 0) + (1 : Int32)) (fun (σ6 : zSt) => some ((), σ6))))))) else some ((), σ)
def rmX5_readSign : Room := { frames := 2, cells := 0, slots := 0, locals := 43 }
def fX5_readSign (N : Nat)  (σ : zSt) : Option (Int32 × zSt) :=
  if (σ.1 5 4) = (3 : Int32) then zbnd (fX5_take N σ) (fun (b1 : Unit) (σ2 : zSt) => some ((0 : Int32), σ2)) else some ((1 : Int32), σ)
def rmX5_readGround : Room := { frames := 3, cells := 0, slots := 0, locals := 63 }
def fX5_readGround (N : Nat) (x2 : Int32) (σ : zSt) : Option (Int32 × zSt) :=
  if (σ.1 7 0) < (20 : Int32) then zbnd (fX5_take N σ) (fun (b1 : Unit) (σ2 : zSt) => if (σ2.1 5 4) = (2 : Int32) then if (σ2.1 5 5) ≤ (9 : Int32) then zbnd (fX2_addNode N x2 (σ2.1 5 5) σ2) (fun (b3 : Unit) (σ4 : zSt) => zbnd (fX5_take N σ4) (fun (b5 : Unit) (σ6 : zSt) => zbnd (fX5_readSign N σ6) (fun (b7 : Int32) (σ8 : zSt) => some (b7, σ8)))) else some ((2 : Int32), σ2) else some ((1 : Int32), σ2)) else some ((3 : Int32), σ)
def rmX5_readClaim : Room := { frames := 3, cells := 0, slots := 0, locals := 63 }
def fX5_readClaim (N : Nat)  (σ : zSt) : Option (Int32 × zSt) :=
  if (σ.1 7 0) < (20 : Int32) then zbnd (fX2_addNode N (2 : Int32) (0 : Int32) σ) (fun (b1 : Unit) (σ2 : zSt) => zbnd (fX5_take N σ2) (fun (b3 : Unit) (σ4 : zSt) => zbnd (fX5_readSign N σ4) (fun (b5 : Int32) (σ6 : zSt) => some (b5, σ6)))) else some ((3 : Int32), σ)
def rmX5_formTold : Room := { frames := 5, cells := 0, slots := 0, locals := 107 }
def fX5_formTold (N : Nat)  (σ : zSt) : Option (Int32 × zSt) :=
  zbnd (fX5_isWord N 4 σ) (fun (b1 : Int32) (σ2 : zSt) => if b1 = 0 then zbnd (fX5_isWord N 5 σ2) (fun (b3 : Int32) (σ4 : zSt) => if b3 = 0 then zbnd (fX5_isWord N 6 σ4) (fun (b5 : Int32) (σ6 : zSt) => if b5 = 0 then zbnd (fX5_isWord N 7 σ6) (fun (b7 : Int32) (σ8 : zSt) => if b7 = 0 then some ((-1 : Int32), σ8) else some ((3 : Int32), σ8)) else some ((2 : Int32), σ6)) else some ((1 : Int32), σ4)) else some ((0 : Int32), σ2))
def rmX2_hasNode : Room := { frames := 0, cells := 0, slots := 0, locals := 0 }
def fX2_hasNode (N : Nat) (x1 : Int32) (σ : zSt) : Option (Int32 × zSt) :=
  if x1 < 0 then zrz (0 : Int32) σ else if (σ.1 7 0) ≤ x1 then zrz (0 : Int32) σ else zrz (1 : Int32) σ
def rmX2_isClaim : Room := { frames := 1, cells := 0, slots := 0, locals := 21 }
def fX2_isClaim (N : Nat) (x1 : Int32) (σ : zSt) : Option (Int32 × zSt) :=
  zbnd (fX2_hasNode N x1 σ) (fun (b1 : Int32) (σ2 : zSt) => if b1 = 0 then zrz (0 : Int32) σ2 else zag σ2 8 20 x1 (fun (v3 : Int32) => if v3 = (2 : Int32) then zrz (1 : Int32) σ2 else zrz (0 : Int32) σ2))
def rmX2_addStep : Room := { frames := 1, cells := 0, slots := 0, locals := 21 }
def fX2_addStep_52 (N : Nat)  : Nat → Int32 → Int32 → zSt → Option (Int32 × zSt)
  | 0, _, _, _ => none
  | n + 1, x3, x4, σ => if (3 : Int32) ≤ x4 then zpf σ 7 1 (x3 + (1 : Int32)) (fun (σ1 : zSt) => some (x3, σ1)) else zas σ 19 48 ((x3 * (3 : Int32)) + x4) (0 : Int32) (fun (σ2 : zSt) => fX2_addStep_52 N n x3 (x4 + (1 : Int32)) σ2)
def fX2_addStep (N : Nat) (x1 : Int32) (x2 : Int32) (σ : zSt) : Option (Int32 × zSt) :=
  znm (if (15 : Int32) < (σ.1 7 1) then (15 : Int32) else (σ.1 7 1)) (fun (v1 : Int32) => zas σ 13 16 v1 x1 (fun (σ2 : zSt) => zas σ2 14 16 v1 x2 (fun (σ3 : zSt) => zas σ3 15 16 v1 (0 : Int32) (fun (σ4 : zSt) => zas σ4 16 16 v1 (0 : Int32) (fun (σ5 : zSt) => ztab zTD 4 x1 (fun (v6 : Int32) => zas σ5 18 16 v1 v6 (fun (σ7 : zSt) => fX2_addStep_52 N N v1 (0 : Int32) σ7)))))))
def rmX7_bitAt : Room := { frames := 0, cells := 0, slots := 0, locals := 0 }
def fX7_bitAt (N : Nat) (x0 : Int32) (x1 : Int32) (σ : zSt) : Option (Int32 × zSt) :=
  some (((x0 >>> (x1 &&& 31)) &&& (1 : Int32)), σ)
def rmX2_hasPart : Room := { frames := 1, cells := 0, slots := 0, locals := 21 }
def fX2_hasPart (N : Nat) (x1 : Int32) (x2 : Int32) (σ : zSt) : Option (Int32 × zSt) :=
  zag σ 16 16 x1 (fun (v1 : Int32) => zbnd (fX7_bitAt N v1 x2 σ) (fun (b2 : Int32) (σ3 : zSt) => if b2 = (1 : Int32) then zrz (1 : Int32) σ3 else zrz (0 : Int32) σ3))
def rmX2_addPart : Room := { frames := 0, cells := 0, slots := 0, locals := 0 }
def fX2_addPart (N : Nat) (x1 : Int32) (x2 : Int32) (σ : zSt) : Option (Unit × zSt) :=
  zag σ 15 16 x1 (fun (v1 : Int32) => if v1 < (6 : Int32) then zag σ 15 16 x1 (fun (v2 : Int32) => zas σ 17 96 ((x1 * (6 : Int32)) + v2) x2 (fun (σ3 : zSt) => zag σ3 16 16 x1 (fun (v4 : Int32) => zas σ3 16 16 x1 (v4 ||| ((1 : Int32) <<< (x2 &&& 31))) (fun (σ5 : zSt) => zag σ5 15 16 x1 (fun (v6 : Int32) => zas σ5 15 16 x1 (v6 + (1 : Int32)) (fun (σ7 : zSt) => some ((), σ7))))))) else some ((), σ))
def rmX5_readPart : Room := { frames := 2, cells := 0, slots := 0, locals := 43 }
def fX5_readPart (N : Nat) (x2 : Int32) (σ : zSt) : Option (Int32 × zSt) :=
  if (σ.1 5 4) = (2 : Int32) then zbnd (fX2_hasNode N (σ.1 5 5) σ) (fun (b1 : Int32) (σ2 : zSt) => if b1 = 0 then some ((2 : Int32), σ2) else zbnd (fX2_hasPart N x2 (σ2.1 5 5) σ2) (fun (b3 : Int32) (σ4 : zSt) => if b3 = 0 then zag σ4 15 16 x2 (fun (v5 : Int32) => if v5 < (6 : Int32) then zbnd (fX2_addPart N x2 (σ4.1 5 5) σ4) (fun (b6 : Unit) (σ7 : zSt) => zbnd (fX5_take N σ7) (fun (b8 : Unit) (σ9 : zSt) => some ((0 : Int32), σ9))) else some ((3 : Int32), σ4)) else some ((2 : Int32), σ4))) else some ((1 : Int32), σ)
def rmX5_readStep : Room := { frames := 6, cells := 0, slots := 0, locals := 127 }
def fX5_readStep_112 (N : Nat)  (x4 : Int32) (σ : zSt) : Option (Int32 × zSt) :=
  if x4 = 0 then zbnd (fX5_readSign N σ) (fun (b1 : Int32) (σ2 : zSt) => some (b1, σ2)) else some (x4, σ)
def fX5_readStep_78 (N : Nat)  : Nat → Int32 → Int32 → Int32 → zSt → Option (Int32 × zSt)
  | 0, _, _, _, _ => none
  | n + 1, x3, x4, x5, σ => if (6 : Int32) ≤ x5 then fX5_readStep_112 N x4 σ else if x4 = 0 then if (σ.1 5 4) = (2 : Int32) then zbnd (fX5_readPart N x3 σ) (fun (b1 : Int32) (σ2 : zSt) => fX5_readStep_78 N n x3 b1 (x5 + (1 : Int32)) σ2) else fX5_readStep_112 N x4 σ else fX5_readStep_112 N x4 σ
def fX5_readStep (N : Nat)  (σ : zSt) : Option (Int32 × zSt) :=
  if (σ.1 7 1) < (16 : Int32) then zbnd (fX5_take N σ) (fun (b1 : Unit) (σ2 : zSt) => zbnd (fX5_formTold N σ2) (fun (b3 : Int32) (σ4 : zSt) => if 0 ≤ b3 then zbnd (fX5_take N σ4) (fun (b5 : Unit) (σ6 : zSt) => if (σ6.1 5 4) = (2 : Int32) then zbnd (fX2_isClaim N (σ6.1 5 5) σ6) (fun (b7 : Int32) (σ8 : zSt) => if b7 = 0 then some ((2 : Int32), σ8) else zbnd (fX2_addStep N b3 (σ8.1 5 5) σ8) (fun (b9 : Int32) (σ10 : zSt) => zbnd (fX5_take N σ10) (fun (b11 : Unit) (σ12 : zSt) => zbnd (fX5_readPart N b9 σ12) (fun (b13 : Int32) (σ14 : zSt) => fX5_readStep_78 N N b9 b13 (0 : Int32) σ14)))) else some ((1 : Int32), σ6)) else some ((1 : Int32), σ4))) else some ((3 : Int32), σ)
def rmX5_readSentence : Room := { frames := 7, cells := 0, slots := 0, locals := 152 }
def fX5_readSentence (N : Nat)  (σ : zSt) : Option (Int32 × zSt) :=
  zbnd (fX5_isWord N 0 σ) (fun (b1 : Int32) (σ2 : zSt) => if b1 = 0 then zbnd (fX5_isWord N 1 σ2) (fun (b3 : Int32) (σ4 : zSt) => if b3 = 0 then zbnd (fX5_isWord N 2 σ4) (fun (b5 : Int32) (σ6 : zSt) => if b5 = 0 then zbnd (fX5_isWord N 3 σ6) (fun (b7 : Int32) (σ8 : zSt) => if b7 = 0 then some ((1 : Int32), σ8) else zbnd (fX5_readStep N σ8) (fun (b9 : Int32) (σ10 : zSt) => some (b9, σ10))) else zbnd (fX5_readClaim N σ6) (fun (b11 : Int32) (σ12 : zSt) => some (b11, σ12))) else zbnd (fX5_readGround N (1 : Int32) σ4) (fun (b13 : Int32) (σ14 : zSt) => some (b13, σ14))) else zbnd (fX5_readGround N (0 : Int32) σ2) (fun (b15 : Int32) (σ16 : zSt) => some (b15, σ16)))
def rmX5_read : Room := { frames := 8, cells := 0, slots := 0, locals := 173 }
def fX5_read_43 (N : Nat)  (x2 : Int32) (σ : zSt) : Option (Int32 × zSt) :=
  zpf σ 5 1 (0 : Int32) (fun (σ1 : zSt) => some (x2, σ1))
def fX5_read_13 (N : Nat)  : Nat → Int32 → Int32 → zSt → Option (Int32 × zSt)
  | 0, _, _, _ => none
  | n + 1, x2, x3, σ => if (400 : Int32) ≤ x3 then fX5_read_43 N x2 σ else if (σ.1 5 4) = 0 then fX5_read_43 N x2 σ else if x2 = 0 then zbnd (fX5_readSentence N σ) (fun (b1 : Int32) (σ2 : zSt) => fX5_read_13 N n b1 (x3 + (1 : Int32)) σ2) else fX5_read_43 N x2 σ
def fX5_read (N : Nat)  (σ : zSt) : Option (Int32 × zSt) :=
  zpf σ 5 3 (0 : Int32) (fun (σ1 : zSt) => zbnd (fX5_take N σ1) (fun (b2 : Unit) (σ3 : zSt) => fX5_read_13 N N (0 : Int32) (0 : Int32) σ3))
def rmX2_cutBack : Room := { frames := 0, cells := 0, slots := 0, locals := 0 }
def fX2_cutBack (N : Nat) (x1 : Int32) (x2 : Int32) (σ : zSt) : Option (Unit × zSt) :=
  zpf σ 7 0 x1 (fun (σ1 : zSt) => zpf σ1 7 1 x2 (fun (σ2 : zSt) => some ((), σ2)))
def rmX7_net : Room := { frames := 9, cells := 0, slots := 0, locals := 196 }
def fX7_net (N : Nat)  (σ : zSt) : Option (Int32 × zSt) :=
  znm (σ.1 7 0) (fun (v1 : Int32) => znm (σ.1 7 1) (fun (v2 : Int32) => zbnd (fX5_read N σ) (fun (b3 : Int32) (σ4 : zSt) => if b3 = 0 then some ((σ4.1 7 0), σ4) else zbnd (fX2_cutBack N v1 v2 σ4) (fun (b5 : Unit) (σ6 : zSt) => zpf σ6 0 6 b3 (fun (σ7 : zSt) => some (((-1000100 : Int32) - (σ7.1 5 2)), σ7))))))
def rmX7_fault : Room := { frames := 0, cells := 0, slots := 0, locals := 0 }
def fX7_fault (N : Nat)  (σ : zSt) : Option (Int32 × zSt) :=
  some ((σ.1 0 6), σ)
def rmX2_stands : Room := { frames := 0, cells := 0, slots := 0, locals := 0 }
def fX2_stands (N : Nat) (x1 : Int32) (σ : zSt) : Option (Int32 × zSt) :=
  zag σ 12 20 x1 (fun (v1 : Int32) => if v1 = 0 then zag σ 10 20 x1 (fun (v2 : Int32) => zag σ 11 20 x1 (fun (v3 : Int32) => if (v2 + v3) < (σ.1 7 2) then zrz (0 : Int32) σ else zrz (1 : Int32) σ)) else zrz (0 : Int32) σ)
def rmX2_standing : Room := { frames := 1, cells := 0, slots := 0, locals := 21 }
def fX2_standing_4 (N : Nat)  : Nat → Int32 → Int32 → zSt → Option (Int32 × zSt)
  | 0, _, _, _ => none
  | n + 1, x1, x2, σ => if (σ.1 7 0) ≤ x2 then some (x1, σ) else zag σ 8 20 x2 (fun (v1 : Int32) => if v1 = (2 : Int32) then fX2_standing_4 N n x1 (x2 + (1 : Int32)) σ else zbnd (fX2_stands N x2 σ) (fun (b2 : Int32) (σ3 : zSt) => if b2 = 0 then fX2_standing_4 N n x1 (x2 + (1 : Int32)) σ3 else znm (x1 ||| ((1 : Int32) <<< (x2 &&& 31))) (fun (v4 : Int32) => fX2_standing_4 N n v4 (x2 + (1 : Int32)) σ3)))
def fX2_standing (N : Nat)  (σ : zSt) : Option (Int32 × zSt) :=
  fX2_standing_4 N N (0 : Int32) (0 : Int32) σ
def rmJ6_bitCount_0f7a4 : Room := { frames := 0, cells := 0, slots := 0, locals := 0 }
def fJ6_bitCount_0f7a4 (N : Nat) (x0 : Int32) (σ : zSt) : Option (Int32 × zSt) :=
  znm (x0 - ((x0.toUInt32 >>> ((1 : Int32).toUInt32 &&& Int32.toUInt32 31)).toInt32 &&& (1431655765 : Int32))) (fun (v1 : Int32) => znm ((v1 &&& (858993459 : Int32)) + ((v1.toUInt32 >>> ((2 : Int32).toUInt32 &&& Int32.toUInt32 31)).toInt32 &&& (858993459 : Int32))) (fun (v2 : Int32) => znm ((v2 + (v2.toUInt32 >>> ((4 : Int32).toUInt32 &&& Int32.toUInt32 31)).toInt32) &&& (252645135 : Int32)) (fun (v3 : Int32) => znm (v3 + (v3.toUInt32 >>> ((8 : Int32).toUInt32 &&& Int32.toUInt32 31)).toInt32) (fun (v4 : Int32) => znm (v4 + (v4.toUInt32 >>> ((16 : Int32).toUInt32 &&& Int32.toUInt32 31)).toInt32) (fun (v5 : Int32) => some ((v5 &&& (63 : Int32)), σ))))))
def rmX2_isBorneUp : Room := { frames := 1, cells := 0, slots := 0, locals := 20 }
def fX2_isBorneUp (N : Nat) (x1 : Int32) (x2 : Int32) (σ : zSt) : Option (Int32 × zSt) :=
  zag σ 16 16 x1 (fun (v1 : Int32) => znm (v1 &&& x2) (fun (v2 : Int32) => zag σ 13 16 x1 (fun (v3 : Int32) => if v3 = (0 : Int32) then zag σ 16 16 x1 (fun (v4 : Int32) => if v2 = v4 then zrz (1 : Int32) σ else zrz (0 : Int32) σ) else (if v3 = (1 : Int32) then if v2 = 0 then zrz (0 : Int32) σ else zrz (1 : Int32) σ else (if v3 = (2 : Int32) then zbnd (fJ6_bitCount_0f7a4 N v2 σ) (fun (b7 : Int32) (σ8 : zSt) => zag σ8 15 16 x1 (fun (v9 : Int32) => if ((2 : Int32) * b7) ≤ v9 then zrz (0 : Int32) σ8 else zrz (1 : Int32) σ8)) else (zag σ 17 96 (x1 * (6 : Int32)) (fun (v11 : Int32) => if ((x2 >>> (v11 &&& 31)) &&& (1 : Int32)) = (1 : Int32) then zrz (1 : Int32) σ else zrz (0 : Int32) σ)))))))
def rmX2_nextRound : Room := { frames := 2, cells := 0, slots := 0, locals := 43 }
def fX2_nextRound_5 (N : Nat)  : Nat → Int32 → Int32 → Int32 → Int32 → zSt → Option (Int32 × zSt)
  | 0, _, _, _, _, _ => none
  | n + 1, x1, x2, x3, x4, σ => if (σ.1 7 1) ≤ x4 then some (x3, σ) else zag σ 14 16 x4 (fun (v1 : Int32) => znm ((((1 : Int32) <<< (v1 &&& 31)) &&& (x2 ^^^ (-1 : Int32))) &&& (x3 ^^^ (-1 : Int32))) (fun (v2 : Int32) => if v2 = 0 then fX2_nextRound_5 N n x1 x2 x3 (x4 + (1 : Int32)) σ else zag σ 18 16 x4 (fun (v3 : Int32) => if v3 = 0 then zbnd (fX2_isBorneUp N x4 x1 σ) (fun (b4 : Int32) (σ5 : zSt) => if b4 = 0 then fX2_nextRound_5 N n x1 x2 x3 (x4 + (1 : Int32)) σ5 else znm (x3 ||| v2) (fun (v6 : Int32) => fX2_nextRound_5 N n x1 x2 v6 (x4 + (1 : Int32)) σ5)) else fX2_nextRound_5 N n x1 x2 x3 (x4 + (1 : Int32)) σ)))
def fX2_nextRound (N : Nat) (x1 : Int32) (x2 : Int32) (σ : zSt) : Option (Int32 × zSt) :=
  fX2_nextRound_5 N N x1 x2 x1 (0 : Int32) σ
def rmX2_spread : Room := { frames := 3, cells := 0, slots := 0, locals := 68 }
def fX2_spread_5 (N : Nat)  : Nat → Int32 → Int32 → Int32 → zSt → Option (Int32 × zSt)
  | 0, _, _, _, _ => none
  | n + 1, x2, x3, x4, σ => if (20 : Int32) ≤ x4 then some (x3, σ) else zbnd (fX2_nextRound N x3 x2 σ) (fun (b1 : Int32) (σ2 : zSt) => if b1 = x3 then some (x3, σ2) else fX2_spread_5 N n x2 b1 (x4 + (1 : Int32)) σ2)
def fX2_spread (N : Nat) (x1 : Int32) (x2 : Int32) (σ : zSt) : Option (Int32 × zSt) :=
  fX2_spread_5 N N x2 x1 (0 : Int32) σ
def rmX2_shownNow : Room := { frames := 4, cells := 0, slots := 0, locals := 93 }
def fX2_shownNow (N : Nat)  (σ : zSt) : Option (Int32 × zSt) :=
  zbnd (fX2_standing N σ) (fun (b1 : Int32) (σ2 : zSt) => zbnd (fX2_spread N b1 (0 : Int32) σ2) (fun (b3 : Int32) (σ4 : zSt) => some (b3, σ4)))
def rmX7_node : Room := { frames := 5, cells := 0, slots := 0, locals := 113 }
def fX7_node (N : Nat) (x1 : Int32) (x2 : Int32) (σ : zSt) : Option (Int32 × zSt) :=
  zbnd (fX2_hasNode N x1 σ) (fun (b1 : Int32) (σ2 : zSt) => if b1 = 0 then some ((-1000001 : Int32), σ2) else zbnd (fX2_isClaim N x1 σ2) (fun (b3 : Int32) (σ4 : zSt) => if x2 = (0 : Int32) then zag σ4 8 20 x1 (fun (v5 : Int32) => some (v5, σ4)) else (if x2 = (1 : Int32) then if b3 = 0 then zag σ4 9 20 x1 (fun (v7 : Int32) => some (v7, σ4)) else some ((-1000000 : Int32), σ4) else (if x2 = (2 : Int32) then if b3 = 0 then zag σ4 10 20 x1 (fun (v9 : Int32) => some (v9, σ4)) else some ((-1000000 : Int32), σ4) else (if x2 = (3 : Int32) then if b3 = 0 then zag σ4 11 20 x1 (fun (v11 : Int32) => some (v11, σ4)) else some ((-1000000 : Int32), σ4) else (if x2 = (4 : Int32) then zag σ4 12 20 x1 (fun (v13 : Int32) => some (v13, σ4)) else (if x2 = (5 : Int32) then zbnd (fX2_shownNow N σ4) (fun (b15 : Int32) (σ16 : zSt) => zbnd (fX7_bitAt N b15 x1 σ16) (fun (b17 : Int32) (σ18 : zSt) => some (b17, σ18))) else (some ((-1000001 : Int32), σ4)))))))))
def rmX2_hasStep : Room := { frames := 0, cells := 0, slots := 0, locals := 0 }
def fX2_hasStep (N : Nat) (x1 : Int32) (σ : zSt) : Option (Int32 × zSt) :=
  if x1 < 0 then zrz (0 : Int32) σ else if (σ.1 7 1) ≤ x1 then zrz (0 : Int32) σ else zrz (1 : Int32) σ
def rmX2_doubtsOf : Room := { frames := 0, cells := 0, slots := 0, locals := 0 }
def fX2_doubtsOf (N : Nat) (x1 : Int32) (σ : zSt) : Option (Int32 × zSt) :=
  zag σ 13 16 x1 (fun (v1 : Int32) => ztab zTD 4 v1 (fun (v2 : Int32) => some (v2, σ)))
def rmX7_step : Room := { frames := 5, cells := 0, slots := 0, locals := 113 }
def fX7_step (N : Nat) (x1 : Int32) (x2 : Int32) (σ : zSt) : Option (Int32 × zSt) :=
  zbnd (fX2_hasStep N x1 σ) (fun (b1 : Int32) (σ2 : zSt) => if b1 = 0 then some ((-1000001 : Int32), σ2) else if x2 = (0 : Int32) then zag σ2 13 16 x1 (fun (v3 : Int32) => some (v3, σ2)) else (if x2 = (1 : Int32) then zag σ2 14 16 x1 (fun (v5 : Int32) => some (v5, σ2)) else (if x2 = (2 : Int32) then zag σ2 15 16 x1 (fun (v7 : Int32) => some (v7, σ2)) else (if x2 = (3 : Int32) then zbnd (fX2_doubtsOf N x1 σ2) (fun (b9 : Int32) (σ10 : zSt) => some (b9, σ10)) else (if x2 = (4 : Int32) then zag σ2 18 16 x1 (fun (v12 : Int32) => some (v12, σ2)) else (if x2 = (5 : Int32) then zbnd (fX2_shownNow N σ2) (fun (b14 : Int32) (σ15 : zSt) => zbnd (fX2_isBorneUp N x1 b14 σ15) (fun (b16 : Int32) (σ17 : zSt) => if b16 = 0 then some ((0 : Int32), σ17) else some ((1 : Int32), σ17))) else (some ((-1000001 : Int32), σ2))))))))
def rmX2_partAt : Room := { frames := 0, cells := 0, slots := 0, locals := 0 }
def fX2_partAt (N : Nat) (x1 : Int32) (x2 : Int32) (σ : zSt) : Option (Int32 × zSt) :=
  zag σ 17 96 ((x1 * (6 : Int32)) + x2) (fun (v1 : Int32) => some (v1, σ))
def rmX7_part : Room := { frames := 1, cells := 0, slots := 0, locals := 22 }
def fX7_part (N : Nat) (x1 : Int32) (x2 : Int32) (σ : zSt) : Option (Int32 × zSt) :=
  zbnd (fX2_hasStep N x1 σ) (fun (b1 : Int32) (σ2 : zSt) => if b1 = 0 then some ((-1000001 : Int32), σ2) else if 0 ≤ x2 then zag σ2 15 16 x1 (fun (v3 : Int32) => if v3 ≤ x2 then some ((-1000000 : Int32), σ2) else zbnd (fX2_partAt N x1 x2 σ2) (fun (b4 : Int32) (σ5 : zSt) => some (b4, σ5))) else some ((-1000001 : Int32), σ2))
def rmX2_tellDoubt : Room := { frames := 0, cells := 0, slots := 0, locals := 0 }
def fX2_tellDoubt_41 (N : Nat)  (x1 : Int32) (x2 : Int32) (x3 : Int32) (x4 : Int32) (σ : zSt) : Option (Int32 × zSt) :=
  zas σ 19 48 ((x1 * (3 : Int32)) + x2) x3 (fun (σ1 : zSt) => some (x4, σ1))
def fX2_tellDoubt_27 (N : Nat)  (x1 : Int32) (x2 : Int32) (x3 : Int32) (x4 : Int32) (σ : zSt) : Option (Int32 × zSt) :=
  if x3 = 0 then zag σ 18 16 x1 (fun (v1 : Int32) => zas σ 18 16 x1 (v1 + (1 : Int32)) (fun (σ2 : zSt) => fX2_tellDoubt_41 N x1 x2 x3 x4 σ2)) else fX2_tellDoubt_41 N x1 x2 x3 x4 σ
def fX2_tellDoubt (N : Nat) (x1 : Int32) (x2 : Int32) (x3 : Int32) (σ : zSt) : Option (Int32 × zSt) :=
  zag σ 19 48 ((x1 * (3 : Int32)) + x2) (fun (v1 : Int32) => if v1 = 0 then zag σ 18 16 x1 (fun (v2 : Int32) => zas σ 18 16 x1 (v2 - (1 : Int32)) (fun (σ3 : zSt) => fX2_tellDoubt_27 N x1 x2 x3 v1 σ3)) else fX2_tellDoubt_27 N x1 x2 x3 v1 σ)
def rmX7_doubt : Room := { frames := 1, cells := 0, slots := 0, locals := 24 }
def fX7_doubt (N : Nat) (x1 : Int32) (x2 : Int32) (x3 : Int32) (σ : zSt) : Option (Int32 × zSt) :=
  zbnd (fX2_hasStep N x1 σ) (fun (b1 : Int32) (σ2 : zSt) => if b1 = 0 then some ((-1000001 : Int32), σ2) else zbnd (fX2_doubtsOf N x1 σ2) (fun (b3 : Int32) (σ4 : zSt) => zbnd (fX7_isWithin N x2 (0 : Int32) (b3 - (1 : Int32)) σ4) (fun (b5 : Int32) (σ6 : zSt) => if b5 = 0 then some ((-1000001 : Int32), σ6) else zbnd (fX7_isWithin N x3 (0 : Int32) (11 : Int32) σ6) (fun (b7 : Int32) (σ8 : zSt) => if b7 = 0 then some ((-1000001 : Int32), σ8) else zbnd (fX2_tellDoubt N x1 x2 x3 σ8) (fun (b9 : Int32) (σ10 : zSt) => some (b9, σ10))))))
def rmX2_doubtsToldAs : Room := { frames := 1, cells := 0, slots := 0, locals := 21 }
def fX2_doubtsToldAs_15 (N : Nat) (k4 : Int32 → Int32 → Int32 → zSt → Option (Int32 × zSt)) : Nat → Int32 → Int32 → Int32 → Int32 → zSt → Option (Int32 × zSt)
  | 0, _, _, _, _, _ => none
  | n + 1, x1, x2, x3, x4, σ => zbnd (fX2_doubtsOf N x3 σ) (fun (b1 : Int32) (σ2 : zSt) => if b1 ≤ x4 then k4 x1 x2 (x3 + (1 : Int32)) σ2 else zag σ2 19 48 ((x3 * (3 : Int32)) + x4) (fun (v3 : Int32) => if v3 = x1 then fX2_doubtsToldAs_15 N k4 n x1 (x2 + (1 : Int32)) x3 (x4 + (1 : Int32)) σ2 else fX2_doubtsToldAs_15 N k4 n x1 x2 x3 (x4 + (1 : Int32)) σ2))
def fX2_doubtsToldAs_4 (N : Nat)  : Nat → Int32 → Int32 → Int32 → zSt → Option (Int32 × zSt)
  | 0, _, _, _, _ => none
  | n + 1, x1, x2, x3, σ => if (σ.1 7 1) ≤ x3 then some (x2, σ) else fX2_doubtsToldAs_15 N (fX2_doubtsToldAs_4 N n) N x1 x2 x3 (0 : Int32) σ
def fX2_doubtsToldAs (N : Nat) (x1 : Int32) (σ : zSt) : Option (Int32 × zSt) :=
  fX2_doubtsToldAs_4 N N x1 (0 : Int32) (0 : Int32) σ
def rmX7_borne : Room := { frames := 2, cells := 0, slots := 0, locals := 45 }
def fX7_borne (N : Nat) (x1 : Int32) (σ : zSt) : Option (Int32 × zSt) :=
  zbnd (fX7_isWithin N x1 (0 : Int32) (9 : Int32) σ) (fun (b1 : Int32) (σ2 : zSt) => if b1 = 0 then some ((-1000001 : Int32), σ2) else zbnd (fX2_doubtsToldAs N ((2 : Int32) + x1) σ2) (fun (b3 : Int32) (σ4 : zSt) => some (b3, σ4)))
def rmX3_itemAt : Room := { frames := 0, cells := 0, slots := 0, locals := 0 }
def fX3_itemAt (N : Nat) (x1 : Int32) (x2 : Int32) (σ : zSt) : Option (Int32 × zSt) :=
  zag σ 2 320 ((x1 * (40 : Int32)) + x2) (fun (v1 : Int32) => some (v1, σ))
def rmX2_isGround : Room := { frames := 1, cells := 0, slots := 0, locals := 21 }
def fX2_isGround (N : Nat) (x1 : Int32) (σ : zSt) : Option (Int32 × zSt) :=
  zbnd (fX2_hasNode N x1 σ) (fun (b1 : Int32) (σ2 : zSt) => if b1 = 0 then zrz (0 : Int32) σ2 else zag σ2 8 20 x1 (fun (v3 : Int32) => if v3 = (2 : Int32) then zrz (0 : Int32) σ2 else zrz (1 : Int32) σ2))
def rmX7_isLook : Room := { frames := 2, cells := 0, slots := 0, locals := 42 }
def fX7_isLook (N : Nat) (x1 : Int32) (x2 : Int32) (σ : zSt) : Option (Int32 × zSt) :=
  zbnd (fX3_itemAt N x1 x2 σ) (fun (b1 : Int32) (σ2 : zSt) => zbnd (fX2_isGround N b1 σ2) (fun (b3 : Int32) (σ4 : zSt) => if b3 = 0 then zrz (0 : Int32) σ4 else zbnd (fX3_itemAt N x1 (x2 + (1 : Int32)) σ4) (fun (b5 : Int32) (σ6 : zSt) => zbnd (fX7_isWithin N b5 (0 : Int32) (9999 : Int32) σ6) (fun (b7 : Int32) (σ8 : zSt) => if b7 = 0 then zrz (0 : Int32) σ8 else zbnd (fX3_itemAt N x1 (x2 + (2 : Int32)) σ8) (fun (b9 : Int32) (σ10 : zSt) => zbnd (fX7_isWithin N b9 (0 : Int32) (9999 : Int32) σ10) (fun (b11 : Int32) (σ12 : zSt) => if b11 = 0 then zrz (0 : Int32) σ12 else zrz (1 : Int32) σ12))))))
def rmX7_tellLook : Room := { frames := 2, cells := 0, slots := 0, locals := 42 }
def fX7_tellLook (N : Nat) (x1 : Int32) (x2 : Int32) (σ : zSt) : Option (Unit × zSt) :=
  zbnd (fX3_itemAt N x1 x2 σ) (fun (b1 : Int32) (σ2 : zSt) => zbnd (fX2_isGround N b1 σ2) (fun (b3 : Int32) (σ4 : zSt) => if b3 = 0 then some ((), σ4) else zbnd (fX3_itemAt N x1 (x2 + (1 : Int32)) σ4) (fun (b5 : Int32) (σ6 : zSt) => zas σ6 10 20 b1 b5 (fun (σ7 : zSt) => zbnd (fX3_itemAt N x1 (x2 + (2 : Int32)) σ7) (fun (b8 : Int32) (σ9 : zSt) => zas σ9 11 20 b1 b8 (fun (σ10 : zSt) => some ((), σ10)))))))
def rmX7_looked : Room := { frames := 3, cells := 0, slots := 0, locals := 65 }
def fX7_looked_97 (N : Nat)  : Nat → Int32 → Int32 → Int32 → Int32 → zSt → Option (Int32 × zSt)
  | 0, _, _, _, _, _ => none
  | n + 1, x1, x2, x3, x4, σ => if x3 ≤ x4 then zbnd (fX7_unfound N x3 σ) (fun (b1 : Int32) (σ2 : zSt) => some (b1, σ2)) else zbnd (fX7_tellLook N x1 (x2 + ((3 : Int32) * x4)) σ) (fun (b3 : Unit) (σ4 : zSt) => fX7_looked_97 N n x1 x2 x3 (x4 + (1 : Int32)) σ4)
def fX7_looked_65 (N : Nat)  : Nat → Int32 → Int32 → Int32 → Int32 → zSt → Option (Int32 × zSt)
  | 0, _, _, _, _, _ => none
  | n + 1, x1, x2, x3, x4, σ => if x3 ≤ x4 then fX7_looked_97 N N x1 x2 x3 (0 : Int32) σ else zbnd (fX7_isLook N x1 (x2 + ((3 : Int32) * x4)) σ) (fun (b1 : Int32) (σ2 : zSt) => if b1 = 0 then some ((-1000001 : Int32), σ2) else fX7_looked_65 N n x1 x2 x3 (x4 + (1 : Int32)) σ2)
def fX7_looked (N : Nat) (x1 : Int32) (x2 : Int32) (x3 : Int32) (σ : zSt) : Option (Int32 × zSt) :=
  zbnd (fX3_isNumber N x1 σ) (fun (b1 : Int32) (σ2 : zSt) => if b1 = 0 then some ((-1000001 : Int32), σ2) else zbnd (fX7_isWithin N x3 (1 : Int32) (8 : Int32) σ2) (fun (b3 : Int32) (σ4 : zSt) => if b3 = 0 then some ((-1000001 : Int32), σ4) else zbnd (fX3_isMissing N x1 σ4) (fun (b5 : Int32) (σ6 : zSt) => if b5 = 0 then zbnd (fX3_hasPlaces N x1 x2 ((3 : Int32) * x3) σ6) (fun (b7 : Int32) (σ8 : zSt) => if b7 = 0 then zbnd (fX7_found N (2 : Int32) σ8) (fun (b9 : Int32) (σ10 : zSt) => some (b9, σ10)) else fX7_looked_65 N N x1 x2 x3 (0 : Int32) σ8) else zbnd (fX7_found N (1 : Int32) σ6) (fun (b11 : Int32) (σ12 : zSt) => some (b11, σ12)))))
def rmX7_fall : Room := { frames := 2, cells := 0, slots := 0, locals := 42 }
def fX7_fall (N : Nat) (x1 : Int32) (x2 : Int32) (σ : zSt) : Option (Int32 × zSt) :=
  zbnd (fX2_isGround N x1 σ) (fun (b1 : Int32) (σ2 : zSt) => if b1 = 0 then some ((-1000001 : Int32), σ2) else zbnd (fX7_isWithin N x2 (0 : Int32) (1 : Int32) σ2) (fun (b3 : Int32) (σ4 : zSt) => if b3 = 0 then some ((-1000001 : Int32), σ4) else zag σ4 12 20 x1 (fun (v5 : Int32) => zas σ4 12 20 x1 x2 (fun (σ6 : zSt) => some (v5, σ6)))))
def rmX7_day : Room := { frames := 1, cells := 0, slots := 0, locals := 22 }
def fX7_day (N : Nat) (x1 : Int32) (σ : zSt) : Option (Int32 × zSt) :=
  zbnd (fX7_isWithin N x1 (0 : Int32) (9999 : Int32) σ) (fun (b1 : Int32) (σ2 : zSt) => if b1 = 0 then some ((-1000001 : Int32), σ2) else znm (σ2.1 7 2) (fun (v3 : Int32) => zpf σ2 7 2 x1 (fun (σ4 : zSt) => some (v3, σ4))))
def rmX2_claims : Room := { frames := 0, cells := 0, slots := 0, locals := 0 }
def fX2_claims_4 (N : Nat)  : Nat → Int32 → Int32 → zSt → Option (Int32 × zSt)
  | 0, _, _, _ => none
  | n + 1, x1, x2, σ => if (σ.1 7 0) ≤ x2 then some (x1, σ) else zag σ 8 20 x2 (fun (v1 : Int32) => if v1 = (2 : Int32) then znm (x1 ||| ((1 : Int32) <<< (x2 &&& 31))) (fun (v2 : Int32) => fX2_claims_4 N n v2 (x2 + (1 : Int32)) σ) else fX2_claims_4 N n x1 (x2 + (1 : Int32)) σ)
def fX2_claims (N : Nat)  (σ : zSt) : Option (Int32 × zSt) :=
  fX2_claims_4 N N (0 : Int32) (0 : Int32) σ
def rmX2_roundsNow : Room := { frames := 3, cells := 0, slots := 0, locals := 68 }
def fX2_roundsNow_9 (N : Nat)  : Nat → Int32 → Int32 → Int32 → zSt → Option (Int32 × zSt)
  | 0, _, _, _, _ => none
  | n + 1, x1, x2, x3, σ => if (20 : Int32) ≤ x3 then some (x1, σ) else zbnd (fX2_nextRound N x2 (0 : Int32) σ) (fun (b1 : Int32) (σ2 : zSt) => if b1 = x2 then some (x1, σ2) else fX2_roundsNow_9 N n (x1 + (1 : Int32)) b1 (x3 + (1 : Int32)) σ2)
def fX2_roundsNow (N : Nat)  (σ : zSt) : Option (Int32 × zSt) :=
  zbnd (fX2_standing N σ) (fun (b1 : Int32) (σ2 : zSt) => fX2_roundsNow_9 N N (0 : Int32) b1 (0 : Int32) σ2)
def rmX2_circles : Room := { frames := 1, cells := 0, slots := 0, locals := 21 }
def fX2_circles_71 (N : Nat) (k61 : Int32 → zSt → Option (Int32 × zSt)) : Nat → Int32 → Int32 → zSt → Option (Int32 × zSt)
  | 0, _, _, _ => none
  | n + 1, x1, x2, σ => if (σ.1 7 0) ≤ x2 then k61 (x1 + (1 : Int32)) σ else zag σ 20 20 x2 (fun (v1 : Int32) => zbnd (fX7_bitAt N v1 x1 σ) (fun (b2 : Int32) (σ3 : zSt) => if b2 = (1 : Int32) then zag σ3 20 20 x2 (fun (v4 : Int32) => zag σ3 20 20 x1 (fun (v5 : Int32) => zas σ3 20 20 x2 (v4 ||| v5) (fun (σ6 : zSt) => fX2_circles_71 N k61 n x1 (x2 + (1 : Int32)) σ6))) else fX2_circles_71 N k61 n x1 (x2 + (1 : Int32)) σ3))
def fX2_circles_124 (N : Nat)  : Nat → Int32 → Int32 → zSt → Option (Int32 × zSt)
  | 0, _, _, _ => none
  | n + 1, x1, x2, σ => if (σ.1 7 0) ≤ x2 then some (x1, σ) else zag σ 20 20 x2 (fun (v1 : Int32) => znm (x1 ||| (v1 &&& ((1 : Int32) <<< (x2 &&& 31)))) (fun (v2 : Int32) => fX2_circles_124 N n v2 (x2 + (1 : Int32)) σ))
def fX2_circles_61 (N : Nat)  : Nat → Int32 → zSt → Option (Int32 × zSt)
  | 0, _, _ => none
  | n + 1, x1, σ => if (σ.1 7 0) ≤ x1 then fX2_circles_124 N N (0 : Int32) (0 : Int32) σ else fX2_circles_71 N (fX2_circles_61 N n) N x1 (0 : Int32) σ
def fX2_circles_25 (N : Nat)  : Nat → Int32 → zSt → Option (Int32 × zSt)
  | 0, _, _ => none
  | n + 1, x1, σ => if (σ.1 7 1) ≤ x1 then fX2_circles_61 N N (0 : Int32) σ else zag σ 14 16 x1 (fun (v1 : Int32) => zag σ 20 20 v1 (fun (v2 : Int32) => zag σ 16 16 x1 (fun (v3 : Int32) => zas σ 20 20 v1 (v2 ||| v3) (fun (σ4 : zSt) => fX2_circles_25 N n (x1 + (1 : Int32)) σ4))))
def fX2_circles_2 (N : Nat)  : Nat → Int32 → zSt → Option (Int32 × zSt)
  | 0, _, _ => none
  | n + 1, x1, σ => if (σ.1 7 0) ≤ x1 then fX2_circles_25 N N (0 : Int32) σ else zas σ 20 20 x1 (0 : Int32) (fun (σ1 : zSt) => fX2_circles_2 N n (x1 + (1 : Int32)) σ1)
def fX2_circles (N : Nat)  (σ : zSt) : Option (Int32 × zSt) :=
  fX2_circles_2 N N (0 : Int32) σ
def rmX7_shown : Room := { frames := 5, cells := 0, slots := 0, locals := 113 }
def fX7_shown (N : Nat) (x1 : Int32) (σ : zSt) : Option (Int32 × zSt) :=
  if x1 = (0 : Int32) then zbnd (fX2_shownNow N σ) (fun (b1 : Int32) (σ2 : zSt) => zbnd (fX2_claims N σ2) (fun (b3 : Int32) (σ4 : zSt) => some ((b1 &&& b3), σ4))) else (if x1 = (1 : Int32) then zbnd (fX2_roundsNow N σ) (fun (b6 : Int32) (σ7 : zSt) => some (b6, σ7)) else (if x1 = (2 : Int32) then zbnd (fX2_circles N σ) (fun (b9 : Int32) (σ10 : zSt) => some (b9, σ10)) else (some ((-1000001 : Int32), σ))))
def rmX7_leaning : Room := { frames := 5, cells := 0, slots := 0, locals := 113 }
def fX7_leaning (N : Nat) (x1 : Int32) (σ : zSt) : Option (Int32 × zSt) :=
  zbnd (fX2_hasNode N x1 σ) (fun (b1 : Int32) (σ2 : zSt) => if b1 = 0 then some ((-1000001 : Int32), σ2) else znm ((1 : Int32) <<< (x1 &&& 31)) (fun (v3 : Int32) => zbnd (fX2_standing N σ2) (fun (b4 : Int32) (σ5 : zSt) => zbnd (fX2_spread N (b4 &&& (v3 ^^^ (-1 : Int32))) v3 σ5) (fun (b6 : Int32) (σ7 : zSt) => zbnd (fX2_shownNow N σ7) (fun (b8 : Int32) (σ9 : zSt) => zbnd (fX2_claims N σ9) (fun (b10 : Int32) (σ11 : zSt) => some ((((b8 &&& b10) &&& (b6 ^^^ (-1 : Int32))) &&& (v3 ^^^ (-1 : Int32))), σ11)))))))
def rmX1_countIfItFells : Room := { frames := 4, cells := 0, slots := 0, locals := 93 }
def fX1_countIfItFells_42 (N : Nat)   (σ : zSt) : Option (Int32 × zSt) :=
  zpf σ 21 4 ((σ.1 21 4) + (1 : Int32)) (fun (σ1 : zSt) => zrz (1 : Int32) σ1)
def fX1_countIfItFells (N : Nat) (x2 : Int32) (σ : zSt) : Option (Int32 × zSt) :=
  zbnd (fX2_spread N ((σ.1 21 2) &&& (x2 ^^^ (-1 : Int32))) (0 : Int32) σ) (fun (b1 : Int32) (σ2 : zSt) => zbnd (fX7_bitAt N b1 (σ2.1 21 1) σ2) (fun (b3 : Int32) (σ4 : zSt) => if b3 = (1 : Int32) then zrz (0 : Int32) σ4 else if (σ4.1 21 4) = (σ4.1 21 3) then zpf σ4 21 5 x2 (fun (σ5 : zSt) => fX1_countIfItFells_42 N σ5) else fX1_countIfItFells_42 N σ4))
def rmX1_seekOnes : Room := { frames := 5, cells := 0, slots := 0, locals := 115 }
def fX1_seekOnes_4 (N : Nat)  : Nat → Int32 → Int32 → zSt → Option (Int32 × zSt)
  | 0, _, _, _ => none
  | n + 1, x2, x3, σ => if (20 : Int32) ≤ x3 then some (x2, σ) else zbnd (fX7_bitAt N (σ.1 21 2) x3 σ) (fun (b1 : Int32) (σ2 : zSt) => if b1 = (1 : Int32) then zbnd (fX1_countIfItFells N ((1 : Int32) <<< (x3 &&& 31)) σ2) (fun (b3 : Int32) (σ4 : zSt) => if b3 = 0 then fX1_seekOnes_4 N n x2 (x3 + (1 : Int32)) σ4 else znm (x2 ||| ((1 : Int32) <<< (x3 &&& 31))) (fun (v5 : Int32) => fX1_seekOnes_4 N n v5 (x3 + (1 : Int32)) σ4)) else fX1_seekOnes_4 N n x2 (x3 + (1 : Int32)) σ2)
def fX1_seekOnes (N : Nat)  (σ : zSt) : Option (Int32 × zSt) :=
  fX1_seekOnes_4 N N (0 : Int32) (0 : Int32) σ
def rmX1_seekTwos : Room := { frames := 5, cells := 0, slots := 0, locals := 115 }
def fX1_seekTwos_29 (N : Nat) (k2 : Int32 → Int32 → zSt → Option (Unit × zSt)) : Nat → Int32 → Int32 → Int32 → zSt → Option (Unit × zSt)
  | 0, _, _, _, _ => none
  | n + 1, x2, x3, x4, σ => if x3 ≤ x4 then k2 x2 (x3 + (1 : Int32)) σ else zbnd (fX7_bitAt N x2 x4 σ) (fun (b1 : Int32) (σ2 : zSt) => if b1 = (1 : Int32) then zbnd (fX1_countIfItFells N (((1 : Int32) <<< (x3 &&& 31)) ||| ((1 : Int32) <<< (x4 &&& 31))) σ2) (fun (b3 : Int32) (σ4 : zSt) => if b3 = 0 then fX1_seekTwos_29 N k2 n x2 x3 (x4 + (1 : Int32)) σ4 else zag σ4 22 20 x3 (fun (v5 : Int32) => zas σ4 22 20 x3 (v5 ||| ((1 : Int32) <<< (x4 &&& 31))) (fun (σ6 : zSt) => fX1_seekTwos_29 N k2 n x2 x3 (x4 + (1 : Int32)) σ6))) else fX1_seekTwos_29 N k2 n x2 x3 (x4 + (1 : Int32)) σ2)
def fX1_seekTwos_2 (N : Nat)  : Nat → Int32 → Int32 → zSt → Option (Unit × zSt)
  | 0, _, _, _ => none
  | n + 1, x2, x3, σ => if (20 : Int32) ≤ x3 then some ((), σ) else zas σ 22 20 x3 (0 : Int32) (fun (σ1 : zSt) => zbnd (fX7_bitAt N x2 x3 σ1) (fun (b2 : Int32) (σ3 : zSt) => if b2 = 0 then fX1_seekTwos_2 N n x2 (x3 + (1 : Int32)) σ3 else fX1_seekTwos_29 N (fX1_seekTwos_2 N n) N x2 x3 (0 : Int32) σ3))
def fX1_seekTwos (N : Nat) (x2 : Int32) (σ : zSt) : Option (Unit × zSt) :=
  fX1_seekTwos_2 N N x2 (0 : Int32) σ
def rmX1_seekThrees : Room := { frames := 5, cells := 0, slots := 0, locals := 115 }
def fX1_seekThrees_70 (N : Nat) (k2 : Int32 → Int32 → zSt → Option (Unit × zSt)) (k34 : Int32 → Int32 → Int32 → Int32 → zSt → Option (Unit × zSt)) : Nat → Int32 → Int32 → Int32 → Int32 → Int32 → Int32 → zSt → Option (Unit × zSt)
  | 0, _, _, _, _, _, _, _ => none
  | n + 1, x2, x3, x4, x5, x6, x7, σ => if x5 ≤ x7 then k34 x2 x3 x4 (x5 + (1 : Int32)) σ else zbnd (fX7_bitAt N x6 x7 σ) (fun (b1 : Int32) (σ2 : zSt) => if b1 = (1 : Int32) then zbnd (fX1_countIfItFells N ((((1 : Int32) <<< (x3 &&& 31)) ||| ((1 : Int32) <<< (x5 &&& 31))) ||| ((1 : Int32) <<< (x7 &&& 31))) σ2) (fun (b3 : Int32) (σ4 : zSt) => fX1_seekThrees_70 N k2 k34 n x2 x3 x4 x5 x6 (x7 + (1 : Int32)) σ4) else fX1_seekThrees_70 N k2 k34 n x2 x3 x4 x5 x6 (x7 + (1 : Int32)) σ2)
def fX1_seekThrees_34 (N : Nat) (k2 : Int32 → Int32 → zSt → Option (Unit × zSt)) : Nat → Int32 → Int32 → Int32 → Int32 → zSt → Option (Unit × zSt)
  | 0, _, _, _, _, _ => none
  | n + 1, x2, x3, x4, x5, σ => if x3 ≤ x5 then k2 x2 (x3 + (1 : Int32)) σ else zbnd (fX7_bitAt N x4 x5 σ) (fun (b1 : Int32) (σ2 : zSt) => if b1 = 0 then fX1_seekThrees_34 N k2 n x2 x3 x4 (x5 + (1 : Int32)) σ2 else zag σ2 22 20 x5 (fun (v3 : Int32) => znm (x4 &&& (v3 ^^^ (-1 : Int32))) (fun (v4 : Int32) => fX1_seekThrees_70 N k2 (fX1_seekThrees_34 N k2 n) N x2 x3 x4 x5 v4 (0 : Int32) σ2)))
def fX1_seekThrees_2 (N : Nat)  : Nat → Int32 → Int32 → zSt → Option (Unit × zSt)
  | 0, _, _, _ => none
  | n + 1, x2, x3, σ => if (20 : Int32) ≤ x3 then some ((), σ) else zbnd (fX7_bitAt N x2 x3 σ) (fun (b1 : Int32) (σ2 : zSt) => if b1 = 0 then fX1_seekThrees_2 N n x2 (x3 + (1 : Int32)) σ2 else zag σ2 22 20 x3 (fun (v3 : Int32) => znm (x2 &&& (v3 ^^^ (-1 : Int32))) (fun (v4 : Int32) => fX1_seekThrees_34 N (fX1_seekThrees_2 N n) N x2 x3 v4 (0 : Int32) σ2)))
def fX1_seekThrees (N : Nat) (x2 : Int32) (σ : zSt) : Option (Unit × zSt) :=
  fX1_seekThrees_2 N N x2 (0 : Int32) σ
def rmX1_seek : Room := { frames := 6, cells := 0, slots := 0, locals := 142 }
def fX1_seek (N : Nat) (x2 : Int32) (x3 : Int32) (σ : zSt) : Option (Int32 × zSt) :=
  zpf σ 21 1 x2 (fun (σ1 : zSt) => zbnd (fX2_standing N σ1) (fun (b2 : Int32) (σ3 : zSt) => zpf σ3 21 2 b2 (fun (σ4 : zSt) => zpf σ4 21 3 x3 (fun (σ5 : zSt) => zpf σ5 21 4 (0 : Int32) (fun (σ6 : zSt) => zpf σ6 21 5 (-1000000 : Int32) (fun (σ7 : zSt) => zbnd (fX1_seekOnes N σ7) (fun (b8 : Int32) (σ9 : zSt) => znm ((σ7.1 21 2) &&& (b8 ^^^ (-1 : Int32))) (fun (v10 : Int32) => zbnd (fX1_seekTwos N v10 σ9) (fun (b11 : Unit) (σ12 : zSt) => zbnd (fX1_seekThrees N v10 σ12) (fun (b13 : Unit) (σ14 : zSt) => if 0 ≤ x3 then some ((σ14.1 21 5), σ14) else some ((σ14.1 21 4), σ14)))))))))))
def rmX7_felling : Room := { frames := 7, cells := 0, slots := 0, locals := 166 }
def fX7_felling (N : Nat) (x1 : Int32) (x2 : Int32) (σ : zSt) : Option (Int32 × zSt) :=
  zbnd (fX2_isClaim N x1 σ) (fun (b1 : Int32) (σ2 : zSt) => if b1 = 0 then some ((-1000001 : Int32), σ2) else if (-1 : Int32) ≤ x2 then zbnd (fX2_shownNow N σ2) (fun (b3 : Int32) (σ4 : zSt) => zbnd (fX7_bitAt N b3 x1 σ4) (fun (b5 : Int32) (σ6 : zSt) => if b5 = 0 then some ((-1000002 : Int32), σ6) else zbnd (fX1_seek N x1 x2 σ6) (fun (b7 : Int32) (σ8 : zSt) => some (b7, σ8)))) else some ((-1000001 : Int32), σ2))
def rmX2_groundsOf : Room := { frames := 0, cells := 0, slots := 0, locals := 0 }
def fX2_groundsOf_4 (N : Nat)  : Nat → Int32 → Int32 → Int32 → zSt → Option (Int32 × zSt)
  | 0, _, _, _, _ => none
  | n + 1, x1, x2, x3, σ => if (σ.1 7 0) ≤ x3 then some (x2, σ) else zag σ 8 20 x3 (fun (v1 : Int32) => if v1 = (2 : Int32) then fX2_groundsOf_4 N n x1 x2 (x3 + (1 : Int32)) σ else zag σ 9 20 x3 (fun (v2 : Int32) => if v2 = x1 then znm (x2 ||| ((1 : Int32) <<< (x3 &&& 31))) (fun (v3 : Int32) => fX2_groundsOf_4 N n x1 v3 (x3 + (1 : Int32)) σ) else fX2_groundsOf_4 N n x1 x2 (x3 + (1 : Int32)) σ))
def fX2_groundsOf (N : Nat) (x1 : Int32) (σ : zSt) : Option (Int32 × zSt) :=
  fX2_groundsOf_4 N N x1 (0 : Int32) (0 : Int32) σ
def rmX7_hand : Room := { frames := 5, cells := 0, slots := 0, locals := 113 }
def fX7_hand_33 (N : Nat)  : Nat → Int32 → Int32 → Int32 → Int32 → Int32 → zSt → Option (Int32 × zSt)
  | 0, _, _, _, _, _, _ => none
  | n + 1, x1, x2, x3, x4, x5, σ => if (9 : Int32) < x5 then some (x3, σ) else zbnd (fX2_groundsOf N x5 σ) (fun (b1 : Int32) (σ2 : zSt) => zbnd (fX2_spread N (x1 &&& (b1 ^^^ (-1 : Int32))) (0 : Int32) σ2) (fun (b3 : Int32) (σ4 : zSt) => zbnd (fJ6_bitCount_0f7a4 N (x2 &&& (b3 ^^^ (-1 : Int32))) σ4) (fun (b5 : Int32) (σ6 : zSt) => if b5 ≤ x4 then fX7_hand_33 N n x1 x2 x3 x4 (x5 + (1 : Int32)) σ6 else fX7_hand_33 N n x1 x2 x5 b5 (x5 + (1 : Int32)) σ6)))
def fX7_hand (N : Nat)  (σ : zSt) : Option (Int32 × zSt) :=
  zbnd (fX2_standing N σ) (fun (b1 : Int32) (σ2 : zSt) => zbnd (fX2_shownNow N σ2) (fun (b3 : Int32) (σ4 : zSt) => zbnd (fX2_claims N σ4) (fun (b5 : Int32) (σ6 : zSt) => znm (b3 &&& b5) (fun (v7 : Int32) => fX7_hand_33 N N b1 v7 (-1000000 : Int32) (0 : Int32) (0 : Int32) σ6))))
def rmX7_isSpan : Room := { frames := 0, cells := 0, slots := 0, locals := 0 }
def fX7_isSpan (N : Nat) (x0 : Int32) (x1 : Int32) (σ : zSt) : Option (Int32 × zSt) :=
  if x0 < 0 then zrz (0 : Int32) σ else if x1 < x0 then zrz (0 : Int32) σ else if (100 : Int32) < x1 then zrz (0 : Int32) σ else zrz (1 : Int32) σ
def rmX6_has : Room := { frames := 0, cells := 0, slots := 0, locals := 0 }
def fX6_has_2 (N : Nat)  : Nat → Int32 → Int32 → zSt → Option (Int32 × zSt)
  | 0, _, _, _ => none
  | n + 1, x1, x2, σ => if (σ.1 23 0) ≤ x2 then zrz (0 : Int32) σ else zag σ 24 3 x2 (fun (v1 : Int32) => if v1 = x1 then zrz (1 : Int32) σ else fX6_has_2 N n x1 (x2 + (1 : Int32)) σ)
def fX6_has (N : Nat) (x1 : Int32) (σ : zSt) : Option (Int32 × zSt) :=
  fX6_has_2 N N x1 (0 : Int32) σ
def rmX6_isFull : Room := { frames := 0, cells := 0, slots := 0, locals := 0 }
def fX6_isFull (N : Nat)  (σ : zSt) : Option (Int32 × zSt) :=
  if (σ.1 23 0) < (3 : Int32) then zrz (0 : Int32) σ else zrz (1 : Int32) σ
def rmX6_add : Room := { frames := 0, cells := 0, slots := 0, locals := 0 }
def fX6_add (N : Nat) (x1 : Int32) (x2 : Int32) (x3 : Int32) (σ : zSt) : Option (Int32 × zSt) :=
  if (σ.1 23 0) < (3 : Int32) then zas σ 24 3 (σ.1 23 0) x1 (fun (σ1 : zSt) => zas σ1 25 3 (σ1.1 23 0) x2 (fun (σ2 : zSt) => zas σ2 26 3 (σ2.1 23 0) x3 (fun (σ3 : zSt) => zpf σ3 23 0 ((σ3.1 23 0) + (1 : Int32)) (fun (σ4 : zSt) => some ((σ4.1 23 0), σ4))))) else some ((σ.1 23 0), σ)
def rmX7_weigh : Room := { frames := 2, cells := 0, slots := 0, locals := 42 }
def fX7_weigh (N : Nat) (x1 : Int32) (x2 : Int32) (x3 : Int32) (σ : zSt) : Option (Int32 × zSt) :=
  zbnd (fX2_isGround N x1 σ) (fun (b1 : Int32) (σ2 : zSt) => if b1 = 0 then some ((-1000001 : Int32), σ2) else zbnd (fX7_isSpan N x2 x3 σ2) (fun (b3 : Int32) (σ4 : zSt) => if b3 = 0 then some ((-1000001 : Int32), σ4) else zbnd (fX6_has N x1 σ4) (fun (b5 : Int32) (σ6 : zSt) => if b5 = 0 then zbnd (fX6_isFull N σ6) (fun (b7 : Int32) (σ8 : zSt) => if b7 = 0 then zbnd (fX6_add N x1 x2 x3 σ8) (fun (b9 : Int32) (σ10 : zSt) => some (b9, σ10)) else some ((-1000003 : Int32), σ8)) else some ((-1000002 : Int32), σ6))))
def rmX6_isPlace : Room := { frames := 0, cells := 0, slots := 0, locals := 0 }
def fX6_isPlace (N : Nat) (x1 : Int32) (σ : zSt) : Option (Int32 × zSt) :=
  if x1 < 0 then zrz (0 : Int32) σ else if (σ.1 23 0) ≤ x1 then zrz (0 : Int32) σ else zrz (1 : Int32) σ
def rmX6_tellPair : Room := { frames := 0, cells := 0, slots := 0, locals := 0 }
def fX6_tellPair (N : Nat) (x1 : Int32) (x2 : Int32) (x3 : Int32) (x4 : Int32) (σ : zSt) : Option (Unit × zSt) :=
  zas σ 27 3 ((x1 + x2) - (1 : Int32)) x3 (fun (σ1 : zSt) => zas σ1 28 3 ((x1 + x2) - (1 : Int32)) x4 (fun (σ2 : zSt) => some ((), σ2)))
def rmX7_pair : Room := { frames := 1, cells := 0, slots := 0, locals := 24 }
def fX7_pair (N : Nat) (x1 : Int32) (x2 : Int32) (x3 : Int32) (x4 : Int32) (σ : zSt) : Option (Int32 × zSt) :=
  zbnd (fX6_isPlace N x1 σ) (fun (b1 : Int32) (σ2 : zSt) => if b1 = 0 then some ((-1000001 : Int32), σ2) else zbnd (fX6_isPlace N x2 σ2) (fun (b3 : Int32) (σ4 : zSt) => if b3 = 0 then some ((-1000001 : Int32), σ4) else if x1 = x2 then some ((-1000001 : Int32), σ4) else zbnd (fX7_isSpan N x3 x4 σ4) (fun (b5 : Int32) (σ6 : zSt) => if b5 = 0 then some ((-1000001 : Int32), σ6) else zbnd (fX6_tellPair N x1 x2 x3 x4 σ6) (fun (b7 : Unit) (σ8 : zSt) => some ((1 : Int32), σ8)))))
def rmX6_clear : Room := { frames := 0, cells := 0, slots := 0, locals := 0 }
def fX6_clear_12 (N : Nat)  : Nat → Int32 → Int32 → zSt → Option (Int32 × zSt)
  | 0, _, _, _ => none
  | n + 1, x1, x2, σ => if (3 : Int32) ≤ x2 then some (x1, σ) else zas σ 27 3 x2 (0 : Int32) (fun (σ1 : zSt) => zas σ1 28 3 x2 (100 : Int32) (fun (σ2 : zSt) => fX6_clear_12 N n x1 (x2 + (1 : Int32)) σ2))
def fX6_clear (N : Nat)  (σ : zSt) : Option (Int32 × zSt) :=
  znm (σ.1 23 0) (fun (v1 : Int32) => zpf σ 23 0 (0 : Int32) (fun (σ2 : zSt) => fX6_clear_12 N N v1 (0 : Int32) σ2))
def rmX7_unweigh : Room := { frames := 1, cells := 0, slots := 0, locals := 22 }
def fX7_unweigh (N : Nat)  (σ : zSt) : Option (Int32 × zSt) :=
  zbnd (fX6_clear N σ) (fun (b1 : Int32) (σ2 : zSt) => some (b1, σ2))
def rmX4_addRow : Room := { frames := 1, cells := 0, slots := 0, locals := 21 }
def fX4_addRow_13 (N : Nat)  : Nat → Int32 → Int32 → Int32 → Int32 → zSt → Option (Unit × zSt)
  | 0, _, _, _, _, _ => none
  | n + 1, x1, x2, x3, x4, σ => if (σ.1 29 4) ≤ x4 then zrow 15 (σ.1 29 3) (fun (r1 : Nat) => zasL σ (35 + r1) 9 (σ.1 29 4) x3.toInt64 (fun (σ2 : zSt) => zas σ2 31 15 (σ2.1 29 3) ((8 : Int32) + (σ2.1 29 3)) (fun (σ3 : zSt) => zpf σ3 29 3 ((σ3.1 29 3) + (1 : Int32)) (fun (σ4 : zSt) => some ((), σ4))))) else zrow 15 (σ.1 29 3) (fun (r5 : Nat) => zbnd (fX7_bitAt N x1 x4 σ) (fun (b6 : Int32) (σ7 : zSt) => zasL σ7 (35 + r5) 9 x4 (x2 * b6).toInt64 (fun (σ8 : zSt) => fX4_addRow_13 N n x1 x2 x3 (x4 + (1 : Int32)) σ8)))
def fX4_addRow (N : Nat) (x1 : Int32) (x2 : Int32) (x3 : Int32) (σ : zSt) : Option (Unit × zSt) :=
  if (σ.1 29 3) < (15 : Int32) then fX4_addRow_13 N N x1 x2 x3 (0 : Int32) σ else some ((), σ)
def rmX4_begin : Room := { frames := 2, cells := 0, slots := 0, locals := 45 }
def fX4_begin_12 (N : Nat)  : Nat → Int32 → Int32 → zSt → Option (Unit × zSt)
  | 0, _, _, _ => none
  | n + 1, x2, x3, σ => if (σ.1 29 4) ≤ x3 then zpfL σ 29 5 (1 : Int64) (fun (σ1 : zSt) => zpf σ1 29 3 (0 : Int32) (fun (σ2 : zSt) => zbnd (fX4_addRow N x2 (1 : Int32) (0 : Int32) σ2) (fun (b3 : Unit) (σ4 : zSt) => some ((), σ4)))) else zas σ 32 8 x3 x3 (fun (σ5 : zSt) => fX4_begin_12 N n x2 (x3 + (1 : Int32)) σ5)
def fX4_begin (N : Nat) (x1 : Int32) (x2 : Int32) (σ : zSt) : Option (Unit × zSt) :=
  zpf σ 29 4 (if (8 : Int32) < x1 then (8 : Int32) else x1) (fun (σ1 : zSt) => fX4_begin_12 N N x2 (0 : Int32) σ1)
def rmX6_allWorlds : Room := { frames := 0, cells := 0, slots := 0, locals := 0 }
def fX6_allWorlds (N : Nat)  (σ : zSt) : Option (Int32 × zSt) :=
  some ((((1 : Int32) <<< (((1 : Int32) <<< ((σ.1 23 0) &&& 31)) &&& 31)) - (1 : Int32)), σ)
def rmX6_addSpan : Room := { frames := 2, cells := 0, slots := 0, locals := 45 }
def fX6_addSpan_16 (N : Nat)  (x1 : Int32) (x2 : Int32) (σ : zSt) : Option (Unit × zSt) :=
  if x2 ≤ 0 then some ((), σ) else zbnd (fX4_addRow N x1 (-1 : Int32) (-x2) σ) (fun (b1 : Unit) (σ2 : zSt) => some ((), σ2))
def fX6_addSpan (N : Nat) (x1 : Int32) (x2 : Int32) (x3 : Int32) (σ : zSt) : Option (Unit × zSt) :=
  if (100 : Int32) ≤ x3 then fX6_addSpan_16 N x1 x2 σ else zbnd (fX4_addRow N x1 (1 : Int32) x3 σ) (fun (b1 : Unit) (σ2 : zSt) => fX6_addSpan_16 N x1 x2 σ2)
def rmX4_brokenRow : Room := { frames := 0, cells := 0, slots := 0, locals := 0 }
def fX4_brokenRow_47 (N : Nat) (k4 : Int32 → Int32 → zSt → Option (Int32 × zSt)) (x2 : Int32) (σ : zSt) : Option (Int32 × zSt) :=
  k4 x2 (x2 + (1 : Int32)) σ
def fX4_brokenRow_4 (N : Nat)  : Nat → Int32 → Int32 → zSt → Option (Int32 × zSt)
  | 0, _, _, _ => none
  | n + 1, x1, x2, σ => if (σ.1 29 3) ≤ x2 then some (x1, σ) else zrow 15 x2 (fun (r1 : Nat) => zagL σ (35 + r1) 9 (σ.1 29 4) (fun (v2 : Int64) => if (0 : Int64) ≤ v2 then fX4_brokenRow_4 N n x1 (x2 + (1 : Int32)) σ else if x1 < 0 then fX4_brokenRow_47 N (fX4_brokenRow_4 N n) x2 σ else zag σ 31 15 x2 (fun (v3 : Int32) => zag σ 31 15 x1 (fun (v4 : Int32) => if v4 ≤ v3 then fX4_brokenRow_4 N n x1 (x2 + (1 : Int32)) σ else fX4_brokenRow_47 N (fX4_brokenRow_4 N n) x2 σ))))
def fX4_brokenRow (N : Nat)  (σ : zSt) : Option (Int32 × zSt) :=
  fX4_brokenRow_4 N N (-1 : Int32) (1 : Int32) σ
def rmX4_isCheaper : Room := { frames := 0, cells := 0, slots := 0, locals := 0 }
def fX4_isCheaper_71 (N : Nat)   (σ : zSt) : Option (Int32 × zSt) :=
  zrz (1 : Int32) σ
def fX4_isCheaper (N : Nat) (x1 : Int32) (x2 : Int32) (x3 : Int32) (σ : zSt) : Option (Int32 × zSt) :=
  zrow 15 (0 : Int32) (fun (r1 : Nat) => zagL σ (35 + r1) 9 x2 (fun (v2 : Int64) => zrow 15 x1 (fun (r3 : Nat) => zagL σ (35 + r3) 9 x3 (fun (v4 : Int64) => znm (v2 * (-v4)) (fun (v5 : Int64) => zrow 15 (0 : Int32) (fun (r6 : Nat) => zagL σ (35 + r6) 9 x3 (fun (v7 : Int64) => zrow 15 x1 (fun (r8 : Nat) => zagL σ (35 + r8) 9 x2 (fun (v9 : Int64) => znm (v7 * (-v9)) (fun (v10 : Int64) => if v5 < v10 then fX4_isCheaper_71 N σ else if v5 = v10 then zag σ 32 8 x2 (fun (v11 : Int32) => zag σ 32 8 x3 (fun (v12 : Int32) => if v12 ≤ v11 then zrz (0 : Int32) σ else fX4_isCheaper_71 N σ)) else zrz (0 : Int32) σ))))))))))
def rmX4_mendingColumn : Room := { frames := 1, cells := 0, slots := 0, locals := 27 }
def fX4_mendingColumn_39 (N : Nat) (k4 : Int32 → Int32 → Int32 → zSt → Option (Int32 × zSt)) (x1 : Int32) (x3 : Int32) (σ : zSt) : Option (Int32 × zSt) :=
  k4 x1 x3 (x3 + (1 : Int32)) σ
def fX4_mendingColumn_4 (N : Nat)  : Nat → Int32 → Int32 → Int32 → zSt → Option (Int32 × zSt)
  | 0, _, _, _, _ => none
  | n + 1, x1, x2, x3, σ => if (σ.1 29 4) ≤ x3 then some (x2, σ) else zrow 15 x1 (fun (r1 : Nat) => zagL σ (35 + r1) 9 x3 (fun (v2 : Int64) => if (0 : Int64) ≤ v2 then fX4_mendingColumn_4 N n x1 x2 (x3 + (1 : Int32)) σ else if x2 < 0 then fX4_mendingColumn_39 N (fX4_mendingColumn_4 N n) x1 x3 σ else zbnd (fX4_isCheaper N x1 x3 x2 σ) (fun (b3 : Int32) (σ4 : zSt) => if b3 = 0 then fX4_mendingColumn_4 N n x1 x2 (x3 + (1 : Int32)) σ4 else fX4_mendingColumn_39 N (fX4_mendingColumn_4 N n) x1 x3 σ4)))
def fX4_mendingColumn (N : Nat) (x1 : Int32) (σ : zSt) : Option (Int32 × zSt) :=
  fX4_mendingColumn_4 N N x1 (-1 : Int32) (0 : Int32) σ
def rmX4_divide : Room := { frames := 0, cells := 0, slots := 0, locals := 0 }
def fX4_divide (N : Nat) (y0 : Int64) (y2 : Int64) (σ : zSt) : Option (Int64 × zSt) :=
  if y2 = (0 : Int64) then some ((0 : Int64), σ) else zdvL y0 y2 (fun (v1 : Int64) => some (v1, σ))
def rmX4_clearOf : Room := { frames := 1, cells := 0, slots := 0, locals := 23 }
def fX4_clearOf_24 (N : Nat)  : Nat → Int32 → Int32 → Int32 → Int64 → Int64 → Int32 → zSt → Option (Unit × zSt)
  | 0, _, _, _, _, _, _, _ => none
  | n + 1, x1, x2, x3, y4, y6, x8, σ => if (σ.1 29 4) < x8 then some ((), σ) else if x8 = x3 then fX4_clearOf_24 N n x1 x2 x3 y4 y6 (x8 + (1 : Int32)) σ else zrow 15 x1 (fun (r1 : Nat) => zrow 15 x1 (fun (r2 : Nat) => zagL σ (35 + r2) 9 x8 (fun (v3 : Int64) => zrow 15 x2 (fun (r4 : Nat) => zagL σ (35 + r4) 9 x8 (fun (v5 : Int64) => zbnd (fX4_divide N ((y4 * v3) + (y6 * v5)) (σ.2 29 5) σ) (fun (b6 : Int64) (σ7 : zSt) => zasL σ7 (35 + r1) 9 x8 b6 (fun (σ8 : zSt) => fX4_clearOf_24 N n x1 x2 x3 y4 y6 (x8 + (1 : Int32)) σ8)))))))
def fX4_clearOf (N : Nat) (x1 : Int32) (x2 : Int32) (x3 : Int32) (σ : zSt) : Option (Unit × zSt) :=
  zrow 15 x2 (fun (r1 : Nat) => zagL σ (35 + r1) 9 x3 (fun (v2 : Int64) => znm (-v2) (fun (v3 : Int64) => zrow 15 x1 (fun (r4 : Nat) => zagL σ (35 + r4) 9 x3 (fun (v5 : Int64) => fX4_clearOf_24 N N x1 x2 x3 v3 v5 (0 : Int32) σ)))))
def rmX4_exchange : Room := { frames := 2, cells := 0, slots := 0, locals := 51 }
def fX4_exchange_45 (N : Nat)  : Nat → Int32 → Int32 → Int64 → Int32 → zSt → Option (Unit × zSt)
  | 0, _, _, _, _, _ => none
  | n + 1, x1, x2, y3, x5, σ => if (σ.1 29 4) < x5 then zrow 15 x1 (fun (r1 : Nat) => zasL σ (35 + r1) 9 x2 (-(σ.2 29 5)) (fun (σ2 : zSt) => zpfL σ2 29 5 y3 (fun (σ3 : zSt) => zag σ3 31 15 x1 (fun (v4 : Int32) => zag σ3 32 8 x2 (fun (v5 : Int32) => zas σ3 31 15 x1 v5 (fun (σ6 : zSt) => zas σ6 32 8 x2 v4 (fun (σ7 : zSt) => some ((), σ7)))))))) else zrow 15 x1 (fun (r8 : Nat) => zrow 15 x1 (fun (r9 : Nat) => zagL σ (35 + r9) 9 x5 (fun (v10 : Int64) => zasL σ (35 + r8) 9 x5 (-v10) (fun (σ11 : zSt) => fX4_exchange_45 N n x1 x2 y3 (x5 + (1 : Int32)) σ11))))
def fX4_exchange_13 (N : Nat)  : Nat → Int32 → Int32 → Int64 → Int32 → zSt → Option (Unit × zSt)
  | 0, _, _, _, _, _ => none
  | n + 1, x1, x2, y3, x5, σ => if (σ.1 29 3) ≤ x5 then fX4_exchange_45 N N x1 x2 y3 (0 : Int32) σ else if x5 = x1 then fX4_exchange_13 N n x1 x2 y3 (x5 + (1 : Int32)) σ else zbnd (fX4_clearOf N x5 x1 x2 σ) (fun (b1 : Unit) (σ2 : zSt) => fX4_exchange_13 N n x1 x2 y3 (x5 + (1 : Int32)) σ2)
def fX4_exchange (N : Nat) (x1 : Int32) (x2 : Int32) (σ : zSt) : Option (Unit × zSt) :=
  zrow 15 x1 (fun (r1 : Nat) => zagL σ (35 + r1) 9 x2 (fun (v2 : Int64) => znm (-v2) (fun (v3 : Int64) => fX4_exchange_13 N N x1 x2 v3 (0 : Int32) σ)))
def rmX4_settle : Room := { frames := 3, cells := 0, slots := 0, locals := 76 }
def fX4_settle_2 (N : Nat)  : Nat → Int32 → zSt → Option (Int32 × zSt)
  | 0, _, _ => none
  | n + 1, x1, σ => if (1000000 : Int32) ≤ x1 then zrz (0 : Int32) σ else zbnd (fX4_brokenRow N σ) (fun (b1 : Int32) (σ2 : zSt) => if 0 ≤ b1 then zbnd (fX4_mendingColumn N b1 σ2) (fun (b3 : Int32) (σ4 : zSt) => if 0 ≤ b3 then zbnd (fX4_exchange N b1 b3 σ4) (fun (b5 : Unit) (σ6 : zSt) => fX4_settle_2 N n (x1 + (1 : Int32)) σ6) else zrz (0 : Int32) σ4) else zrz (1 : Int32) σ2)
def fX4_settle (N : Nat)  (σ : zSt) : Option (Int32 × zSt) :=
  fX4_settle_2 N N (0 : Int32) σ
def rmX4_least : Room := { frames := 0, cells := 0, slots := 0, locals := 0 }
def fX4_least (N : Nat)  (σ : zSt) : Option (Int64 × zSt) :=
  zrow 15 (0 : Int32) (fun (r1 : Nat) => zagL σ (35 + r1) 9 (σ.1 29 4) (fun (v2 : Int64) => some ((-v2), σ)))
def rmX6_reduce : Room := { frames := 1, cells := 0, slots := 0, locals := 23 }
def fX6_reduce_44 (N : Nat)  (y1 : Int64) (y3 : Int64) (y5 : Int64) (σ : zSt) : Option (Unit × zSt) :=
  zbnd (fX4_divide N y1 y5 σ) (fun (b1 : Int64) (σ2 : zSt) => zpfL σ2 23 7 b1 (fun (σ3 : zSt) => zbnd (fX4_divide N y3 y5 σ3) (fun (b4 : Int64) (σ5 : zSt) => zpfL σ5 23 8 b4 (fun (σ6 : zSt) => some ((), σ6)))))
def fX6_reduce_9 (N : Nat)  : Nat → Int64 → Int64 → Int64 → Int64 → Int32 → zSt → Option (Unit × zSt)
  | 0, _, _, _, _, _, _ => none
  | n + 1, y1, y3, y5, y7, x9, σ => if (100 : Int32) ≤ x9 then fX6_reduce_44 N y1 y3 y5 σ else if y7 = (0 : Int64) then fX6_reduce_44 N y1 y3 y5 σ else zrmL y5 y7 (fun (v1 : Int64) => fX6_reduce_9 N n y1 y3 y7 v1 (x9 + (1 : Int32)) σ)
def fX6_reduce (N : Nat) (y1 : Int64) (y3 : Int64) (σ : zSt) : Option (Unit × zSt) :=
  fX6_reduce_9 N N y1 y3 y3 y1 (0 : Int32) σ
def rmX6_findLeast : Room := { frames := 4, cells := 0, slots := 0, locals := 99 }
def fX6_findLeast_75 (N : Nat) (k44 : Int32 → zSt → Option (Int32 × zSt)) : Nat → Int32 → Int32 → zSt → Option (Int32 × zSt)
  | 0, _, _, _ => none
  | n + 1, x2, x3, σ => if x2 ≤ x3 then k44 (x2 + (1 : Int32)) σ else ztab zTW 3 x2 (fun (v1 : Int32) => ztab zTW 3 x3 (fun (v2 : Int32) => zag σ 27 3 ((x2 + x3) - (1 : Int32)) (fun (v3 : Int32) => zag σ 28 3 ((x2 + x3) - (1 : Int32)) (fun (v4 : Int32) => zbnd (fX6_addSpan N (v1 &&& v2) v3 v4 σ) (fun (b5 : Unit) (σ6 : zSt) => fX6_findLeast_75 N k44 n x2 (x3 + (1 : Int32)) σ6)))))
def fX6_findLeast_44 (N : Nat)  : Nat → Int32 → zSt → Option (Int32 × zSt)
  | 0, _, _ => none
  | n + 1, x2, σ => if (σ.1 23 0) ≤ x2 then zbnd (fX4_settle N σ) (fun (b1 : Int32) (σ2 : zSt) => if b1 = 0 then zrz (0 : Int32) σ2 else zbnd (fX4_least N σ2) (fun (b3 : Int64) (σ4 : zSt) => zbnd (fX6_reduce N b3 ((100 : Int64) * (σ4.2 29 5)) σ4) (fun (b5 : Unit) (σ6 : zSt) => zrz (1 : Int32) σ6))) else ztab zTW 3 x2 (fun (v7 : Int32) => zag σ 25 3 x2 (fun (v8 : Int32) => zag σ 26 3 x2 (fun (v9 : Int32) => zbnd (fX6_addSpan N v7 v8 v9 σ) (fun (b10 : Unit) (σ11 : zSt) => fX6_findLeast_75 N (fX6_findLeast_44 N n) N x2 (0 : Int32) σ11))))
def fX6_findLeast (N : Nat) (x1 : Int32) (σ : zSt) : Option (Int32 × zSt) :=
  zbnd (fX4_begin N ((1 : Int32) <<< ((σ.1 23 0) &&& 31)) x1 σ) (fun (b1 : Unit) (σ2 : zSt) => zbnd (fX6_allWorlds N σ2) (fun (b3 : Int32) (σ4 : zSt) => zbnd (fX4_addRow N b3 (1 : Int32) (100 : Int32) σ4) (fun (b5 : Unit) (σ6 : zSt) => zbnd (fX6_allWorlds N σ6) (fun (b7 : Int32) (σ8 : zSt) => zbnd (fX4_addRow N b7 (-1 : Int32) (-100 : Int32) σ8) (fun (b9 : Unit) (σ10 : zSt) => fX6_findLeast_44 N N (0 : Int32) σ10)))))
def rmX7_agree : Room := { frames := 5, cells := 0, slots := 0, locals := 122 }
def fX7_agree (N : Nat)  (σ : zSt) : Option (Int32 × zSt) :=
  zbnd (fX6_findLeast N (0 : Int32) σ) (fun (b1 : Int32) (σ2 : zSt) => if b1 = 0 then some ((0 : Int32), σ2) else some ((1 : Int32), σ2))
def rmX6_worldsShowing : Room := { frames := 4, cells := 0, slots := 0, locals := 93 }
def fX6_worldsShowing_60 (N : Nat) (k43 : Int32 → Int32 → Int32 → Int32 → zSt → Option (Int32 × zSt)) : Nat → Int32 → Int32 → Int32 → Int32 → Int32 → Int32 → zSt → Option (Int32 × zSt)
  | 0, _, _, _, _, _, _, _ => none
  | n + 1, x2, x3, x4, x5, x6, x7, σ => if (σ.1 23 0) ≤ x7 then zbnd (fX2_spread N x6 (0 : Int32) σ) (fun (b1 : Int32) (σ2 : zSt) => zbnd (fX7_bitAt N b1 x2 σ2) (fun (b3 : Int32) (σ4 : zSt) => znm (x4 ||| (b3 <<< (x5 &&& 31))) (fun (v5 : Int32) => k43 x2 x3 v5 (x5 + (1 : Int32)) σ4))) else zbnd (fX7_bitAt N x5 x7 σ) (fun (b6 : Int32) (σ7 : zSt) => zag σ7 24 3 x7 (fun (v8 : Int32) => znm (x6 ||| (b6 <<< (v8 &&& 31))) (fun (v9 : Int32) => fX6_worldsShowing_60 N k43 n x2 x3 x4 x5 v9 (x7 + (1 : Int32)) σ7)))
def fX6_worldsShowing_43 (N : Nat)  : Nat → Int32 → Int32 → Int32 → Int32 → zSt → Option (Int32 × zSt)
  | 0, _, _, _, _, _ => none
  | n + 1, x2, x3, x4, x5, σ => if ((1 : Int32) <<< ((σ.1 23 0) &&& 31)) ≤ x5 then some (x4, σ) else fX6_worldsShowing_60 N (fX6_worldsShowing_43 N n) N x2 x3 x4 x5 x3 (0 : Int32) σ
def fX6_worldsShowing_8 (N : Nat)  : Nat → Int32 → Int32 → Int32 → zSt → Option (Int32 × zSt)
  | 0, _, _, _, _ => none
  | n + 1, x2, x3, x4, σ => if (σ.1 23 0) ≤ x4 then fX6_worldsShowing_43 N N x2 x3 (0 : Int32) (0 : Int32) σ else zag σ 24 3 x4 (fun (v1 : Int32) => znm (x3 &&& (((1 : Int32) <<< (v1 &&& 31)) ^^^ (-1 : Int32))) (fun (v2 : Int32) => fX6_worldsShowing_8 N n x2 v2 (x4 + (1 : Int32)) σ))
def fX6_worldsShowing (N : Nat) (x2 : Int32) (σ : zSt) : Option (Int32 × zSt) :=
  zbnd (fX2_standing N σ) (fun (b1 : Int32) (σ2 : zSt) => fX6_worldsShowing_8 N N x2 b1 (0 : Int32) σ2)
def rmX6_findMost : Room := { frames := 5, cells := 0, slots := 0, locals := 122 }
def fX6_findMost (N : Nat) (x1 : Int32) (σ : zSt) : Option (Int32 × zSt) :=
  zbnd (fX6_allWorlds N σ) (fun (b1 : Int32) (σ2 : zSt) => zbnd (fX6_findLeast N (b1 &&& (x1 ^^^ (-1 : Int32))) σ2) (fun (b3 : Int32) (σ4 : zSt) => if b3 = 0 then zrz (0 : Int32) σ4 else zpfL σ4 23 7 ((σ4.2 23 8) - (σ4.2 23 7)) (fun (σ5 : zSt) => zrz (1 : Int32) σ5)))
def rmX7_odds : Room := { frames := 6, cells := 0, slots := 0, locals := 143 }
def fX7_odds_60 (N : Nat)  (x2 : Int32) (s0 : Int32) (σ : zSt) : Option (Int32 × zSt) :=
  if s0 = 0 then some ((-1000002 : Int32), σ) else zrm x2 (2 : Int32) (fun (v1 : Int32) => if v1 = 0 then some ((σ.2 23 7).toInt32, σ) else some ((σ.2 23 8).toInt32, σ))
def fX7_odds (N : Nat) (x1 : Int32) (x2 : Int32) (σ : zSt) : Option (Int32 × zSt) :=
  zbnd (fX2_isClaim N x1 σ) (fun (b1 : Int32) (σ2 : zSt) => if b1 = 0 then some ((-1000001 : Int32), σ2) else zbnd (fX7_isWithin N x2 (0 : Int32) (3 : Int32) σ2) (fun (b3 : Int32) (σ4 : zSt) => if b3 = 0 then some ((-1000001 : Int32), σ4) else zbnd (fX6_worldsShowing N x1 σ4) (fun (b5 : Int32) (σ6 : zSt) => if (2 : Int32) ≤ x2 then zbnd (fX6_findMost N b5 σ6) (fun (b7 : Int32) (σ8 : zSt) => fX7_odds_60 N x2 b7 σ8) else zbnd (fX6_findLeast N b5 σ6) (fun (b9 : Int32) (σ10 : zSt) => fX7_odds_60 N x2 b9 σ10))))
def rmX6_findLeastRaised : Room := { frames := 5, cells := 0, slots := 0, locals := 122 }
def fX6_findLeastRaised (N : Nat) (x1 : Int32) (x2 : Int32) (σ : zSt) : Option (Int32 × zSt) :=
  zag σ 25 3 x2 (fun (v1 : Int32) => zag σ 26 3 x2 (fun (v2 : Int32) => zas σ 25 3 x2 v2 (fun (σ3 : zSt) => zbnd (fX6_findLeast N x1 σ3) (fun (b4 : Int32) (σ5 : zSt) => zas σ5 25 3 x2 v1 (fun (σ6 : zSt) => zrz b4 σ6)))))
def rmX6_bestRaise : Room := { frames := 6, cells := 0, slots := 0, locals := 146 }
def fX6_bestRaise_16 (N : Nat)  : Nat → Int32 → Int32 → Int64 → Int64 → Int32 → zSt → Option (Int32 × zSt)
  | 0, _, _, _, _, _, _ => none
  | n + 1, x1, x2, y3, y5, x7, σ => if (σ.1 23 0) ≤ x7 then some (x2, σ) else zbnd (fX6_findLeastRaised N x1 x7 σ) (fun (b1 : Int32) (σ2 : zSt) => if b1 = 0 then fX6_bestRaise_16 N n x1 x2 y3 y5 (x7 + (1 : Int32)) σ2 else if ((σ2.2 23 7) * y5) ≤ (y3 * (σ2.2 23 8)) then fX6_bestRaise_16 N n x1 x2 y3 y5 (x7 + (1 : Int32)) σ2 else znm (σ2.2 23 7) (fun (v3 : Int64) => znm (σ2.2 23 8) (fun (v4 : Int64) => fX6_bestRaise_16 N n x1 x7 v3 v4 (x7 + (1 : Int32)) σ2)))
def fX6_bestRaise (N : Nat) (x1 : Int32) (σ : zSt) : Option (Int32 × zSt) :=
  znm (σ.2 23 7) (fun (v1 : Int64) => znm (σ.2 23 8) (fun (v2 : Int64) => fX6_bestRaise_16 N N x1 (-1 : Int32) v1 v2 (0 : Int32) σ))
def rmX7_raise : Room := { frames := 7, cells := 0, slots := 0, locals := 173 }
def fX7_raise (N : Nat) (x1 : Int32) (σ : zSt) : Option (Int32 × zSt) :=
  zbnd (fX2_isClaim N x1 σ) (fun (b1 : Int32) (σ2 : zSt) => if b1 = 0 then some ((-1000001 : Int32), σ2) else zbnd (fX6_worldsShowing N x1 σ2) (fun (b3 : Int32) (σ4 : zSt) => zbnd (fX6_findLeast N b3 σ4) (fun (b5 : Int32) (σ6 : zSt) => if b5 = 0 then some ((-1000002 : Int32), σ6) else zbnd (fX6_bestRaise N b3 σ6) (fun (b7 : Int32) (σ8 : zSt) => if 0 ≤ b7 then zag σ8 24 3 b7 (fun (v9 : Int32) => some (v9, σ8)) else some ((-1000000 : Int32), σ8)))))
def rmX2_timesPart : Room := { frames := 1, cells := 0, slots := 0, locals := 21 }
def fX2_timesPart_4 (N : Nat)  : Nat → Int32 → Int32 → Int32 → zSt → Option (Int32 × zSt)
  | 0, _, _, _, _ => none
  | n + 1, x1, x2, x3, σ => if (σ.1 7 1) ≤ x3 then some (x2, σ) else zag σ 16 16 x3 (fun (v1 : Int32) => zbnd (fX7_bitAt N v1 x1 σ) (fun (b2 : Int32) (σ3 : zSt) => znm (x2 + b2) (fun (v4 : Int32) => fX2_timesPart_4 N n x1 v4 (x3 + (1 : Int32)) σ3)))
def fX2_timesPart (N : Nat) (x1 : Int32) (σ : zSt) : Option (Int32 × zSt) :=
  fX2_timesPart_4 N N x1 (0 : Int32) (0 : Int32) σ
def rmX2_kindOf : Room := { frames := 2, cells := 0, slots := 0, locals := 44 }
def fX2_kindOf (N : Nat) (x1 : Int32) (σ : zSt) : Option (Int32 × zSt) :=
  zag σ 8 20 x1 (fun (v1 : Int32) => if v1 = (2 : Int32) then zbnd (fX2_timesPart N x1 σ) (fun (b2 : Int32) (σ3 : zSt) => if b2 = 0 then some ((4 : Int32), σ3) else some ((3 : Int32), σ3)) else zbnd (fX2_stands N x1 σ) (fun (b4 : Int32) (σ5 : zSt) => if b4 = 0 then some ((5 : Int32), σ5) else zag σ5 8 20 x1 (fun (v6 : Int32) => if v6 = (1 : Int32) then some ((2 : Int32), σ5) else some ((1 : Int32), σ5))))
def rmX7_kind : Room := { frames := 3, cells := 0, slots := 0, locals := 65 }
def fX7_kind (N : Nat) (x1 : Int32) (σ : zSt) : Option (Int32 × zSt) :=
  zbnd (fX2_hasNode N x1 σ) (fun (b1 : Int32) (σ2 : zSt) => if b1 = 0 then some ((-1000001 : Int32), σ2) else zbnd (fX2_kindOf N x1 σ2) (fun (b3 : Int32) (σ4 : zSt) => some (b3, σ4)))
def rmX2_isTakenAs : Room := { frames := 3, cells := 0, slots := 0, locals := 65 }
def fX2_isTakenAs (N : Nat) (x1 : Int32) (x2 : Int32) (σ : zSt) : Option (Int32 × zSt) :=
  zbnd (fX2_kindOf N x1 σ) (fun (b1 : Int32) (σ2 : zSt) => ztab zTK 6 b1 (fun (v3 : Int32) => zbnd (fX7_bitAt N v3 x2 σ2) (fun (b4 : Int32) (σ5 : zSt) => if b4 = (1 : Int32) then zrz (1 : Int32) σ5 else zrz (0 : Int32) σ5)))
def rmX7_as : Room := { frames := 4, cells := 0, slots := 0, locals := 87 }
def fX7_as (N : Nat) (x1 : Int32) (x2 : Int32) (σ : zSt) : Option (Int32 × zSt) :=
  zbnd (fX2_hasNode N x1 σ) (fun (b1 : Int32) (σ2 : zSt) => if b1 = 0 then some ((-1000001 : Int32), σ2) else zbnd (fX7_isWithin N x2 (0 : Int32) (5 : Int32) σ2) (fun (b3 : Int32) (σ4 : zSt) => if b3 = 0 then some ((-1000001 : Int32), σ4) else zbnd (fX2_isTakenAs N x1 x2 σ4) (fun (b5 : Int32) (σ6 : zSt) => if b5 = 0 then zbnd (fX7_found N (3 : Int32) σ6) (fun (b7 : Int32) (σ8 : zSt) => some (b7, σ8)) else zbnd (fX7_unfound N x1 σ6) (fun (b9 : Int32) (σ10 : zSt) => some (b9, σ10)))))
def rmX0_start : Room := { frames := 0, cells := 0, slots := 0, locals := 0 }
def fX0_start (N : Nat) (x1 : Int32) (σ : zSt) : Option (Unit × zSt) :=
  zpf σ 33 1 (0 : Int32) (fun (σ1 : zSt) => zpf σ1 33 2 x1 (fun (σ2 : zSt) => some ((), σ2)))
def rmX0_begin : Room := { frames := 0, cells := 0, slots := 0, locals := 0 }
def fX0_begin (N : Nat) (x1 : Int32) (σ : zSt) : Option (Unit × zSt) :=
  if (σ.1 33 1) < (16 : Int32) then zas σ 34 16 (σ.1 33 1) x1 (fun (σ1 : zSt) => zpf σ1 33 1 ((σ1.1 33 1) + (1 : Int32)) (fun (σ2 : zSt) => some ((), σ2))) else some ((), σ)
def rmX0_size10 : Room := { frames := 2, cells := 0, slots := 0, locals := 44 }
def fX0_size10 (N : Nat) (x2 : Int32) (σ : zSt) : Option (Int32 × zSt) :=
  zbnd (fX0_begin N (10 : Int32) σ) (fun (b1 : Unit) (σ2 : zSt) => zbnd (fX2_timesPart N x2 σ2) (fun (b3 : Int32) (σ4 : zSt) => some (b3, σ4)))
def rmX0_size11 : Room := { frames := 3, cells := 0, slots := 0, locals := 66 }
def fX0_size11 (N : Nat) (x2 : Int32) (σ : zSt) : Option (Int32 × zSt) :=
  zbnd (fX0_begin N (11 : Int32) σ) (fun (b1 : Unit) (σ2 : zSt) => zbnd (fX0_size10 N x2 σ2) (fun (b3 : Int32) (σ4 : zSt) => zag σ4 9 20 x2 (fun (v5 : Int32) => some ((b3 + v5), σ4))))
def rmX0_size12 : Room := { frames := 4, cells := 0, slots := 0, locals := 88 }
def fX0_size12 (N : Nat) (x2 : Int32) (σ : zSt) : Option (Int32 × zSt) :=
  zbnd (fX0_begin N (12 : Int32) σ) (fun (b1 : Unit) (σ2 : zSt) => zbnd (fX0_size11 N x2 σ2) (fun (b3 : Int32) (σ4 : zSt) => some (((2 : Int32) * b3), σ4)))
def rmX0_mark20 : Room := { frames := 1, cells := 0, slots := 0, locals := 21 }
def fX0_mark20 (N : Nat) (x1 : Int32) (σ : zSt) : Option (Int32 × zSt) :=
  zbnd (fX0_begin N (20 : Int32) σ) (fun (b1 : Unit) (σ2 : zSt) => some (x1, σ2))
def rmX0_mark21 : Room := { frames := 2, cells := 0, slots := 0, locals := 42 }
def fX0_mark21 (N : Nat) (x1 : Int32) (σ : zSt) : Option (Int32 × zSt) :=
  zbnd (fX0_begin N (21 : Int32) σ) (fun (b1 : Unit) (σ2 : zSt) => zbnd (fX0_mark20 N x1 σ2) (fun (b3 : Int32) (σ4 : zSt) => zbnd (fX7_bitAt N (σ4.1 33 2) x1 σ4) (fun (b5 : Int32) (σ6 : zSt) => some ((b3 + ((100 : Int32) * b5)), σ6))))
def rmX0_mark22 : Room := { frames := 2, cells := 0, slots := 0, locals := 42 }
def fX0_mark22 (N : Nat) (x2 : Int32) (σ : zSt) : Option (Int32 × zSt) :=
  zbnd (fX0_begin N (22 : Int32) σ) (fun (b1 : Unit) (σ2 : zSt) => zbnd (fX0_mark20 N x2 σ2) (fun (b3 : Int32) (σ4 : zSt) => some ((b3 + (σ4.1 7 2)), σ4)))
def rmX0_mark : Room := { frames := 3, cells := 0, slots := 0, locals := 65 }
def fX0_mark_32 (N : Nat)  (x2 : Int32) (σ : zSt) : Option (Int32 × zSt) :=
  zbnd (fX0_mark21 N x2 σ) (fun (b1 : Int32) (σ2 : zSt) => some (b1, σ2))
def fX0_mark (N : Nat) (x2 : Int32) (σ : zSt) : Option (Int32 × zSt) :=
  zbnd (fX2_kindOf N x2 σ) (fun (b1 : Int32) (σ2 : zSt) => if b1 = (3 : Int32) then fX0_mark_32 N x2 σ2 else (if b1 = (4 : Int32) then fX0_mark_32 N x2 σ2 else (if b1 = (5 : Int32) then zbnd (fX0_mark22 N x2 σ2) (fun (b5 : Int32) (σ6 : zSt) => some (b5, σ6)) else (zbnd (fX0_mark20 N x2 σ2) (fun (b8 : Int32) (σ9 : zSt) => some (b8, σ9))))))
def rmX0_size13 : Room := { frames := 4, cells := 0, slots := 0, locals := 87 }
def fX0_size13 (N : Nat) (x2 : Int32) (σ : zSt) : Option (Int32 × zSt) :=
  zbnd (fX0_begin N (13 : Int32) σ) (fun (b1 : Unit) (σ2 : zSt) => zbnd (fX0_size10 N x2 σ2) (fun (b3 : Int32) (σ4 : zSt) => zbnd (fX0_mark N x2 σ4) (fun (b5 : Int32) (σ6 : zSt) => some ((b3 + b5), σ6))))
def rmX2_timesHeld : Room := { frames := 0, cells := 0, slots := 0, locals := 0 }
def fX2_timesHeld_4 (N : Nat)  : Nat → Int32 → Int32 → Int32 → zSt → Option (Int32 × zSt)
  | 0, _, _, _, _ => none
  | n + 1, x1, x2, x3, σ => if (σ.1 7 1) ≤ x3 then some (x2, σ) else zag σ 14 16 x3 (fun (v1 : Int32) => if v1 = x1 then fX2_timesHeld_4 N n x1 (x2 + (1 : Int32)) (x3 + (1 : Int32)) σ else fX2_timesHeld_4 N n x1 x2 (x3 + (1 : Int32)) σ)
def fX2_timesHeld (N : Nat) (x1 : Int32) (σ : zSt) : Option (Int32 × zSt) :=
  fX2_timesHeld_4 N N x1 (0 : Int32) (0 : Int32) σ
def rmX0_size14 : Room := { frames := 5, cells := 0, slots := 0, locals := 109 }
def fX0_size14 (N : Nat) (x2 : Int32) (σ : zSt) : Option (Int32 × zSt) :=
  zbnd (fX0_begin N (14 : Int32) σ) (fun (b1 : Unit) (σ2 : zSt) => zbnd (fX0_size13 N x2 σ2) (fun (b3 : Int32) (σ4 : zSt) => zbnd (fX2_timesHeld N x2 σ4) (fun (b5 : Int32) (σ6 : zSt) => some ((b3 + b5), σ6))))
def rmX0_size15 : Room := { frames := 4, cells := 0, slots := 0, locals := 88 }
def fX0_size15 (N : Nat) (x2 : Int32) (σ : zSt) : Option (Int32 × zSt) :=
  zbnd (fX0_begin N (15 : Int32) σ) (fun (b1 : Unit) (σ2 : zSt) => zbnd (fX0_size11 N x2 σ2) (fun (b3 : Int32) (σ4 : zSt) => some ((-b3), σ4)))
def rmX0_size : Room := { frames := 6, cells := 0, slots := 0, locals := 131 }
def fX0_size (N : Nat) (x2 : Int32) (σ : zSt) : Option (Int32 × zSt) :=
  zbnd (fX2_kindOf N x2 σ) (fun (b1 : Int32) (σ2 : zSt) => if b1 = (1 : Int32) then zbnd (fX0_size11 N x2 σ2) (fun (b3 : Int32) (σ4 : zSt) => some (b3, σ4)) else (if b1 = (2 : Int32) then zbnd (fX0_size12 N x2 σ2) (fun (b6 : Int32) (σ7 : zSt) => some (b6, σ7)) else (if b1 = (3 : Int32) then zbnd (fX0_size13 N x2 σ2) (fun (b9 : Int32) (σ10 : zSt) => some (b9, σ10)) else (if b1 = (4 : Int32) then zbnd (fX0_size14 N x2 σ2) (fun (b12 : Int32) (σ13 : zSt) => some (b12, σ13)) else (if b1 = (5 : Int32) then zbnd (fX0_size15 N x2 σ2) (fun (b15 : Int32) (σ16 : zSt) => some (b15, σ16)) else (zbnd (fX0_size10 N x2 σ2) (fun (b18 : Int32) (σ19 : zSt) => some (b18, σ19))))))))
def rmX7_ask : Room := { frames := 7, cells := 0, slots := 0, locals := 153 }
def fX7_ask (N : Nat) (x1 : Int32) (x2 : Int32) (σ : zSt) : Option (Int32 × zSt) :=
  zbnd (fX2_hasNode N x1 σ) (fun (b1 : Int32) (σ2 : zSt) => if b1 = 0 then some ((-1000001 : Int32), σ2) else zbnd (fX7_isWithin N x2 (0 : Int32) (1 : Int32) σ2) (fun (b3 : Int32) (σ4 : zSt) => if b3 = 0 then some ((-1000001 : Int32), σ4) else zbnd (fX2_shownNow N σ4) (fun (b5 : Int32) (σ6 : zSt) => zbnd (fX0_start N b5 σ6) (fun (b7 : Unit) (σ8 : zSt) => if x2 = 0 then zbnd (fX0_size N x1 σ8) (fun (b9 : Int32) (σ10 : zSt) => some (b9, σ10)) else zbnd (fX0_mark N x1 σ8) (fun (b11 : Int32) (σ12 : zSt) => some (b11, σ12))))))
def rmX7_trace : Room := { frames := 1, cells := 0, slots := 0, locals := 22 }
def fX7_trace (N : Nat) (x1 : Int32) (σ : zSt) : Option (Int32 × zSt) :=
  zbnd (fX7_isWithin N x1 (0 : Int32) ((σ.1 33 1) - (1 : Int32)) σ) (fun (b1 : Int32) (σ2 : zSt) => if b1 = 0 then some ((-1000000 : Int32), σ2) else zag σ2 34 16 x1 (fun (v3 : Int32) => some (v3, σ2)))
def rmX3_laid : Room := { frames := 0, cells := 0, slots := 0, locals := 0 }
def fX3_laid_4 (N : Nat)  : Nat → Int32 → Int32 → zSt → Option (Int32 × zSt)
  | 0, _, _, _ => none
  | n + 1, x1, x2, σ => if (8 : Int32) ≤ x2 then some (x1, σ) else zag σ 4 8 x2 (fun (v1 : Int32) => if v1 = (-1 : Int32) then fX3_laid_4 N n x1 (x2 + (1 : Int32)) σ else fX3_laid_4 N n (x1 + (1 : Int32)) (x2 + (1 : Int32)) σ)
def fX3_laid (N : Nat)  (σ : zSt) : Option (Int32 × zSt) :=
  fX3_laid_4 N N (0 : Int32) (0 : Int32) σ
def rmX2_grounds : Room := { frames := 1, cells := 0, slots := 0, locals := 22 }
def fX2_grounds (N : Nat)  (σ : zSt) : Option (Int32 × zSt) :=
  zbnd (fX2_claims N σ) (fun (b1 : Int32) (σ2 : zSt) => some (((((1 : Int32) <<< ((σ.1 7 0) &&& 31)) - (1 : Int32)) &&& (b1 ^^^ (-1 : Int32))), σ2))
def rmX7_count : Room := { frames := 2, cells := 0, slots := 0, locals := 45 }
def fX7_count (N : Nat) (x1 : Int32) (σ : zSt) : Option (Int32 × zSt) :=
  if x1 = (0 : Int32) then zbnd (fX3_laid N σ) (fun (b1 : Int32) (σ2 : zSt) => some (b1, σ2)) else (if x1 = (1 : Int32) then some ((σ.1 7 0), σ) else (if x1 = (2 : Int32) then zbnd (fX2_claims N σ) (fun (b5 : Int32) (σ6 : zSt) => zbnd (fJ6_bitCount_0f7a4 N b5 σ6) (fun (b7 : Int32) (σ8 : zSt) => some (b7, σ8))) else (if x1 = (3 : Int32) then some ((σ.1 7 1), σ) else (if x1 = (4 : Int32) then zbnd (fX2_doubtsToldAs N (0 : Int32) σ) (fun (b11 : Int32) (σ12 : zSt) => some (b11, σ12)) else (if x1 = (5 : Int32) then zbnd (fX2_grounds N σ) (fun (b14 : Int32) (σ15 : zSt) => zbnd (fX2_standing N σ15) (fun (b16 : Int32) (σ17 : zSt) => zbnd (fJ6_bitCount_0f7a4 N (b14 &&& (b16 ^^^ (-1 : Int32))) σ17) (fun (b18 : Int32) (σ19 : zSt) => some (b18, σ19)))) else (if x1 = (6 : Int32) then some ((σ.1 23 0), σ) else (if x1 = (7 : Int32) then some ((σ.1 5 1), σ) else (some ((-1000001 : Int32), σ)))))))))
def rmX7_status : Room := { frames := 0, cells := 0, slots := 0, locals := 0 }
def fX7_status (N : Nat)  (σ : zSt) : Option (Int32 × zSt) :=
  some ((σ.1 0 7), σ)
def rmX8_in : Room := { frames := 0, cells := 0, slots := 0, locals := 0 }
def fX8_in (N : Nat) (y0 : Int64) (y2 : Int64) (y4 : Int64) (σ : zSt) : Option (Int32 × zSt) :=
  if y0 < y2 then zrz (0 : Int32) σ else if y4 < y0 then zrz (0 : Int32) σ else zrz (1 : Int32) σ
def rmX8_isSheet : Room := { frames := 1, cells := 0, slots := 0, locals := 25 }
def fX8_isSheet (N : Nat) (x0 : Int32) (σ : zSt) : Option (Int32 × zSt) :=
  zbnd (fX8_in N x0.toInt64 (0 : Int64) (7 : Int64) σ) (fun (b1 : Int32) (σ2 : zSt) => zrz b1 σ2)
def rmX8_finding : Room := { frames := 0, cells := 0, slots := 0, locals := 0 }
def fX8_finding (N : Nat) (x1 : Int32) (σ : zSt) : Option (Int32 × zSt) :=
  zpf σ 0 1 x1 (fun (σ1 : zSt) => some (((-1000010 : Int32) - x1), σ1))
def rmX8_sheet : Room := { frames := 2, cells := 0, slots := 0, locals := 45 }
def fX8_sheet_65 (N : Nat)  : Nat → Int32 → Int32 → Int32 → zSt → Option (Int32 × zSt)
  | 0, _, _, _, _ => none
  | n + 1, x1, x3, x4, σ => if (40 : Int32) ≤ x4 then some (x3, σ) else zas σ 3 320 (((40 : Int32) * x1) + x4) (0 : Int32) (fun (σ1 : zSt) => fX8_sheet_65 N n x1 x3 (x4 + (1 : Int32)) σ1)
def fX8_sheet (N : Nat) (x1 : Int32) (x2 : Int32) (x3 : Int32) (σ : zSt) : Option (Int32 × zSt) :=
  zpf σ 0 0 (0 : Int32) (fun (σ1 : zSt) => zbnd (fX8_isSheet N x1 σ1) (fun (b2 : Int32) (σ3 : zSt) => if b2 = 0 then some ((-1000001 : Int32), σ3) else zbnd (fX8_in N x2.toInt64 (0 : Int64) (2 : Int64) σ3) (fun (b4 : Int32) (σ5 : zSt) => if b4 = 0 then some ((-1000001 : Int32), σ5) else if x3 ≤ (40 : Int32) then zpf σ5 0 1 (0 : Int32) (fun (σ6 : zSt) => if 0 ≤ x3 then zas σ6 1 8 x1 x2 (fun (σ7 : zSt) => zas σ7 2 8 x1 x3 (fun (σ8 : zSt) => fX8_sheet_65 N N x1 x3 (0 : Int32) σ8)) else zbnd (fX8_finding N (4 : Int32) σ6) (fun (b9 : Int32) (σ10 : zSt) => some (b9, σ10))) else some ((-1000001 : Int32), σ5))))
def rmX8_set : Room := { frames := 2, cells := 0, slots := 0, locals := 45 }
def fX8_set_99 (N : Nat)  (x1 : Int32) (x2 : Int32) (s0 : Int32) (s1 : Int32) (σ : zSt) : Option (Int32 × zSt) :=
  zas σ 3 320 s1 s0 (fun (σ1 : zSt) => zag σ1 3 320 (((40 : Int32) * x1) + x2) (fun (v2 : Int32) => some (v2, σ1)))
def fX8_set (N : Nat) (x1 : Int32) (x2 : Int32) (x3 : Int32) (σ : zSt) : Option (Int32 × zSt) :=
  zpf σ 0 0 (0 : Int32) (fun (σ1 : zSt) => zbnd (fX8_isSheet N x1 σ1) (fun (b2 : Int32) (σ3 : zSt) => if b2 = 0 then some ((-1000001 : Int32), σ3) else zpf σ3 0 1 (0 : Int32) (fun (σ4 : zSt) => zag σ4 1 8 x1 (fun (v5 : Int32) => if 0 ≤ v5 then zag σ4 2 8 x1 (fun (v6 : Int32) => zbnd (fX8_in N x2.toInt64 (0 : Int64) (v6 - (1 : Int32)).toInt64 σ4) (fun (b7 : Int32) (σ8 : zSt) => if b7 = 0 then zbnd (fX8_finding N (2 : Int32) σ8) (fun (b9 : Int32) (σ10 : zSt) => some (b9, σ10)) else zag σ8 1 8 x1 (fun (v11 : Int32) => if v11 = 0 then fX8_set_99 N x1 x2 x3.toInt8.toInt32 (((40 : Int32) * x1) + x2) σ8 else zag σ8 1 8 x1 (fun (v12 : Int32) => if v12 = (1 : Int32) then fX8_set_99 N x1 x2 x3.toInt16.toInt32 (((40 : Int32) * x1) + x2) σ8 else fX8_set_99 N x1 x2 x3 (((40 : Int32) * x1) + x2) σ8)))) else zbnd (fX8_finding N (1 : Int32) σ4) (fun (b13 : Int32) (σ14 : zSt) => some (b13, σ14))))))
def rmX8_copy : Room := { frames := 2, cells := 0, slots := 0, locals := 45 }
def fX8_copy_45 (N : Nat)   (σ : zSt) : Option (Int32 × zSt) :=
  zbnd (fX8_finding N (1 : Int32) σ) (fun (b1 : Int32) (σ2 : zSt) => some (b1, σ2))
def fX8_copy_121 (N : Nat)   (σ : zSt) : Option (Int32 × zSt) :=
  zbnd (fX8_finding N (2 : Int32) σ) (fun (b1 : Int32) (σ2 : zSt) => some (b1, σ2))
def fX8_copy_167 (N : Nat) (k143 : Int32 → Int32 → Int32 → Int32 → Int32 → Int32 → Int32 → zSt → Option (Int32 × zSt)) (x1 : Int32) (x2 : Int32) (x3 : Int32) (x4 : Int32) (x5 : Int32) (x6 : Int32) (x7 : Int32) (s0 : Int32) (σ : zSt) : Option (Int32 × zSt) :=
  zag σ 3 320 ((((40 : Int32) * x1) + x2) + s0) (fun (v1 : Int32) => zas σ 3 320 ((((40 : Int32) * x3) + x4) + s0) v1 (fun (σ2 : zSt) => k143 x1 x2 x3 x4 x5 x6 (x7 + (1 : Int32)) σ2))
def fX8_copy_143 (N : Nat)  : Nat → Int32 → Int32 → Int32 → Int32 → Int32 → Int32 → Int32 → zSt → Option (Int32 × zSt)
  | 0, _, _, _, _, _, _, _, _ => none
  | n + 1, x1, x2, x3, x4, x5, x6, x7, σ => if x5 ≤ x7 then some (x5, σ) else if x6 = 0 then fX8_copy_167 N (fX8_copy_143 N n) x1 x2 x3 x4 x5 x6 x7 ((x5 - (1 : Int32)) - x7) σ else fX8_copy_167 N (fX8_copy_143 N n) x1 x2 x3 x4 x5 x6 x7 x7 σ
def fX8_copy_138 (N : Nat)  (x1 : Int32) (x2 : Int32) (x3 : Int32) (x4 : Int32) (x5 : Int32) (s0 : Int32) (σ : zSt) : Option (Int32 × zSt) :=
  fX8_copy_143 N N x1 x2 x3 x4 x5 s0 (0 : Int32) σ
def fX8_copy (N : Nat) (x1 : Int32) (x2 : Int32) (x3 : Int32) (x4 : Int32) (x5 : Int32) (σ : zSt) : Option (Int32 × zSt) :=
  zpf σ 0 0 (0 : Int32) (fun (σ1 : zSt) => zbnd (fX8_isSheet N x1 σ1) (fun (b2 : Int32) (σ3 : zSt) => if b2 = 0 then some ((-1000001 : Int32), σ3) else zbnd (fX8_isSheet N x3 σ3) (fun (b4 : Int32) (σ5 : zSt) => if b4 = 0 then some ((-1000001 : Int32), σ5) else zpf σ5 0 1 (0 : Int32) (fun (σ6 : zSt) => zag σ6 1 8 x1 (fun (v7 : Int32) => if v7 < 0 then fX8_copy_45 N σ6 else zag σ6 1 8 x3 (fun (v8 : Int32) => if 0 ≤ v8 then zag σ6 1 8 x1 (fun (v9 : Int32) => zag σ6 1 8 x3 (fun (v10 : Int32) => if v9 = v10 then if x2 < 0 then fX8_copy_121 N σ6 else if x4 < 0 then fX8_copy_121 N σ6 else if x5 < 0 then fX8_copy_121 N σ6 else zag σ6 2 8 x1 (fun (v11 : Int32) => if v11.toInt64 < (x2.toInt64 + x5.toInt64) then fX8_copy_121 N σ6 else zag σ6 2 8 x3 (fun (v12 : Int32) => if (x4.toInt64 + x5.toInt64) ≤ v12.toInt64 then if x2 < x4 then fX8_copy_138 N x1 x2 x3 x4 x5 (0 : Int32) σ6 else fX8_copy_138 N x1 x2 x3 x4 x5 (1 : Int32) σ6 else fX8_copy_121 N σ6)) else zbnd (fX8_finding N (5 : Int32) σ6) (fun (b13 : Int32) (σ14 : zSt) => some (b13, σ14)))) else fX8_copy_45 N σ6))))))
def rmX8_drop : Room := { frames := 2, cells := 0, slots := 0, locals := 45 }
def fX8_drop (N : Nat) (x1 : Int32) (σ : zSt) : Option (Int32 × zSt) :=
  zpf σ 0 0 (0 : Int32) (fun (σ1 : zSt) => zbnd (fX8_isSheet N x1 σ1) (fun (b2 : Int32) (σ3 : zSt) => if b2 = 0 then some ((-1000001 : Int32), σ3) else zpf σ3 0 1 (0 : Int32) (fun (σ4 : zSt) => zag σ4 1 8 x1 (fun (v5 : Int32) => if 0 ≤ v5 then zas σ4 1 8 x1 (-1 : Int32) (fun (σ6 : zSt) => zag σ6 2 8 x1 (fun (v7 : Int32) => some (v7, σ6))) else zbnd (fX8_finding N (1 : Int32) σ4) (fun (b8 : Int32) (σ9 : zSt) => some (b8, σ9))))))
def rmX8_feed : Room := { frames := 1, cells := 0, slots := 0, locals := 25 }
def fX8_feed_40 (N : Nat)  : Nat → Int64 → Int32 → zSt → Option (Int32 × zSt)
  | 0, _, _, _ => none
  | n + 1, y1, x4, σ => if x4 < 0 then some ((σ.1 0 20), σ) else zas σ 14 400 (σ.1 0 20) ((y1 >>> (((8 : Int32) * x4).toInt64 &&& 63)) &&& (255 : Int64)).toInt32 (fun (σ1 : zSt) => zpf σ1 0 20 ((σ1.1 0 20) + (1 : Int32)) (fun (σ2 : zSt) => fX8_feed_40 N n y1 (x4 + (-1 : Int32)) σ2))
def fX8_feed (N : Nat) (y1 : Int64) (x3 : Int32) (σ : zSt) : Option (Int32 × zSt) :=
  zpf σ 0 0 (0 : Int32) (fun (σ1 : zSt) => zbnd (fX8_in N x3.toInt64 (1 : Int64) (8 : Int64) σ1) (fun (b2 : Int32) (σ3 : zSt) => if b2 = 0 then some ((-1000001 : Int32), σ3) else if ((σ3.1 0 20) + x3) ≤ (400 : Int32) then znm (x3 - (1 : Int32)) (fun (v4 : Int32) => fX8_feed_40 N N y1 v4 σ3) else some ((-1000003 : Int32), σ3)))
def rmX8_byteAt : Room := { frames := 0, cells := 0, slots := 0, locals := 0 }
def fX8_byteAt (N : Nat) (x1 : Int32) (σ : zSt) : Option (Int32 × zSt) :=
  if (σ.1 0 22) ≤ x1 then some ((-1000000 : Int32), σ) else zag σ 14 400 x1 (fun (v1 : Int32) => some (v1, σ))
def rmX8_isLetter : Room := { frames := 0, cells := 0, slots := 0, locals := 0 }
def fX8_isLetter (N : Nat) (x0 : Int32) (σ : zSt) : Option (Int32 × zSt) :=
  if x0 < (97 : Int32) then zrz (0 : Int32) σ else if (122 : Int32) < x0 then zrz (0 : Int32) σ else zrz (1 : Int32) σ
def rmX8_isFigure : Room := { frames := 0, cells := 0, slots := 0, locals := 0 }
def fX8_isFigure (N : Nat) (x0 : Int32) (σ : zSt) : Option (Int32 × zSt) :=
  if x0 < (48 : Int32) then zrz (0 : Int32) σ else if (57 : Int32) < x0 then zrz (0 : Int32) σ else zrz (1 : Int32) σ
def rmX8_next : Room := { frames := 1, cells := 0, slots := 0, locals := 21 }
def fX8_next_26 (N : Nat) (k0 : zSt → Option (Unit × zSt))  (σ : zSt) : Option (Unit × zSt) :=
  zpf σ 0 23 ((σ.1 0 23) + (1 : Int32)) (fun (σ1 : zSt) => k0 σ1)
def fX8_next_196 (N : Nat)   (σ : zSt) : Option (Unit × zSt) :=
  zpf σ 0 26 (σ.1 0 23) (fun (σ1 : zSt) => some ((), σ1))
def fX8_next_77 (N : Nat)  : Nat → zSt → Option (Unit × zSt)
  | 0, _ => none
  | n + 1, σ => zbnd (fX8_byteAt N (σ.1 0 23) σ) (fun (b1 : Int32) (σ2 : zSt) => zbnd (fX8_isLetter N b1 σ2) (fun (b3 : Int32) (σ4 : zSt) => if b3 = 0 then zpf σ4 0 24 (2 : Int32) (fun (σ5 : zSt) => fX8_next_196 N σ5) else zpf σ4 0 23 ((σ4.1 0 23) + (1 : Int32)) (fun (σ6 : zSt) => fX8_next_77 N n σ6)))
def fX8_next_165 (N : Nat)  (s0 : Int32) (σ : zSt) : Option (Unit × zSt) :=
  zpf σ 0 24 s0 (fun (σ1 : zSt) => fX8_next_196 N σ1)
def fX8_next_119 (N : Nat)  : Nat → zSt → Option (Unit × zSt)
  | 0, _ => none
  | n + 1, σ => zbnd (fX8_byteAt N (σ.1 0 23) σ) (fun (b1 : Int32) (σ2 : zSt) => zbnd (fX8_isFigure N b1 σ2) (fun (b3 : Int32) (σ4 : zSt) => if b3 = 0 then if ((σ4.1 0 23) - (σ4.1 0 25)) ≤ (4 : Int32) then fX8_next_165 N (3 : Int32) σ4 else fX8_next_165 N (0 : Int32) σ4 else zpf σ4 0 23 ((σ4.1 0 23) + (1 : Int32)) (fun (σ5 : zSt) => fX8_next_119 N n σ5)))
def fX8_next_193 (N : Nat)  (s0 : Int32) (σ : zSt) : Option (Unit × zSt) :=
  zpf σ 0 24 s0 (fun (σ1 : zSt) => fX8_next_196 N σ1)
def fX8_next_0 (N : Nat)  : Nat → zSt → Option (Unit × zSt)
  | 0, _ => none
  | n + 1, σ => zbnd (fX8_byteAt N (σ.1 0 23) σ) (fun (b1 : Int32) (σ2 : zSt) => if b1 = (32 : Int32) then fX8_next_26 N (fX8_next_0 N n) σ2 else zbnd (fX8_byteAt N (σ2.1 0 23) σ2) (fun (b3 : Int32) (σ4 : zSt) => if b3 = (10 : Int32) then fX8_next_26 N (fX8_next_0 N n) σ4 else zpf σ4 0 25 (σ4.1 0 23) (fun (σ5 : zSt) => zbnd (fX8_byteAt N (σ5.1 0 23) σ5) (fun (b6 : Int32) (σ7 : zSt) => if b6 = (-1000000 : Int32) then zpf σ7 0 24 (1 : Int32) (fun (σ8 : zSt) => fX8_next_196 N σ8) else zbnd (fX8_isLetter N b6 σ7) (fun (b9 : Int32) (σ10 : zSt) => if b9 = 0 then zbnd (fX8_isFigure N b6 σ10) (fun (b11 : Int32) (σ12 : zSt) => if b11 = 0 then zpf σ12 0 23 ((σ12.1 0 23) + (1 : Int32)) (fun (σ13 : zSt) => if b6 = (59 : Int32) then fX8_next_193 N (4 : Int32) σ13 else fX8_next_193 N (0 : Int32) σ13) else fX8_next_119 N N σ12) else fX8_next_77 N N σ10)))))
def fX8_next (N : Nat)  (σ : zSt) : Option (Unit × zSt) :=
  fX8_next_0 N N σ
def rmX8_word : Room := { frames := 0, cells := 0, slots := 0, locals := 0 }
def fX8_word_7 (N : Nat)  : Nat → Int64 → Int32 → zSt → Option (Int64 × zSt)
  | 0, _, _, _ => none
  | n + 1, y1, x3, σ => if (σ.1 0 26) ≤ x3 then some (y1, σ) else if (σ.1 0 24) = (2 : Int32) then if (8 : Int32) ≤ ((σ.1 0 26) - (σ.1 0 25)) then some (y1, σ) else zag σ 14 400 x3 (fun (v1 : Int32) => znm ((y1 <<< ((8 : Int32).toInt64 &&& 63)) ||| v1.toInt64) (fun (v2 : Int64) => fX8_word_7 N n v2 (x3 + (1 : Int32)) σ)) else some (y1, σ)
def fX8_word (N : Nat)  (σ : zSt) : Option (Int64 × zSt) :=
  znm (σ.1 0 25) (fun (v1 : Int32) => fX8_word_7 N N (0 : Int64) v1 σ)
def rmX8_bad : Room := { frames := 0, cells := 0, slots := 0, locals := 0 }
def fX8_bad (N : Nat) (x1 : Int32) (σ : zSt) : Option (Unit × zSt) :=
  if (σ.1 0 27) = 0 then zpf σ 0 27 x1 (fun (σ1 : zSt) => zpf σ1 0 28 (σ1.1 0 25) (fun (σ2 : zSt) => some ((), σ2))) else some ((), σ)
def rmX8_must : Room := { frames := 2, cells := 0, slots := 0, locals := 42 }
def fX8_must_9 (N : Nat)   (σ : zSt) : Option (Unit × zSt) :=
  if (σ.1 0 27) = 0 then zbnd (fX8_next N σ) (fun (b1 : Unit) (σ2 : zSt) => some ((), σ2)) else some ((), σ)
def fX8_must (N : Nat) (x1 : Int32) (σ : zSt) : Option (Unit × zSt) :=
  if x1 = 0 then zbnd (fX8_bad N (1 : Int32) σ) (fun (b1 : Unit) (σ2 : zSt) => fX8_must_9 N σ2) else fX8_must_9 N σ
def rmX8_numberHere : Room := { frames := 0, cells := 0, slots := 0, locals := 0 }
def fX8_numberHere_7 (N : Nat)  : Nat → Int32 → Int32 → zSt → Option (Int32 × zSt)
  | 0, _, _, _ => none
  | n + 1, x1, x2, σ => if (σ.1 0 26) ≤ x2 then some (x1, σ) else if (σ.1 0 24) = (3 : Int32) then zag σ 14 400 x2 (fun (v1 : Int32) => znm ((((10 : Int32) * x1) + v1) - (48 : Int32)) (fun (v2 : Int32) => fX8_numberHere_7 N n v2 (x2 + (1 : Int32)) σ)) else some (x1, σ)
def fX8_numberHere (N : Nat)  (σ : zSt) : Option (Int32 × zSt) :=
  znm (σ.1 0 25) (fun (v1 : Int32) => fX8_numberHere_7 N N (0 : Int32) v1 σ)
def rmX8_readNode : Room := { frames := 3, cells := 0, slots := 0, locals := 63 }
def fX8_readNode_152 (N : Nat)   (σ : zSt) : Option (Unit × zSt) :=
  zpf σ 0 7 ((σ.1 0 7) + (1 : Int32)) (fun (σ1 : zSt) => some ((), σ1))
def fX8_readNode_149 (N : Nat)  (s0 : Int32) (σ : zSt) : Option (Unit × zSt) :=
  zbnd (fX8_must N s0 σ) (fun (b1 : Unit) (σ2 : zSt) => fX8_readNode_152 N σ2)
def fX8_readNode_135 (N : Nat)   (σ : zSt) : Option (Unit × zSt) :=
  if (σ.1 0 24) = (3 : Int32) then fX8_readNode_149 N (1 : Int32) σ else fX8_readNode_149 N (0 : Int32) σ
def fX8_readNode_85 (N : Nat)  (y1 : Int64) (x3 : Int32) (s0 : Int32) (s1 : Int32) (σ : zSt) : Option (Unit × zSt) :=
  zas σ 7 20 s1 s0 (fun (σ1 : zSt) => zas σ1 8 20 x3 (vp_nar .boolean (0 : Int32)) (fun (σ2 : zSt) => if y1 = (427020085613 : Int64) then fX8_readNode_152 N σ2 else zbnd (fX8_numberHere N σ2) (fun (b3 : Int32) (σ4 : zSt) => zas σ4 5 20 x3 b3 (fun (σ5 : zSt) => if (σ5.1 0 24) = (3 : Int32) then zag σ5 5 20 x3 (fun (v6 : Int32) => if v6 ≤ (9 : Int32) then fX8_readNode_135 N σ5 else zbnd (fX8_bad N (2 : Int32) σ5) (fun (b7 : Unit) (σ8 : zSt) => fX8_readNode_135 N σ8)) else fX8_readNode_135 N σ5))))
def fX8_readNode_63 (N : Nat)  (y1 : Int64) (x3 : Int32) (s0 : Int32) (s1 : Int32) (σ : zSt) : Option (Unit × zSt) :=
  zas σ 6 20 s1 s0 (fun (σ1 : zSt) => if y1 = (427020085613 : Int64) then fX8_readNode_85 N y1 x3 (-1000000 : Int32) x3 σ1 else fX8_readNode_85 N y1 x3 (9999 : Int32) x3 σ1)
def fX8_readNode_35 (N : Nat)  (y1 : Int64) (x3 : Int32) (s0 : Int32) (s1 : Int32) (σ : zSt) : Option (Unit × zSt) :=
  zas σ 4 20 s1 s0 (fun (σ1 : zSt) => zas σ1 5 20 x3 (-1000000 : Int32) (fun (σ2 : zSt) => if y1 = (427020085613 : Int64) then fX8_readNode_63 N y1 x3 (-1000000 : Int32) x3 σ2 else fX8_readNode_63 N y1 x3 (0 : Int32) x3 σ2))
def fX8_readNode (N : Nat) (y1 : Int64) (σ : zSt) : Option (Unit × zSt) :=
  znm (σ.1 0 7) (fun (v1 : Int32) => if y1 = (1818583398 : Int64) then fX8_readNode_35 N y1 v1 (0 : Int32) v1 σ else if y1 = (444150998382 : Int64) then fX8_readNode_35 N y1 v1 (1 : Int32) v1 σ else fX8_readNode_35 N y1 v1 (2 : Int32) v1 σ)
def rmX8_isPart : Room := { frames := 0, cells := 0, slots := 0, locals := 0 }
def fX8_isPart_36 (N : Nat) (k5 : Int32 → Int32 → Int32 → Int32 → zSt → Option (Int32 × zSt)) (x1 : Int32) (x2 : Int32) (x4 : Int32) (σ : zSt) : Option (Int32 × zSt) :=
  k5 x1 x2 (1 : Int32) (x4 + (1 : Int32)) σ
def fX8_isPart_5 (N : Nat)  : Nat → Int32 → Int32 → Int32 → Int32 → zSt → Option (Int32 × zSt)
  | 0, _, _, _, _, _ => none
  | n + 1, x1, x2, x3, x4, σ => zag σ 11 16 x1 (fun (v1 : Int32) => if v1 ≤ x4 then zrz x3 σ else if x3 = 0 then zag σ 12 96 (((6 : Int32) * x1) + x4) (fun (v2 : Int32) => if v2 = x2 then fX8_isPart_36 N (fX8_isPart_5 N n) x1 x2 x4 σ else fX8_isPart_5 N n x1 x2 (0 : Int32) (x4 + (1 : Int32)) σ) else fX8_isPart_36 N (fX8_isPart_5 N n) x1 x2 x4 σ)
def fX8_isPart (N : Nat) (x1 : Int32) (x2 : Int32) (σ : zSt) : Option (Int32 × zSt) :=
  fX8_isPart_5 N N x1 x2 (0 : Int32) (0 : Int32) σ
def rmX8_readStep : Room := { frames := 3, cells := 0, slots := 0, locals := 63 }
def fX8_readStep_301 (N : Nat) (k182 : Int32 → Int32 → zSt → Option (Unit × zSt)) (x1 : Int32) (σ : zSt) : Option (Unit × zSt) :=
  if (σ.1 0 27) = 0 then if (σ.1 0 24) = (3 : Int32) then k182 x1 (1 : Int32) σ else k182 x1 (0 : Int32) σ else k182 x1 (0 : Int32) σ
def fX8_readStep_263 (N : Nat) (k182 : Int32 → Int32 → zSt → Option (Unit × zSt)) (x1 : Int32) (x5 : Int32) (s0 : Int32) (σ : zSt) : Option (Unit × zSt) :=
  zbnd (fX8_must N s0 σ) (fun (b1 : Unit) (σ2 : zSt) => if (σ2.1 0 27) = 0 then zag σ2 11 16 x1 (fun (v3 : Int32) => zas σ2 12 96 (((6 : Int32) * x1) + v3) x5 (fun (σ4 : zSt) => zag σ4 11 16 x1 (fun (v5 : Int32) => zas σ4 11 16 x1 (v5 + (1 : Int32)) (fun (σ6 : zSt) => fX8_readStep_301 N k182 x1 σ6)))) else fX8_readStep_301 N k182 x1 σ2)
def fX8_readStep_249 (N : Nat) (k182 : Int32 → Int32 → zSt → Option (Unit × zSt)) (x1 : Int32) (x5 : Int32) (σ : zSt) : Option (Unit × zSt) :=
  if (σ.1 0 24) = (3 : Int32) then fX8_readStep_263 N k182 x1 x5 (1 : Int32) σ else fX8_readStep_263 N k182 x1 x5 (0 : Int32) σ
def fX8_readStep_225 (N : Nat) (k182 : Int32 → Int32 → zSt → Option (Unit × zSt)) (x1 : Int32) (x5 : Int32) (σ : zSt) : Option (Unit × zSt) :=
  if (σ.1 0 24) = (3 : Int32) then zag σ 11 16 x1 (fun (v1 : Int32) => if v1 = (6 : Int32) then zbnd (fX8_bad N (3 : Int32) σ) (fun (b2 : Unit) (σ3 : zSt) => fX8_readStep_249 N k182 x1 x5 σ3) else fX8_readStep_249 N k182 x1 x5 σ) else fX8_readStep_249 N k182 x1 x5 σ
def fX8_readStep_220 (N : Nat) (k182 : Int32 → Int32 → zSt → Option (Unit × zSt)) (x1 : Int32) (x5 : Int32) (σ : zSt) : Option (Unit × zSt) :=
  zbnd (fX8_bad N (2 : Int32) σ) (fun (b1 : Unit) (σ2 : zSt) => fX8_readStep_225 N k182 x1 x5 σ2)
def fX8_readStep_329 (N : Nat)  : Nat → Int32 → Int32 → zSt → Option (Unit × zSt)
  | 0, _, _, _ => none
  | n + 1, x1, x5, σ => if (3 : Int32) ≤ x5 then zpf σ 0 8 ((σ.1 0 8) + (1 : Int32)) (fun (σ1 : zSt) => some ((), σ1)) else zas σ 13 48 (((3 : Int32) * x1) + x5) (0 : Int32) (fun (σ2 : zSt) => fX8_readStep_329 N n x1 (x5 + (1 : Int32)) σ2)
def fX8_readStep_182 (N : Nat)  : Nat → Int32 → Int32 → zSt → Option (Unit × zSt)
  | 0, _, _, _ => none
  | n + 1, x1, x4, σ => if x4 = 0 then fX8_readStep_329 N N x1 (0 : Int32) σ else zbnd (fX8_numberHere N σ) (fun (b1 : Int32) (σ2 : zSt) => if (σ2.1 0 24) = (3 : Int32) then if (σ2.1 0 7) ≤ b1 then fX8_readStep_220 N (fX8_readStep_182 N n) x1 b1 σ2 else zbnd (fX8_isPart N x1 b1 σ2) (fun (b3 : Int32) (σ4 : zSt) => if b3 = 0 then fX8_readStep_225 N (fX8_readStep_182 N n) x1 b1 σ4 else fX8_readStep_220 N (fX8_readStep_182 N n) x1 b1 σ4) else fX8_readStep_225 N (fX8_readStep_182 N n) x1 b1 σ2)
def fX8_readStep_180 (N : Nat)  (x1 : Int32) (s0 : Int32) (σ : zSt) : Option (Unit × zSt) :=
  fX8_readStep_182 N N x1 s0 σ
def fX8_readStep_161 (N : Nat)  (x1 : Int32) (σ : zSt) : Option (Unit × zSt) :=
  zas σ 11 16 x1 (0 : Int32) (fun (σ1 : zSt) => if (σ1.1 0 27) = 0 then fX8_readStep_180 N x1 (1 : Int32) σ1 else fX8_readStep_180 N x1 (0 : Int32) σ1)
def fX8_readStep_158 (N : Nat)  (x1 : Int32) (s0 : Int32) (σ : zSt) : Option (Unit × zSt) :=
  zbnd (fX8_must N s0 σ) (fun (b1 : Unit) (σ2 : zSt) => fX8_readStep_161 N x1 σ2)
def fX8_readStep_144 (N : Nat)  (x1 : Int32) (σ : zSt) : Option (Unit × zSt) :=
  if (σ.1 0 24) = (3 : Int32) then fX8_readStep_158 N x1 (1 : Int32) σ else fX8_readStep_158 N x1 (0 : Int32) σ
def fX8_readStep_139 (N : Nat)  (x1 : Int32) (σ : zSt) : Option (Unit × zSt) :=
  zbnd (fX8_bad N (2 : Int32) σ) (fun (b1 : Unit) (σ2 : zSt) => fX8_readStep_144 N x1 σ2)
def fX8_readStep_83 (N : Nat)  (x1 : Int32) (s0 : Int32) (σ : zSt) : Option (Unit × zSt) :=
  zbnd (fX8_must N s0 σ) (fun (b1 : Unit) (σ2 : zSt) => if (σ2.1 0 27) = 0 then zbnd (fX8_numberHere N σ2) (fun (b3 : Int32) (σ4 : zSt) => zas σ4 10 16 x1 b3 (fun (σ5 : zSt) => if (σ5.1 0 24) = (3 : Int32) then zag σ5 10 16 x1 (fun (v6 : Int32) => if (σ5.1 0 7) ≤ v6 then fX8_readStep_139 N x1 σ5 else zag σ5 10 16 x1 (fun (v7 : Int32) => zag σ5 4 20 v7 (fun (v8 : Int32) => if v8 = (2 : Int32) then fX8_readStep_144 N x1 σ5 else fX8_readStep_139 N x1 σ5))) else fX8_readStep_144 N x1 σ5)) else fX8_readStep_161 N x1 σ2)
def fX8_readStep_65 (N : Nat)  (x1 : Int32) (s0 : Int32) (s1 : Int32) (σ : zSt) : Option (Unit × zSt) :=
  zas σ 9 16 s1 s0 (fun (σ1 : zSt) => zag σ1 9 16 x1 (fun (v2 : Int32) => if v2 = (-1000000 : Int32) then fX8_readStep_83 N x1 (0 : Int32) σ1 else fX8_readStep_83 N x1 (1 : Int32) σ1))
def fX8_readStep (N : Nat)  (σ : zSt) : Option (Unit × zSt) :=
  znm (σ.1 0 8) (fun (v1 : Int32) => zbnd (fX8_word N σ) (fun (b2 : Int64) (σ3 : zSt) => if b2 = (6384748 : Int64) then fX8_readStep_65 N v1 (0 : Int32) v1 σ3 else if b2 = (6385273 : Int64) then fX8_readStep_65 N v1 (1 : Int32) v1 σ3 else if b2 = (1836020596 : Int64) then fX8_readStep_65 N v1 (2 : Int32) v1 σ3 else if b2 = (1818848101 : Int64) then fX8_readStep_65 N v1 (3 : Int32) v1 σ3 else fX8_readStep_65 N v1 (-1000000 : Int32) v1 σ3))
def rmX8_net : Room := { frames := 4, cells := 0, slots := 0, locals := 88 }
def fX8_net_205 (N : Nat) (k48 : zSt → Option (Int32 × zSt)) (s0 : Int32) (σ : zSt) : Option (Int32 × zSt) :=
  zbnd (fX8_must N s0 σ) (fun (b1 : Unit) (σ2 : zSt) => k48 σ2)
def fX8_net_184 (N : Nat) (k48 : zSt → Option (Int32 × zSt))  (σ : zSt) : Option (Int32 × zSt) :=
  if (σ.1 0 27) = 0 then if (σ.1 0 24) = (4 : Int32) then fX8_net_205 N k48 (1 : Int32) σ else fX8_net_205 N k48 (0 : Int32) σ else k48 σ
def fX8_net_173 (N : Nat) (k48 : zSt → Option (Int32 × zSt))  (σ : zSt) : Option (Int32 × zSt) :=
  if (σ.1 0 27) = 0 then zbnd (fX8_readStep N σ) (fun (b1 : Unit) (σ2 : zSt) => fX8_net_184 N k48 σ2) else fX8_net_184 N k48 σ
def fX8_net_151 (N : Nat) (k48 : zSt → Option (Int32 × zSt)) (y1 : Int64) (x3 : Int32) (s0 : Int32) (σ : zSt) : Option (Int32 × zSt) :=
  zbnd (fX8_must N s0 σ) (fun (b1 : Unit) (σ2 : zSt) => if (σ2.1 0 27) = 0 then if x3 = 0 then fX8_net_173 N k48 σ2 else zbnd (fX8_readNode N y1 σ2) (fun (b3 : Unit) (σ4 : zSt) => fX8_net_184 N k48 σ4) else fX8_net_173 N k48 σ2)
def fX8_net_146 (N : Nat) (k48 : zSt → Option (Int32 × zSt)) (y1 : Int64) (x3 : Int32) (σ : zSt) : Option (Int32 × zSt) :=
  fX8_net_151 N k48 y1 x3 (1 : Int32) σ
def fX8_net_133 (N : Nat) (k48 : zSt → Option (Int32 × zSt)) (y1 : Int64) (x3 : Int32) (σ : zSt) : Option (Int32 × zSt) :=
  if x3 = 0 then if y1 = (1937007984 : Int64) then fX8_net_146 N k48 y1 x3 σ else fX8_net_151 N k48 y1 x3 (0 : Int32) σ else fX8_net_146 N k48 y1 x3 σ
def fX8_net_128 (N : Nat) (k48 : zSt → Option (Int32 × zSt)) (y1 : Int64) (x3 : Int32) (σ : zSt) : Option (Int32 × zSt) :=
  zbnd (fX8_bad N (3 : Int32) σ) (fun (b1 : Unit) (σ2 : zSt) => fX8_net_133 N k48 y1 x3 σ2)
def fX8_net_111 (N : Nat) (k48 : zSt → Option (Int32 × zSt)) (y1 : Int64) (x3 : Int32) (σ : zSt) : Option (Int32 × zSt) :=
  if y1 = (1937007984 : Int64) then if (σ.1 0 8) = (16 : Int32) then fX8_net_128 N k48 y1 x3 σ else fX8_net_133 N k48 y1 x3 σ else fX8_net_133 N k48 y1 x3 σ
def fX8_net_97 (N : Nat) (k48 : zSt → Option (Int32 × zSt)) (y1 : Int64) (s0 : Int32) (σ : zSt) : Option (Int32 × zSt) :=
  if s0 = 0 then fX8_net_111 N k48 y1 s0 σ else if (σ.1 0 7) = (20 : Int32) then fX8_net_128 N k48 y1 s0 σ else fX8_net_111 N k48 y1 s0 σ
def fX8_net_92 (N : Nat) (k48 : zSt → Option (Int32 × zSt)) (y1 : Int64) (σ : zSt) : Option (Int32 × zSt) :=
  fX8_net_97 N k48 y1 (1 : Int32) σ
def fX8_net_211 (N : Nat)   (σ : zSt) : Option (Int32 × zSt) :=
  if (σ.1 0 27) ≤ 0 then zpf σ 0 5 (σ.1 0 7) (fun (σ1 : zSt) => zpf σ1 0 6 (σ1.1 0 8) (fun (σ2 : zSt) => some ((σ2.1 0 5), σ2))) else zpf σ 0 21 (σ.1 0 27) (fun (σ3 : zSt) => some (((-1000100 : Int32) - (σ3.1 0 28)), σ3))
def fX8_net_48 (N : Nat)  : Nat → zSt → Option (Int32 × zSt)
  | 0, _ => none
  | n + 1, σ => if (σ.1 0 27) = 0 then if (σ.1 0 24) = (1 : Int32) then fX8_net_211 N σ else zbnd (fX8_word N σ) (fun (b1 : Int64) (σ2 : zSt) => if b1 = (1818583398 : Int64) then fX8_net_92 N (fX8_net_48 N n) b1 σ2 else if b1 = (444150998382 : Int64) then fX8_net_92 N (fX8_net_48 N n) b1 σ2 else if b1 = (427020085613 : Int64) then fX8_net_92 N (fX8_net_48 N n) b1 σ2 else fX8_net_97 N (fX8_net_48 N n) b1 (0 : Int32) σ2) else fX8_net_211 N σ
def fX8_net (N : Nat)  (σ : zSt) : Option (Int32 × zSt) :=
  zpf σ 0 0 (0 : Int32) (fun (σ1 : zSt) => zpf σ1 0 22 (σ1.1 0 20) (fun (σ2 : zSt) => zpf σ2 0 20 (0 : Int32) (fun (σ3 : zSt) => zpf σ3 0 23 (0 : Int32) (fun (σ4 : zSt) => zpf σ4 0 27 (0 : Int32) (fun (σ5 : zSt) => zpf σ5 0 7 (σ5.1 0 5) (fun (σ6 : zSt) => zpf σ6 0 8 (σ6.1 0 6) (fun (σ7 : zSt) => zbnd (fX8_next N σ7) (fun (b8 : Unit) (σ9 : zSt) => fX8_net_48 N N σ9))))))))
def rmX8_fault : Room := { frames := 0, cells := 0, slots := 0, locals := 0 }
def fX8_fault (N : Nat)  (σ : zSt) : Option (Int32 × zSt) :=
  zpf σ 0 0 (0 : Int32) (fun (σ1 : zSt) => some ((σ1.1 0 21), σ1))
def rmX8_isNode : Room := { frames := 1, cells := 0, slots := 0, locals := 25 }
def fX8_isNode (N : Nat) (x1 : Int32) (σ : zSt) : Option (Int32 × zSt) :=
  zbnd (fX8_in N x1.toInt64 (0 : Int64) ((σ.1 0 5) - (1 : Int32)).toInt64 σ) (fun (b1 : Int32) (σ2 : zSt) => zrz b1 σ2)
def rmX8_stands : Room := { frames := 0, cells := 0, slots := 0, locals := 0 }
def fX8_stands (N : Nat) (x1 : Int32) (σ : zSt) : Option (Int32 × zSt) :=
  zag σ 8 20 x1 (fun (v1 : Int32) => if v1 = 0 then zag σ 6 20 x1 (fun (v2 : Int32) => zag σ 7 20 x1 (fun (v3 : Int32) => if v3 < ((σ.1 0 29) - v2) then zrz (0 : Int32) σ else zrz (1 : Int32) σ)) else zrz (0 : Int32) σ)
def rmX8_standing : Room := { frames := 1, cells := 0, slots := 0, locals := 21 }
def fX8_standing_38 (N : Nat) (k4 : Int32 → Int32 → zSt → Option (Int32 × zSt)) (x2 : Int32) (s0 : Int32) (s1 : Int32) (σ : zSt) : Option (Int32 × zSt) :=
  znm (s1 ||| s0) (fun (v1 : Int32) => k4 v1 (x2 + (1 : Int32)) σ)
def fX8_standing_37 (N : Nat) (k4 : Int32 → Int32 → zSt → Option (Int32 × zSt)) (x2 : Int32) (s0 : Int32) (σ : zSt) : Option (Int32 × zSt) :=
  fX8_standing_38 N k4 x2 (0 : Int32) s0 σ
def fX8_standing_4 (N : Nat)  : Nat → Int32 → Int32 → zSt → Option (Int32 × zSt)
  | 0, _, _, _ => none
  | n + 1, x1, x2, σ => if (σ.1 0 5) ≤ x2 then some (x1, σ) else zag σ 4 20 x2 (fun (v1 : Int32) => if (2 : Int32) ≤ v1 then fX8_standing_37 N (fX8_standing_4 N n) x2 x1 σ else zbnd (fX8_stands N x2 σ) (fun (b2 : Int32) (σ3 : zSt) => if b2 = 0 then fX8_standing_37 N (fX8_standing_4 N n) x2 x1 σ3 else fX8_standing_38 N (fX8_standing_4 N n) x2 ((1 : Int32) <<< (x2 &&& 31)) x1 σ3))
def fX8_standing (N : Nat)  (σ : zSt) : Option (Int32 × zSt) :=
  fX8_standing_4 N N (0 : Int32) (0 : Int32) σ
def rmX8_doubtsOf : Room := { frames := 0, cells := 0, slots := 0, locals := 0 }
def fX8_doubtsOf (N : Nat) (x0 : Int32) (σ : zSt) : Option (Int32 × zSt) :=
  if x0 = (1 : Int32) then some ((1 : Int32), σ) else if x0 = (3 : Int32) then some ((3 : Int32), σ) else some ((2 : Int32), σ)
def rmX8_openOf : Room := { frames := 1, cells := 0, slots := 0, locals := 20 }
def fX8_openOf_36 (N : Nat) (k4 : Int32 → Int32 → Int32 → zSt → Option (Int32 × zSt)) (x1 : Int32) (x3 : Int32) (s0 : Int32) (s1 : Int32) (σ : zSt) : Option (Int32 × zSt) :=
  znm (s1 + s0) (fun (v1 : Int32) => k4 x1 v1 (x3 + (1 : Int32)) σ)
def fX8_openOf_4 (N : Nat)  : Nat → Int32 → Int32 → Int32 → zSt → Option (Int32 × zSt)
  | 0, _, _, _, _ => none
  | n + 1, x1, x2, x3, σ => zag σ 9 16 x1 (fun (v1 : Int32) => zbnd (fX8_doubtsOf N v1 σ) (fun (b2 : Int32) (σ3 : zSt) => if b2 ≤ x3 then some (x2, σ3) else zag σ3 13 48 (((3 : Int32) * x1) + x3) (fun (v4 : Int32) => if v4 = 0 then fX8_openOf_36 N (fX8_openOf_4 N n) x1 x3 (1 : Int32) x2 σ3 else fX8_openOf_36 N (fX8_openOf_4 N n) x1 x3 (0 : Int32) x2 σ3)))
def fX8_openOf (N : Nat) (x1 : Int32) (σ : zSt) : Option (Int32 × zSt) :=
  fX8_openOf_4 N N x1 (0 : Int32) (0 : Int32) σ
def rmX8_isBorneUp : Room := { frames := 0, cells := 0, slots := 0, locals := 0 }
def fX8_isBorneUp_5 (N : Nat)  : Nat → Int32 → Int32 → Int32 → Int32 → zSt → Option (Int32 × zSt)
  | 0, _, _, _, _, _ => none
  | n + 1, x1, x2, x3, x4, σ => zag σ 11 16 x1 (fun (v1 : Int32) => if v1 ≤ x4 then zag σ 9 16 x1 (fun (v2 : Int32) => if v2 = 0 then zag σ 11 16 x1 (fun (v3 : Int32) => if x3 = v3 then zrz (1 : Int32) σ else zrz (0 : Int32) σ) else zag σ 9 16 x1 (fun (v4 : Int32) => if v4 = (1 : Int32) then if x3 ≤ 0 then zrz (0 : Int32) σ else zrz (1 : Int32) σ else zag σ 9 16 x1 (fun (v5 : Int32) => if v5 = (2 : Int32) then zag σ 11 16 x1 (fun (v6 : Int32) => if ((2 : Int32) * x3) ≤ v6 then zrz (0 : Int32) σ else zrz (1 : Int32) σ) else zag σ 12 96 ((6 : Int32) * x1) (fun (v7 : Int32) => if ((x2 >>> (v7 &&& 31)) &&& (1 : Int32)) = (1 : Int32) then zrz (1 : Int32) σ else zrz (0 : Int32) σ)))) else zag σ 12 96 (((6 : Int32) * x1) + x4) (fun (v8 : Int32) => znm (x3 + ((x2 >>> (v8 &&& 31)) &&& (1 : Int32))) (fun (v9 : Int32) => fX8_isBorneUp_5 N n x1 x2 v9 (x4 + (1 : Int32)) σ)))
def fX8_isBorneUp (N : Nat) (x1 : Int32) (x2 : Int32) (σ : zSt) : Option (Int32 × zSt) :=
  fX8_isBorneUp_5 N N x1 x2 (0 : Int32) (0 : Int32) σ
def rmX8_shownBy : Room := { frames := 2, cells := 0, slots := 0, locals := 43 }
def fX8_shownBy_75 (N : Nat) (k10 : Int32 → Int32 → Int32 → zSt → Option (Int32 × zSt)) (k21 : Int32 → Int32 → Int32 → Int32 → zSt → Option (Int32 × zSt)) (x2 : Int32) (x3 : Int32) (x6 : Int32) (s0 : Int32) (s1 : Int32) (σ : zSt) : Option (Int32 × zSt) :=
  znm (s1 ||| s0) (fun (v1 : Int32) => k21 x2 x3 v1 (x6 + (1 : Int32)) σ)
def fX8_shownBy_74 (N : Nat) (k10 : Int32 → Int32 → Int32 → zSt → Option (Int32 × zSt)) (k21 : Int32 → Int32 → Int32 → Int32 → zSt → Option (Int32 × zSt)) (x2 : Int32) (x3 : Int32) (x6 : Int32) (s0 : Int32) (σ : zSt) : Option (Int32 × zSt) :=
  fX8_shownBy_75 N k10 k21 x2 x3 x6 (0 : Int32) s0 σ
def fX8_shownBy_112 (N : Nat) (k10 : Int32 → Int32 → Int32 → zSt → Option (Int32 × zSt)) (x2 : Int32) (x4 : Int32) (x5 : Int32) (s0 : Int32) (s1 : Int32) (σ : zSt) : Option (Int32 × zSt) :=
  zpf σ 0 30 (s1 + s0) (fun (σ1 : zSt) => k10 x2 x5 x4 σ1)
def fX8_shownBy_95 (N : Nat) (k10 : Int32 → Int32 → Int32 → zSt → Option (Int32 × zSt)) (x2 : Int32) (x5 : Int32) (s0 : Int32) (σ : zSt) : Option (Int32 × zSt) :=
  if s0 = 0 then fX8_shownBy_112 N k10 x2 s0 x5 (0 : Int32) (σ.1 0 30) σ else fX8_shownBy_112 N k10 x2 s0 x5 (1 : Int32) (σ.1 0 30) σ
def fX8_shownBy_21 (N : Nat) (k10 : Int32 → Int32 → Int32 → zSt → Option (Int32 × zSt)) : Nat → Int32 → Int32 → Int32 → Int32 → zSt → Option (Int32 × zSt)
  | 0, _, _, _, _, _ => none
  | n + 1, x2, x3, x5, x6, σ => if (σ.1 0 6) ≤ x6 then if x5 = x3 then fX8_shownBy_95 N k10 x2 x5 (0 : Int32) σ else fX8_shownBy_95 N k10 x2 x5 (1 : Int32) σ else zag σ 10 16 x6 (fun (v1 : Int32) => if v1 = x2 then fX8_shownBy_74 N k10 (fX8_shownBy_21 N k10 n) x2 x3 x6 x5 σ else zbnd (fX8_openOf N x6 σ) (fun (b2 : Int32) (σ3 : zSt) => if b2 = 0 then zbnd (fX8_isBorneUp N x6 x3 σ3) (fun (b4 : Int32) (σ5 : zSt) => if b4 = 0 then fX8_shownBy_74 N k10 (fX8_shownBy_21 N k10 n) x2 x3 x6 x5 σ5 else zag σ5 10 16 x6 (fun (v6 : Int32) => fX8_shownBy_75 N k10 (fX8_shownBy_21 N k10 n) x2 x3 x6 ((1 : Int32) <<< (v6 &&& 31)) x5 σ5)) else fX8_shownBy_74 N k10 (fX8_shownBy_21 N k10 n) x2 x3 x6 x5 σ3))
def fX8_shownBy_10 (N : Nat)  : Nat → Int32 → Int32 → Int32 → zSt → Option (Int32 × zSt)
  | 0, _, _, _, _ => none
  | n + 1, x2, x3, x4, σ => if x4 = 0 then some (x3, σ) else fX8_shownBy_21 N (fX8_shownBy_10 N n) N x2 x3 x3 (0 : Int32) σ
def fX8_shownBy (N : Nat) (x1 : Int32) (x2 : Int32) (σ : zSt) : Option (Int32 × zSt) :=
  zpf σ 0 30 (0 : Int32) (fun (σ1 : zSt) => fX8_shownBy_10 N N x2 x1 (1 : Int32) σ1)
def rmX8_shownNow : Room := { frames := 3, cells := 0, slots := 0, locals := 69 }
def fX8_shownNow (N : Nat)  (σ : zSt) : Option (Int32 × zSt) :=
  zbnd (fX8_standing N σ) (fun (b1 : Int32) (σ2 : zSt) => zbnd (fX8_shownBy N b1 (-1000000 : Int32) σ2) (fun (b3 : Int32) (σ4 : zSt) => some (b3, σ4)))
def rmX8_node : Room := { frames := 4, cells := 0, slots := 0, locals := 89 }
def fX8_node (N : Nat) (x1 : Int32) (x2 : Int32) (σ : zSt) : Option (Int32 × zSt) :=
  zpf σ 0 0 (0 : Int32) (fun (σ1 : zSt) => zbnd (fX8_isNode N x1 σ1) (fun (b2 : Int32) (σ3 : zSt) => if b2 = 0 then some ((-1000001 : Int32), σ3) else zbnd (fX8_in N x2.toInt64 (0 : Int64) (5 : Int64) σ3) (fun (b4 : Int32) (σ5 : zSt) => if b4 = 0 then some ((-1000001 : Int32), σ5) else if x2 = (0 : Int32) then zag σ5 4 20 x1 (fun (v6 : Int32) => some (v6, σ5)) else (if x2 = (1 : Int32) then zag σ5 5 20 x1 (fun (v8 : Int32) => some (v8, σ5)) else (if x2 = (2 : Int32) then zag σ5 6 20 x1 (fun (v10 : Int32) => some (v10, σ5)) else (if x2 = (3 : Int32) then zag σ5 7 20 x1 (fun (v12 : Int32) => some (v12, σ5)) else (if x2 = (4 : Int32) then zag σ5 8 20 x1 (fun (v14 : Int32) => if v14 = 0 then some ((0 : Int32), σ5) else some ((1 : Int32), σ5)) else (zbnd (fX8_shownNow N σ5) (fun (b16 : Int32) (σ17 : zSt) => some (((b16 >>> (x1 &&& 31)) &&& (1 : Int32)), σ17))))))))))
def rmX8_isStep : Room := { frames := 1, cells := 0, slots := 0, locals := 25 }
def fX8_isStep (N : Nat) (x1 : Int32) (σ : zSt) : Option (Int32 × zSt) :=
  zbnd (fX8_in N x1.toInt64 (0 : Int64) ((σ.1 0 6) - (1 : Int32)).toInt64 σ) (fun (b1 : Int32) (σ2 : zSt) => zrz b1 σ2)
def rmX8_step : Room := { frames := 4, cells := 0, slots := 0, locals := 89 }
def fX8_step (N : Nat) (x1 : Int32) (x2 : Int32) (σ : zSt) : Option (Int32 × zSt) :=
  zpf σ 0 0 (0 : Int32) (fun (σ1 : zSt) => zbnd (fX8_isStep N x1 σ1) (fun (b2 : Int32) (σ3 : zSt) => if b2 = 0 then some ((-1000001 : Int32), σ3) else zbnd (fX8_in N x2.toInt64 (0 : Int64) (5 : Int64) σ3) (fun (b4 : Int32) (σ5 : zSt) => if b4 = 0 then some ((-1000001 : Int32), σ5) else if x2 = (0 : Int32) then zag σ5 9 16 x1 (fun (v6 : Int32) => some (v6, σ5)) else (if x2 = (1 : Int32) then zag σ5 10 16 x1 (fun (v8 : Int32) => some (v8, σ5)) else (if x2 = (2 : Int32) then zag σ5 11 16 x1 (fun (v10 : Int32) => some (v10, σ5)) else (if x2 = (3 : Int32) then zag σ5 9 16 x1 (fun (v12 : Int32) => zbnd (fX8_doubtsOf N v12 σ5) (fun (b13 : Int32) (σ14 : zSt) => some (b13, σ14))) else (if x2 = (4 : Int32) then zbnd (fX8_openOf N x1 σ5) (fun (b16 : Int32) (σ17 : zSt) => some (b16, σ17)) else (zbnd (fX8_shownNow N σ5) (fun (b19 : Int32) (σ20 : zSt) => zbnd (fX8_isBorneUp N x1 b19 σ20) (fun (b21 : Int32) (σ22 : zSt) => if b21 = 0 then some ((0 : Int32), σ22) else some ((1 : Int32), σ22)))))))))))
def rmX8_part : Room := { frames := 2, cells := 0, slots := 0, locals := 46 }
def fX8_part_17 (N : Nat)   (σ : zSt) : Option (Int32 × zSt) :=
  some ((-1000001 : Int32), σ)
def fX8_part (N : Nat) (x1 : Int32) (x2 : Int32) (σ : zSt) : Option (Int32 × zSt) :=
  zpf σ 0 0 (0 : Int32) (fun (σ1 : zSt) => zbnd (fX8_isStep N x1 σ1) (fun (b2 : Int32) (σ3 : zSt) => if b2 = 0 then fX8_part_17 N σ3 else if 0 ≤ x2 then zag σ3 11 16 x1 (fun (v4 : Int32) => if v4 ≤ x2 then some ((-1000000 : Int32), σ3) else zag σ3 12 96 (((6 : Int32) * x1) + x2) (fun (v5 : Int32) => some (v5, σ3))) else fX8_part_17 N σ3))
def rmX8_doubt : Room := { frames := 2, cells := 0, slots := 0, locals := 46 }
def fX8_doubt (N : Nat) (x1 : Int32) (x2 : Int32) (x3 : Int32) (σ : zSt) : Option (Int32 × zSt) :=
  zpf σ 0 0 (0 : Int32) (fun (σ1 : zSt) => zbnd (fX8_isStep N x1 σ1) (fun (b2 : Int32) (σ3 : zSt) => if b2 = 0 then some ((-1000001 : Int32), σ3) else zag σ3 9 16 x1 (fun (v4 : Int32) => zbnd (fX8_doubtsOf N v4 σ3) (fun (b5 : Int32) (σ6 : zSt) => zbnd (fX8_in N x2.toInt64 (0 : Int64) (b5 - (1 : Int32)).toInt64 σ6) (fun (b7 : Int32) (σ8 : zSt) => if b7 = 0 then some ((-1000001 : Int32), σ8) else zbnd (fX8_in N x3.toInt64 (0 : Int64) (11 : Int64) σ8) (fun (b9 : Int32) (σ10 : zSt) => if b9 = 0 then some ((-1000001 : Int32), σ10) else zag σ10 13 48 (((3 : Int32) * x1) + x2) (fun (v11 : Int32) => zas σ10 13 48 (((3 : Int32) * x1) + x2) x3 (fun (σ12 : zSt) => some (v11, σ12)))))))))
def rmX8_borne : Room := { frames := 1, cells := 0, slots := 0, locals := 25 }
def fX8_borne_52 (N : Nat) (k24 : Int32 → Int32 → Int32 → zSt → Option (Int32 × zSt)) (x1 : Int32) (x3 : Int32) (s0 : Int32) (s1 : Int32) (σ : zSt) : Option (Int32 × zSt) :=
  znm (s1 + s0) (fun (v1 : Int32) => k24 x1 v1 (x3 + (1 : Int32)) σ)
def fX8_borne_24 (N : Nat)  : Nat → Int32 → Int32 → Int32 → zSt → Option (Int32 × zSt)
  | 0, _, _, _, _ => none
  | n + 1, x1, x2, x3, σ => if ((3 : Int32) * (σ.1 0 6)) ≤ x3 then some (x2, σ) else zag σ 13 48 x3 (fun (v1 : Int32) => if v1 = ((2 : Int32) + x1) then fX8_borne_52 N (fX8_borne_24 N n) x1 x3 (1 : Int32) x2 σ else fX8_borne_52 N (fX8_borne_24 N n) x1 x3 (0 : Int32) x2 σ)
def fX8_borne (N : Nat) (x1 : Int32) (σ : zSt) : Option (Int32 × zSt) :=
  zpf σ 0 0 (0 : Int32) (fun (σ1 : zSt) => zbnd (fX8_in N x1.toInt64 (0 : Int64) (9 : Int64) σ1) (fun (b2 : Int32) (σ3 : zSt) => if b2 = 0 then some ((-1000001 : Int32), σ3) else fX8_borne_24 N N x1 (0 : Int32) (0 : Int32) σ3))
def rmX8_isLeaf : Room := { frames := 2, cells := 0, slots := 0, locals := 46 }
def fX8_isLeaf (N : Nat) (x1 : Int32) (σ : zSt) : Option (Int32 × zSt) :=
  zbnd (fX8_isNode N x1 σ) (fun (b1 : Int32) (σ2 : zSt) => if b1 = 0 then zrz (0 : Int32) σ2 else zag σ2 4 20 x1 (fun (v3 : Int32) => if (2 : Int32) ≤ v3 then zrz (0 : Int32) σ2 else zrz (1 : Int32) σ2))
def rmX8_looked : Room := { frames := 3, cells := 0, slots := 0, locals := 67 }
def fX8_looked_64 (N : Nat)   (σ : zSt) : Option (Int32 × zSt) :=
  zbnd (fX8_finding N (2 : Int32) σ) (fun (b1 : Int32) (σ2 : zSt) => some (b1, σ2))
def fX8_looked_165 (N : Nat)  : Nat → Int32 → Int32 → Int32 → zSt → Option (Int32 × zSt)
  | 0, _, _, _, _ => none
  | n + 1, x3, x4, x5, σ => if (x4 + ((3 : Int32) * x3)) ≤ x5 then some (x3, σ) else zag σ 3 320 x5 (fun (v1 : Int32) => zag σ 3 320 (x5 + (1 : Int32)) (fun (v2 : Int32) => zas σ 6 20 v1 v2 (fun (σ3 : zSt) => zag σ3 3 320 x5 (fun (v4 : Int32) => zag σ3 3 320 (x5 + (2 : Int32)) (fun (v5 : Int32) => zas σ3 7 20 v4 v5 (fun (σ6 : zSt) => fX8_looked_165 N n x3 x4 (x5 + (3 : Int32)) σ6))))))
def fX8_looked_82 (N : Nat)  : Nat → Int32 → Int32 → Int32 → zSt → Option (Int32 × zSt)
  | 0, _, _, _, _ => none
  | n + 1, x3, x4, x5, σ => if (x4 + ((3 : Int32) * x3)) ≤ x5 then zpf σ 0 1 (0 : Int32) (fun (σ1 : zSt) => fX8_looked_165 N N x3 x4 x4 σ1) else zag σ 3 320 x5 (fun (v2 : Int32) => zbnd (fX8_isLeaf N v2 σ) (fun (b3 : Int32) (σ4 : zSt) => if b3 = 0 then some ((-1000001 : Int32), σ4) else zag σ4 3 320 (x5 + (1 : Int32)) (fun (v5 : Int32) => zbnd (fX8_in N v5.toInt64 (0 : Int64) (9999 : Int64) σ4) (fun (b6 : Int32) (σ7 : zSt) => if b6 = 0 then some ((-1000001 : Int32), σ7) else zag σ7 3 320 (x5 + (2 : Int32)) (fun (v8 : Int32) => zbnd (fX8_in N v8.toInt64 (0 : Int64) (9999 : Int64) σ7) (fun (b9 : Int32) (σ10 : zSt) => if b9 = 0 then some ((-1000001 : Int32), σ10) else fX8_looked_82 N n x3 x4 (x5 + (3 : Int32)) σ10))))))
def fX8_looked (N : Nat) (x1 : Int32) (x2 : Int32) (x3 : Int32) (σ : zSt) : Option (Int32 × zSt) :=
  zpf σ 0 0 (0 : Int32) (fun (σ1 : zSt) => zbnd (fX8_isSheet N x1 σ1) (fun (b2 : Int32) (σ3 : zSt) => if b2 = 0 then some ((-1000001 : Int32), σ3) else zbnd (fX8_in N x3.toInt64 (1 : Int64) (8 : Int64) σ3) (fun (b4 : Int32) (σ5 : zSt) => if b4 = 0 then some ((-1000001 : Int32), σ5) else zag σ5 1 8 x1 (fun (v6 : Int32) => if 0 ≤ v6 then if x2 < 0 then fX8_looked_64 N σ5 else zag σ5 2 8 x1 (fun (v7 : Int32) => if (x2.toInt64 + ((3 : Int32) * x3).toInt64) ≤ v7.toInt64 then znm (((40 : Int32) * x1) + x2) (fun (v8 : Int32) => fX8_looked_82 N N x3 v8 v8 σ5) else fX8_looked_64 N σ5) else zbnd (fX8_finding N (1 : Int32) σ5) (fun (b9 : Int32) (σ10 : zSt) => some (b9, σ10))))))
def rmX8_fall : Room := { frames := 3, cells := 0, slots := 0, locals := 67 }
def fX8_fall_56 (N : Nat)  (x3 : Int32) (s0 : Int32) (s1 : Int32) (σ : zSt) : Option (Int32 × zSt) :=
  zas σ 8 20 s1 (vp_nar .boolean s0) (fun (σ1 : zSt) => some (x3, σ1))
def fX8_fall_40 (N : Nat)  (x1 : Int32) (x2 : Int32) (s0 : Int32) (σ : zSt) : Option (Int32 × zSt) :=
  if x2 = (1 : Int32) then fX8_fall_56 N s0 (1 : Int32) x1 σ else fX8_fall_56 N s0 (0 : Int32) x1 σ
def fX8_fall (N : Nat) (x1 : Int32) (x2 : Int32) (σ : zSt) : Option (Int32 × zSt) :=
  zpf σ 0 0 (0 : Int32) (fun (σ1 : zSt) => zbnd (fX8_isLeaf N x1 σ1) (fun (b2 : Int32) (σ3 : zSt) => if b2 = 0 then some ((-1000001 : Int32), σ3) else zbnd (fX8_in N x2.toInt64 (0 : Int64) (1 : Int64) σ3) (fun (b4 : Int32) (σ5 : zSt) => if b4 = 0 then some ((-1000001 : Int32), σ5) else zag σ5 8 20 x1 (fun (v6 : Int32) => if v6 = 0 then fX8_fall_40 N x1 x2 (0 : Int32) σ5 else fX8_fall_40 N x1 x2 (1 : Int32) σ5))))
def rmX8_day : Room := { frames := 1, cells := 0, slots := 0, locals := 25 }
def fX8_day (N : Nat) (x1 : Int32) (σ : zSt) : Option (Int32 × zSt) :=
  zpf σ 0 0 (0 : Int32) (fun (σ1 : zSt) => zbnd (fX8_in N x1.toInt64 (0 : Int64) (9999 : Int64) σ1) (fun (b2 : Int32) (σ3 : zSt) => if b2 = 0 then some ((-1000001 : Int32), σ3) else znm (σ3.1 0 29) (fun (v4 : Int32) => zpf σ3 0 29 x1 (fun (σ5 : zSt) => some (v4, σ5)))))
def rmX8_claims : Room := { frames := 0, cells := 0, slots := 0, locals := 0 }
def fX8_claims_30 (N : Nat) (k4 : Int32 → Int32 → zSt → Option (Int32 × zSt)) (x2 : Int32) (s0 : Int32) (s1 : Int32) (σ : zSt) : Option (Int32 × zSt) :=
  znm (s1 ||| s0) (fun (v1 : Int32) => k4 v1 (x2 + (1 : Int32)) σ)
def fX8_claims_4 (N : Nat)  : Nat → Int32 → Int32 → zSt → Option (Int32 × zSt)
  | 0, _, _, _ => none
  | n + 1, x1, x2, σ => if (σ.1 0 5) ≤ x2 then some (x1, σ) else zag σ 4 20 x2 (fun (v1 : Int32) => if v1 = (2 : Int32) then fX8_claims_30 N (fX8_claims_4 N n) x2 ((1 : Int32) <<< (x2 &&& 31)) x1 σ else fX8_claims_30 N (fX8_claims_4 N n) x2 (0 : Int32) x1 σ)
def fX8_claims (N : Nat)  (σ : zSt) : Option (Int32 × zSt) :=
  fX8_claims_4 N N (0 : Int32) (0 : Int32) σ
def rmX8_reachedFrom : Room := { frames := 0, cells := 0, slots := 0, locals := 0 }
def fX8_reachedFrom_85 (N : Nat) (k4 : Int32 → Int32 → Int32 → zSt → Option (Int32 × zSt)) (k14 : Int32 → Int32 → Int32 → Int32 → zSt → Option (Int32 × zSt)) (k26 : Int32 → Int32 → Int32 → Int32 → Int32 → zSt → Option (Int32 × zSt)) (x1 : Int32) (x2 : Int32) (x5 : Int32) (x6 : Int32) (s0 : Int32) (s1 : Int32) (σ : zSt) : Option (Int32 × zSt) :=
  znm (s1 ||| s0) (fun (v1 : Int32) => k26 x1 x2 v1 x5 (x6 + (1 : Int32)) σ)
def fX8_reachedFrom_66 (N : Nat) (k4 : Int32 → Int32 → Int32 → zSt → Option (Int32 × zSt)) (k14 : Int32 → Int32 → Int32 → Int32 → zSt → Option (Int32 × zSt)) (k26 : Int32 → Int32 → Int32 → Int32 → Int32 → zSt → Option (Int32 × zSt)) (x1 : Int32) (x2 : Int32) (x5 : Int32) (x6 : Int32) (s0 : Int32) (σ : zSt) : Option (Int32 × zSt) :=
  zag σ 12 96 (((6 : Int32) * x5) + x6) (fun (v1 : Int32) => fX8_reachedFrom_85 N k4 k14 k26 x1 x2 x5 x6 ((1 : Int32) <<< (v1 &&& 31)) s0 σ)
def fX8_reachedFrom_26 (N : Nat) (k4 : Int32 → Int32 → Int32 → zSt → Option (Int32 × zSt)) (k14 : Int32 → Int32 → Int32 → Int32 → zSt → Option (Int32 × zSt)) : Nat → Int32 → Int32 → Int32 → Int32 → Int32 → zSt → Option (Int32 × zSt)
  | 0, _, _, _, _, _, _ => none
  | n + 1, x1, x2, x4, x5, x6, σ => zag σ 11 16 x5 (fun (v1 : Int32) => if v1 ≤ x6 then k14 x1 x2 x4 (x5 + (1 : Int32)) σ else zag σ 10 16 x5 (fun (v2 : Int32) => if v2 = x1 then fX8_reachedFrom_66 N k4 k14 (fX8_reachedFrom_26 N k4 k14 n) x1 x2 x5 x6 x4 σ else zag σ 10 16 x5 (fun (v3 : Int32) => if ((x2 >>> (v3 &&& 31)) &&& (1 : Int32)) = (1 : Int32) then fX8_reachedFrom_66 N k4 k14 (fX8_reachedFrom_26 N k4 k14 n) x1 x2 x5 x6 x4 σ else fX8_reachedFrom_85 N k4 k14 (fX8_reachedFrom_26 N k4 k14 n) x1 x2 x5 x6 (0 : Int32) x4 σ)))
def fX8_reachedFrom_111 (N : Nat) (k4 : Int32 → Int32 → Int32 → zSt → Option (Int32 × zSt)) (x1 : Int32) (x4 : Int32) (s0 : Int32) (σ : zSt) : Option (Int32 × zSt) :=
  k4 x1 x4 s0 σ
def fX8_reachedFrom_14 (N : Nat) (k4 : Int32 → Int32 → Int32 → zSt → Option (Int32 × zSt)) : Nat → Int32 → Int32 → Int32 → Int32 → zSt → Option (Int32 × zSt)
  | 0, _, _, _, _, _ => none
  | n + 1, x1, x2, x4, x5, σ => if (σ.1 0 6) ≤ x5 then if x4 = x2 then fX8_reachedFrom_111 N k4 x1 x4 (0 : Int32) σ else fX8_reachedFrom_111 N k4 x1 x4 (1 : Int32) σ else fX8_reachedFrom_26 N k4 (fX8_reachedFrom_14 N k4 n) N x1 x2 x4 x5 (0 : Int32) σ
def fX8_reachedFrom_4 (N : Nat)  : Nat → Int32 → Int32 → Int32 → zSt → Option (Int32 × zSt)
  | 0, _, _, _, _ => none
  | n + 1, x1, x2, x3, σ => if x3 = 0 then some (x2, σ) else fX8_reachedFrom_14 N (fX8_reachedFrom_4 N n) N x1 x2 x2 (0 : Int32) σ
def fX8_reachedFrom (N : Nat) (x1 : Int32) (σ : zSt) : Option (Int32 × zSt) :=
  fX8_reachedFrom_4 N N x1 (0 : Int32) (1 : Int32) σ
def rmX8_shown : Room := { frames := 4, cells := 0, slots := 0, locals := 89 }
def fX8_shown_97 (N : Nat) (k53 : Int32 → Int32 → zSt → Option (Int32 × zSt)) (x4 : Int32) (s0 : Int32) (s1 : Int32) (σ : zSt) : Option (Int32 × zSt) :=
  znm (s1 ||| s0) (fun (v1 : Int32) => k53 v1 (x4 + (1 : Int32)) σ)
def fX8_shown_96 (N : Nat) (k53 : Int32 → Int32 → zSt → Option (Int32 × zSt)) (x4 : Int32) (s0 : Int32) (σ : zSt) : Option (Int32 × zSt) :=
  fX8_shown_97 N k53 x4 (0 : Int32) s0 σ
def fX8_shown_53 (N : Nat)  : Nat → Int32 → Int32 → zSt → Option (Int32 × zSt)
  | 0, _, _, _ => none
  | n + 1, x3, x4, σ => if (σ.1 0 5) ≤ x4 then some (x3, σ) else zag σ 4 20 x4 (fun (v1 : Int32) => if v1 = (2 : Int32) then zbnd (fX8_reachedFrom N x4 σ) (fun (b2 : Int32) (σ3 : zSt) => if ((b2 >>> (x4 &&& 31)) &&& (1 : Int32)) = (1 : Int32) then fX8_shown_97 N (fX8_shown_53 N n) x4 ((1 : Int32) <<< (x4 &&& 31)) x3 σ3 else fX8_shown_96 N (fX8_shown_53 N n) x4 x3 σ3) else fX8_shown_96 N (fX8_shown_53 N n) x4 x3 σ)
def fX8_shown (N : Nat) (x1 : Int32) (σ : zSt) : Option (Int32 × zSt) :=
  zpf σ 0 0 (0 : Int32) (fun (σ1 : zSt) => zbnd (fX8_in N x1.toInt64 (0 : Int64) (2 : Int64) σ1) (fun (b2 : Int32) (σ3 : zSt) => if b2 = 0 then some ((-1000001 : Int32), σ3) else zbnd (fX8_shownNow N σ3) (fun (b4 : Int32) (σ5 : zSt) => zbnd (fX8_claims N σ5) (fun (b6 : Int32) (σ7 : zSt) => znm (b4 &&& b6) (fun (v8 : Int32) => if (2 : Int32) ≤ x1 then fX8_shown_53 N N (0 : Int32) (0 : Int32) σ7 else if x1 = 0 then some (v8, σ7) else some ((σ7.1 0 30), σ7))))))
def rmX8_leaning : Room := { frames := 4, cells := 0, slots := 0, locals := 89 }
def fX8_leaning_59 (N : Nat)  (x1 : Int32) (x2 : Int32) (s0 : Int32) (σ : zSt) : Option (Int32 × zSt) :=
  zbnd (fX8_claims N σ) (fun (b1 : Int32) (σ2 : zSt) => some ((((x2 &&& (s0 ^^^ (-1 : Int32))) &&& b1) &&& (((1 : Int32) <<< (x1 &&& 31)) ^^^ (-1 : Int32))), σ2))
def fX8_leaning (N : Nat) (x1 : Int32) (σ : zSt) : Option (Int32 × zSt) :=
  zpf σ 0 0 (0 : Int32) (fun (σ1 : zSt) => zbnd (fX8_isNode N x1 σ1) (fun (b2 : Int32) (σ3 : zSt) => if b2 = 0 then some ((-1000001 : Int32), σ3) else zbnd (fX8_shownNow N σ3) (fun (b4 : Int32) (σ5 : zSt) => zag σ5 4 20 x1 (fun (v6 : Int32) => if v6 = (2 : Int32) then zbnd (fX8_standing N σ5) (fun (b7 : Int32) (σ8 : zSt) => zbnd (fX8_shownBy N b7 x1 σ8) (fun (b9 : Int32) (σ10 : zSt) => fX8_leaning_59 N x1 b4 b9 σ10)) else zbnd (fX8_standing N σ5) (fun (b11 : Int32) (σ12 : zSt) => zbnd (fX8_shownBy N (b11 &&& (((1 : Int32) <<< (x1 &&& 31)) ^^^ (-1 : Int32))) (-1000000 : Int32) σ12) (fun (b13 : Int32) (σ14 : zSt) => fX8_leaning_59 N x1 b4 b13 σ14))))))
def rmX8_isClaim : Room := { frames := 2, cells := 0, slots := 0, locals := 46 }
def fX8_isClaim (N : Nat) (x1 : Int32) (σ : zSt) : Option (Int32 × zSt) :=
  zbnd (fX8_isNode N x1 σ) (fun (b1 : Int32) (σ2 : zSt) => if b1 = 0 then zrz (0 : Int32) σ2 else zag σ2 4 20 x1 (fun (v3 : Int32) => if v3 = (2 : Int32) then zrz (1 : Int32) σ2 else zrz (0 : Int32) σ2))
def rmX8_isFelled : Room := { frames := 3, cells := 0, slots := 0, locals := 69 }
def fX8_isFelled (N : Nat) (x1 : Int32) (x2 : Int32) (σ : zSt) : Option (Int32 × zSt) :=
  zbnd (fX8_standing N σ) (fun (b1 : Int32) (σ2 : zSt) => zbnd (fX8_shownBy N (b1 &&& (x2 ^^^ (-1 : Int32))) (-1000000 : Int32) σ2) (fun (b3 : Int32) (σ4 : zSt) => if ((b3 >>> (x1 &&& 31)) &&& (1 : Int32)) = 0 then zrz (1 : Int32) σ4 else zrz (0 : Int32) σ4))
def rmX8_isFelling : Room := { frames := 4, cells := 0, slots := 0, locals := 91 }
def fX8_isFelling_48 (N : Nat) (k10 : Int32 → Int32 → Int32 → Int32 → zSt → Option (Int32 × zSt)) (x1 : Int32) (x2 : Int32) (x4 : Int32) (σ : zSt) : Option (Int32 × zSt) :=
  k10 x1 x2 (1 : Int32) (x4 + (1 : Int32)) σ
def fX8_isFelling_10 (N : Nat)  : Nat → Int32 → Int32 → Int32 → Int32 → zSt → Option (Int32 × zSt)
  | 0, _, _, _, _, _ => none
  | n + 1, x1, x2, x3, x4, σ => if (σ.1 0 5) ≤ x4 then zrz x3 σ else if x3 = 0 then zrz x3 σ else if ((x2 >>> (x4 &&& 31)) &&& (1 : Int32)) = 0 then fX8_isFelling_48 N (fX8_isFelling_10 N n) x1 x2 x4 σ else zbnd (fX8_isFelled N x1 (x2 &&& (((1 : Int32) <<< (x4 &&& 31)) ^^^ (-1 : Int32))) σ) (fun (b1 : Int32) (σ2 : zSt) => if b1 = 0 then fX8_isFelling_48 N (fX8_isFelling_10 N n) x1 x2 x4 σ2 else fX8_isFelling_10 N n x1 x2 (0 : Int32) (x4 + (1 : Int32)) σ2)
def fX8_isFelling (N : Nat) (x1 : Int32) (x2 : Int32) (σ : zSt) : Option (Int32 × zSt) :=
  zbnd (fX8_isFelled N x1 x2 σ) (fun (b1 : Int32) (σ2 : zSt) => fX8_isFelling_10 N N x1 x2 b1 (0 : Int32) σ2)
def rmX8_felling : Room := { frames := 5, cells := 0, slots := 0, locals := 115 }
def fX8_felling_191 (N : Nat) (k46 : Int32 → Int32 → Int32 → Int32 → Int32 → zSt → Option (Int32 × zSt)) (k65 : Int32 → Int32 → Int32 → Int32 → Int32 → Int32 → zSt → Option (Int32 × zSt)) (k97 : Int32 → Int32 → Int32 → Int32 → Int32 → Int32 → Int32 → zSt → Option (Int32 × zSt)) (k119 : Int32 → Int32 → Int32 → Int32 → Int32 → Int32 → Int32 → Int32 → zSt → Option (Int32 × zSt)) (x1 : Int32) (x2 : Int32) (x3 : Int32) (x4 : Int32) (x5 : Int32) (x6 : Int32) (x7 : Int32) (x8 : Int32) (x9 : Int32) (s0 : Int32) (σ : zSt) : Option (Int32 × zSt) :=
  if s0 = 0 then k119 x1 x2 x3 x4 x5 x6 x7 (x8 + (1 : Int32)) σ else if (x9 &&& (x3 ^^^ (-1 : Int32))) = 0 then zbnd (fX8_isFelling N x1 x9 σ) (fun (b1 : Int32) (σ2 : zSt) => if b1 = 0 then k119 x1 x2 x3 x4 x5 x6 x7 (x8 + (1 : Int32)) σ2 else if x4 = x2 then some (x9, σ2) else k119 x1 x2 x3 (x4 + (1 : Int32)) x5 x6 x7 (x8 + (1 : Int32)) σ2) else k119 x1 x2 x3 x4 x5 x6 x7 (x8 + (1 : Int32)) σ
def fX8_felling_186 (N : Nat) (k46 : Int32 → Int32 → Int32 → Int32 → Int32 → zSt → Option (Int32 × zSt)) (k65 : Int32 → Int32 → Int32 → Int32 → Int32 → Int32 → zSt → Option (Int32 × zSt)) (k97 : Int32 → Int32 → Int32 → Int32 → Int32 → Int32 → Int32 → zSt → Option (Int32 × zSt)) (k119 : Int32 → Int32 → Int32 → Int32 → Int32 → Int32 → Int32 → Int32 → zSt → Option (Int32 × zSt)) (x1 : Int32) (x2 : Int32) (x3 : Int32) (x4 : Int32) (x5 : Int32) (x6 : Int32) (x7 : Int32) (x8 : Int32) (x9 : Int32) (σ : zSt) : Option (Int32 × zSt) :=
  fX8_felling_191 N k46 k65 k97 k119 x1 x2 x3 x4 x5 x6 x7 x8 x9 (1 : Int32) σ
def fX8_felling_190 (N : Nat) (k46 : Int32 → Int32 → Int32 → Int32 → Int32 → zSt → Option (Int32 × zSt)) (k65 : Int32 → Int32 → Int32 → Int32 → Int32 → Int32 → zSt → Option (Int32 × zSt)) (k97 : Int32 → Int32 → Int32 → Int32 → Int32 → Int32 → Int32 → zSt → Option (Int32 × zSt)) (k119 : Int32 → Int32 → Int32 → Int32 → Int32 → Int32 → Int32 → Int32 → zSt → Option (Int32 × zSt)) (x1 : Int32) (x2 : Int32) (x3 : Int32) (x4 : Int32) (x5 : Int32) (x6 : Int32) (x7 : Int32) (x8 : Int32) (x9 : Int32) (σ : zSt) : Option (Int32 × zSt) :=
  fX8_felling_191 N k46 k65 k97 k119 x1 x2 x3 x4 x5 x6 x7 x8 x9 (0 : Int32) σ
def fX8_felling_174 (N : Nat) (k46 : Int32 → Int32 → Int32 → Int32 → Int32 → zSt → Option (Int32 × zSt)) (k65 : Int32 → Int32 → Int32 → Int32 → Int32 → Int32 → zSt → Option (Int32 × zSt)) (k97 : Int32 → Int32 → Int32 → Int32 → Int32 → Int32 → Int32 → zSt → Option (Int32 × zSt)) (k119 : Int32 → Int32 → Int32 → Int32 → Int32 → Int32 → Int32 → Int32 → zSt → Option (Int32 × zSt)) (x1 : Int32) (x2 : Int32) (x3 : Int32) (x4 : Int32) (x5 : Int32) (x6 : Int32) (x7 : Int32) (x8 : Int32) (x9 : Int32) (σ : zSt) : Option (Int32 × zSt) :=
  if x6 < 0 then fX8_felling_186 N k46 k65 k97 k119 x1 x2 x3 x4 x5 x6 x7 x8 x9 σ else if x6 ≤ x7 then fX8_felling_190 N k46 k65 k97 k119 x1 x2 x3 x4 x5 x6 x7 x8 x9 σ else fX8_felling_186 N k46 k65 k97 k119 x1 x2 x3 x4 x5 x6 x7 x8 x9 σ
def fX8_felling_159 (N : Nat) (k46 : Int32 → Int32 → Int32 → Int32 → Int32 → zSt → Option (Int32 × zSt)) (k65 : Int32 → Int32 → Int32 → Int32 → Int32 → Int32 → zSt → Option (Int32 × zSt)) (k97 : Int32 → Int32 → Int32 → Int32 → Int32 → Int32 → Int32 → zSt → Option (Int32 × zSt)) (k119 : Int32 → Int32 → Int32 → Int32 → Int32 → Int32 → Int32 → Int32 → zSt → Option (Int32 × zSt)) (x1 : Int32) (x2 : Int32) (x3 : Int32) (x4 : Int32) (x5 : Int32) (x6 : Int32) (x7 : Int32) (x8 : Int32) (s0 : Int32) (s1 : Int32) (σ : zSt) : Option (Int32 × zSt) :=
  znm (s1 ||| s0) (fun (v1 : Int32) => if x7 < 0 then fX8_felling_174 N k46 k65 k97 k119 x1 x2 x3 x4 x5 x6 x7 x8 v1 σ else if x7 ≤ x8 then fX8_felling_190 N k46 k65 k97 k119 x1 x2 x3 x4 x5 x6 x7 x8 v1 σ else fX8_felling_174 N k46 k65 k97 k119 x1 x2 x3 x4 x5 x6 x7 x8 v1 σ)
def fX8_felling_145 (N : Nat) (k46 : Int32 → Int32 → Int32 → Int32 → Int32 → zSt → Option (Int32 × zSt)) (k65 : Int32 → Int32 → Int32 → Int32 → Int32 → Int32 → zSt → Option (Int32 × zSt)) (k97 : Int32 → Int32 → Int32 → Int32 → Int32 → Int32 → Int32 → zSt → Option (Int32 × zSt)) (k119 : Int32 → Int32 → Int32 → Int32 → Int32 → Int32 → Int32 → Int32 → zSt → Option (Int32 × zSt)) (x1 : Int32) (x2 : Int32) (x3 : Int32) (x4 : Int32) (x5 : Int32) (x6 : Int32) (x7 : Int32) (x8 : Int32) (s0 : Int32) (s1 : Int32) (σ : zSt) : Option (Int32 × zSt) :=
  if 0 ≤ x6 then fX8_felling_159 N k46 k65 k97 k119 x1 x2 x3 x4 x5 x6 x7 x8 ((1 : Int32) <<< (x6 &&& 31)) (s1 ||| s0) σ else fX8_felling_159 N k46 k65 k97 k119 x1 x2 x3 x4 x5 x6 x7 x8 (0 : Int32) (s1 ||| s0) σ
def fX8_felling_119 (N : Nat) (k46 : Int32 → Int32 → Int32 → Int32 → Int32 → zSt → Option (Int32 × zSt)) (k65 : Int32 → Int32 → Int32 → Int32 → Int32 → Int32 → zSt → Option (Int32 × zSt)) (k97 : Int32 → Int32 → Int32 → Int32 → Int32 → Int32 → Int32 → zSt → Option (Int32 × zSt)) : Nat → Int32 → Int32 → Int32 → Int32 → Int32 → Int32 → Int32 → Int32 → zSt → Option (Int32 × zSt)
  | 0, _, _, _, _, _, _, _, _, _ => none
  | n + 1, x1, x2, x3, x4, x5, x6, x7, x8, σ => if (σ.1 0 5) ≤ x8 then k97 x1 x2 x3 x4 x5 x6 (x7 + (1 : Int32)) σ else if 0 ≤ x7 then fX8_felling_145 N k46 k65 k97 (fX8_felling_119 N k46 k65 k97 n) x1 x2 x3 x4 x5 x6 x7 x8 ((1 : Int32) <<< (x7 &&& 31)) ((1 : Int32) <<< (x8 &&& 31)) σ else fX8_felling_145 N k46 k65 k97 (fX8_felling_119 N k46 k65 k97 n) x1 x2 x3 x4 x5 x6 x7 x8 (0 : Int32) ((1 : Int32) <<< (x8 &&& 31)) σ
def fX8_felling_113 (N : Nat) (k46 : Int32 → Int32 → Int32 → Int32 → Int32 → zSt → Option (Int32 × zSt)) (k65 : Int32 → Int32 → Int32 → Int32 → Int32 → Int32 → zSt → Option (Int32 × zSt)) (k97 : Int32 → Int32 → Int32 → Int32 → Int32 → Int32 → Int32 → zSt → Option (Int32 × zSt)) (x1 : Int32) (x2 : Int32) (x3 : Int32) (x4 : Int32) (x5 : Int32) (x6 : Int32) (x7 : Int32) (s0 : Int32) (s1 : Int32) (σ : zSt) : Option (Int32 × zSt) :=
  if s0 ≤ s1 then k65 x1 x2 x3 x4 x5 (x6 + (1 : Int32)) σ else fX8_felling_119 N k46 k65 k97 N x1 x2 x3 x4 x5 x6 x7 (0 : Int32) σ
def fX8_felling_97 (N : Nat) (k46 : Int32 → Int32 → Int32 → Int32 → Int32 → zSt → Option (Int32 × zSt)) (k65 : Int32 → Int32 → Int32 → Int32 → Int32 → Int32 → zSt → Option (Int32 × zSt)) : Nat → Int32 → Int32 → Int32 → Int32 → Int32 → Int32 → Int32 → zSt → Option (Int32 × zSt)
  | 0, _, _, _, _, _, _, _, _ => none
  | n + 1, x1, x2, x3, x4, x5, x6, x7, σ => if x5 ≤ (1 : Int32) then fX8_felling_113 N k46 k65 (fX8_felling_97 N k46 k65 n) x1 x2 x3 x4 x5 x6 x7 (0 : Int32) x7 σ else fX8_felling_113 N k46 k65 (fX8_felling_97 N k46 k65 n) x1 x2 x3 x4 x5 x6 x7 (σ.1 0 5) x7 σ
def fX8_felling_95 (N : Nat) (k46 : Int32 → Int32 → Int32 → Int32 → Int32 → zSt → Option (Int32 × zSt)) (k65 : Int32 → Int32 → Int32 → Int32 → Int32 → Int32 → zSt → Option (Int32 × zSt)) (x1 : Int32) (x2 : Int32) (x3 : Int32) (x4 : Int32) (x5 : Int32) (x6 : Int32) (s0 : Int32) (σ : zSt) : Option (Int32 × zSt) :=
  fX8_felling_97 N k46 k65 N x1 x2 x3 x4 x5 x6 s0 σ
def fX8_felling_81 (N : Nat) (k46 : Int32 → Int32 → Int32 → Int32 → Int32 → zSt → Option (Int32 × zSt)) (k65 : Int32 → Int32 → Int32 → Int32 → Int32 → Int32 → zSt → Option (Int32 × zSt)) (x1 : Int32) (x2 : Int32) (x3 : Int32) (x4 : Int32) (x5 : Int32) (x6 : Int32) (s0 : Int32) (s1 : Int32) (σ : zSt) : Option (Int32 × zSt) :=
  if s0 ≤ s1 then k46 x1 x2 x3 x4 (x5 + (1 : Int32)) σ else if x5 ≤ (1 : Int32) then fX8_felling_95 N k46 k65 x1 x2 x3 x4 x5 x6 (-1 : Int32) σ else fX8_felling_95 N k46 k65 x1 x2 x3 x4 x5 x6 (0 : Int32) σ
def fX8_felling_65 (N : Nat) (k46 : Int32 → Int32 → Int32 → Int32 → Int32 → zSt → Option (Int32 × zSt)) : Nat → Int32 → Int32 → Int32 → Int32 → Int32 → Int32 → zSt → Option (Int32 × zSt)
  | 0, _, _, _, _, _, _, _ => none
  | n + 1, x1, x2, x3, x4, x5, x6, σ => if x5 ≤ (2 : Int32) then fX8_felling_81 N k46 (fX8_felling_65 N k46 n) x1 x2 x3 x4 x5 x6 (0 : Int32) x6 σ else fX8_felling_81 N k46 (fX8_felling_65 N k46 n) x1 x2 x3 x4 x5 x6 (σ.1 0 5) x6 σ
def fX8_felling_63 (N : Nat) (k46 : Int32 → Int32 → Int32 → Int32 → Int32 → zSt → Option (Int32 × zSt)) (x1 : Int32) (x2 : Int32) (x3 : Int32) (x4 : Int32) (x5 : Int32) (s0 : Int32) (σ : zSt) : Option (Int32 × zSt) :=
  fX8_felling_65 N k46 N x1 x2 x3 x4 x5 s0 σ
def fX8_felling_46 (N : Nat)  : Nat → Int32 → Int32 → Int32 → Int32 → Int32 → zSt → Option (Int32 × zSt)
  | 0, _, _, _, _, _, _ => none
  | n + 1, x1, x2, x3, x4, x5, σ => if (4 : Int32) ≤ x5 then if x2 = (-1 : Int32) then some (x4, σ) else some ((-1000000 : Int32), σ) else if x5 ≤ (2 : Int32) then fX8_felling_63 N (fX8_felling_46 N n) x1 x2 x3 x4 x5 (-1 : Int32) σ else fX8_felling_63 N (fX8_felling_46 N n) x1 x2 x3 x4 x5 (0 : Int32) σ
def fX8_felling (N : Nat) (x1 : Int32) (x2 : Int32) (σ : zSt) : Option (Int32 × zSt) :=
  zpf σ 0 0 (0 : Int32) (fun (σ1 : zSt) => zbnd (fX8_isClaim N x1 σ1) (fun (b2 : Int32) (σ3 : zSt) => if b2 = 0 then some ((-1000001 : Int32), σ3) else if (-1 : Int32) ≤ x2 then zbnd (fX8_shownNow N σ3) (fun (b4 : Int32) (σ5 : zSt) => if ((b4 >>> (x1 &&& 31)) &&& (1 : Int32)) = 0 then some ((-1000002 : Int32), σ5) else zbnd (fX8_standing N σ5) (fun (b6 : Int32) (σ7 : zSt) => fX8_felling_46 N N x1 x2 b6 (0 : Int32) (1 : Int32) σ7)) else some ((-1000001 : Int32), σ3)))
def rmX8_bits : Room := { frames := 0, cells := 0, slots := 0, locals := 0 }
def fX8_bits_4 (N : Nat)  : Nat → Int32 → Int32 → Int32 → zSt → Option (Int32 × zSt)
  | 0, _, _, _, _ => none
  | n + 1, x0, x1, x2, σ => if (20 : Int32) ≤ x2 then some (x1, σ) else znm (x1 + ((x0 >>> (x2 &&& 31)) &&& (1 : Int32))) (fun (v1 : Int32) => fX8_bits_4 N n x0 v1 (x2 + (1 : Int32)) σ)
def fX8_bits (N : Nat) (x0 : Int32) (σ : zSt) : Option (Int32 × zSt) :=
  fX8_bits_4 N N x0 (0 : Int32) (0 : Int32) σ
def rmX8_hand : Room := { frames := 4, cells := 0, slots := 0, locals := 89 }
def fX8_hand_84 (N : Nat) (k29 : Int32 → Int32 → Int32 → Int32 → Int32 → zSt → Option (Int32 × zSt)) (k42 : Int32 → Int32 → Int32 → Int32 → Int32 → Int32 → Int32 → zSt → Option (Int32 × zSt)) (x1 : Int32) (x2 : Int32) (x3 : Int32) (x4 : Int32) (x5 : Int32) (x7 : Int32) (s0 : Int32) (s1 : Int32) (σ : zSt) : Option (Int32 × zSt) :=
  znm (s1 ||| s0) (fun (v1 : Int32) => k42 x1 x2 x3 x4 x5 v1 (x7 + (1 : Int32)) σ)
def fX8_hand_83 (N : Nat) (k29 : Int32 → Int32 → Int32 → Int32 → Int32 → zSt → Option (Int32 × zSt)) (k42 : Int32 → Int32 → Int32 → Int32 → Int32 → Int32 → Int32 → zSt → Option (Int32 × zSt)) (x1 : Int32) (x2 : Int32) (x3 : Int32) (x4 : Int32) (x5 : Int32) (x7 : Int32) (s0 : Int32) (σ : zSt) : Option (Int32 × zSt) :=
  fX8_hand_84 N k29 k42 x1 x2 x3 x4 x5 x7 (0 : Int32) s0 σ
def fX8_hand_42 (N : Nat) (k29 : Int32 → Int32 → Int32 → Int32 → Int32 → zSt → Option (Int32 × zSt)) : Nat → Int32 → Int32 → Int32 → Int32 → Int32 → Int32 → Int32 → zSt → Option (Int32 × zSt)
  | 0, _, _, _, _, _, _, _, _ => none
  | n + 1, x1, x2, x3, x4, x5, x6, x7, σ => if (σ.1 0 5) ≤ x7 then zbnd (fX8_shownBy N (x3 &&& (x6 ^^^ (-1 : Int32))) (-1000000 : Int32) σ) (fun (b1 : Int32) (σ2 : zSt) => zbnd (fX8_bits N (x4 &&& (b1 ^^^ (-1 : Int32))) σ2) (fun (b3 : Int32) (σ4 : zSt) => if b3 ≤ x2 then k29 x1 x2 x3 x4 (x5 + (1 : Int32)) σ4 else k29 x5 b3 x3 x4 (x5 + (1 : Int32)) σ4)) else zag σ 4 20 x7 (fun (v5 : Int32) => if (2 : Int32) ≤ v5 then fX8_hand_83 N k29 (fX8_hand_42 N k29 n) x1 x2 x3 x4 x5 x7 x6 σ else zag σ 5 20 x7 (fun (v6 : Int32) => if v6 = x5 then fX8_hand_84 N k29 (fX8_hand_42 N k29 n) x1 x2 x3 x4 x5 x7 ((1 : Int32) <<< (x7 &&& 31)) x6 σ else fX8_hand_83 N k29 (fX8_hand_42 N k29 n) x1 x2 x3 x4 x5 x7 x6 σ))
def fX8_hand_29 (N : Nat)  : Nat → Int32 → Int32 → Int32 → Int32 → Int32 → zSt → Option (Int32 × zSt)
  | 0, _, _, _, _, _, _ => none
  | n + 1, x1, x2, x3, x4, x5, σ => if (10 : Int32) ≤ x5 then some (x1, σ) else fX8_hand_42 N (fX8_hand_29 N n) N x1 x2 x3 x4 x5 (0 : Int32) (0 : Int32) σ
def fX8_hand (N : Nat)  (σ : zSt) : Option (Int32 × zSt) :=
  zpf σ 0 0 (0 : Int32) (fun (σ1 : zSt) => zbnd (fX8_standing N σ1) (fun (b2 : Int32) (σ3 : zSt) => zbnd (fX8_shownNow N σ3) (fun (b4 : Int32) (σ5 : zSt) => zbnd (fX8_claims N σ5) (fun (b6 : Int32) (σ7 : zSt) => znm (b4 &&& b6) (fun (v8 : Int32) => fX8_hand_29 N N (-1000000 : Int32) (0 : Int32) b2 v8 (0 : Int32) σ7)))))
def rmX8_weigh : Room := { frames := 3, cells := 0, slots := 0, locals := 67 }
def fX8_weigh_44 (N : Nat)  : Nat → Int32 → Int32 → Int32 → Int32 → zSt → Option (Int32 × zSt)
  | 0, _, _, _, _, _ => none
  | n + 1, x1, x2, x3, x4, σ => if (σ.1 0 31) ≤ x4 then if (σ.1 0 31) = (3 : Int32) then some ((-1000003 : Int32), σ) else zas σ 15 3 (σ.1 0 31) x1 (fun (σ1 : zSt) => zas σ1 16 6 (σ1.1 0 31) (vp_nar .boolean (1 : Int32)) (fun (σ2 : zSt) => zas σ2 17 6 (σ2.1 0 31) x2 (fun (σ3 : zSt) => zas σ3 18 6 (σ3.1 0 31) x3 (fun (σ4 : zSt) => zpf σ4 0 31 ((σ4.1 0 31) + (1 : Int32)) (fun (σ5 : zSt) => some ((σ5.1 0 31), σ5)))))) else zag σ 15 3 x4 (fun (v6 : Int32) => if v6 = x1 then some ((-1000002 : Int32), σ) else fX8_weigh_44 N n x1 x2 x3 (x4 + (1 : Int32)) σ)
def fX8_weigh (N : Nat) (x1 : Int32) (x2 : Int32) (x3 : Int32) (σ : zSt) : Option (Int32 × zSt) :=
  zpf σ 0 0 (0 : Int32) (fun (σ1 : zSt) => zbnd (fX8_isLeaf N x1 σ1) (fun (b2 : Int32) (σ3 : zSt) => if b2 = 0 then some ((-1000001 : Int32), σ3) else zbnd (fX8_in N x2.toInt64 (0 : Int64) (100 : Int64) σ3) (fun (b4 : Int32) (σ5 : zSt) => if b4 = 0 then some ((-1000001 : Int32), σ5) else zbnd (fX8_in N x3.toInt64 x2.toInt64 (100 : Int64) σ5) (fun (b6 : Int32) (σ7 : zSt) => if b6 = 0 then some ((-1000001 : Int32), σ7) else fX8_weigh_44 N N x1 x2 x3 (0 : Int32) σ7))))
def rmX8_pair : Room := { frames := 1, cells := 0, slots := 0, locals := 25 }
def fX8_pair (N : Nat) (x1 : Int32) (x2 : Int32) (x3 : Int32) (x4 : Int32) (σ : zSt) : Option (Int32 × zSt) :=
  zpf σ 0 0 (0 : Int32) (fun (σ1 : zSt) => zbnd (fX8_in N x1.toInt64 (0 : Int64) ((σ1.1 0 31) - (1 : Int32)).toInt64 σ1) (fun (b2 : Int32) (σ3 : zSt) => if b2 = 0 then some ((-1000001 : Int32), σ3) else zbnd (fX8_in N x2.toInt64 (0 : Int64) ((σ3.1 0 31) - (1 : Int32)).toInt64 σ3) (fun (b4 : Int32) (σ5 : zSt) => if b4 = 0 then some ((-1000001 : Int32), σ5) else if x1 = x2 then some ((-1000001 : Int32), σ5) else zbnd (fX8_in N x3.toInt64 (0 : Int64) (100 : Int64) σ5) (fun (b6 : Int32) (σ7 : zSt) => if b6 = 0 then some ((-1000001 : Int32), σ7) else zbnd (fX8_in N x4.toInt64 x3.toInt64 (100 : Int64) σ7) (fun (b8 : Int32) (σ9 : zSt) => if b8 = 0 then some ((-1000001 : Int32), σ9) else zas σ9 16 6 (((2 : Int32) + x1) + x2) (vp_nar .boolean (1 : Int32)) (fun (σ10 : zSt) => zas σ10 17 6 (((2 : Int32) + x1) + x2) x3 (fun (σ11 : zSt) => zas σ11 18 6 (((2 : Int32) + x1) + x2) x4 (fun (σ12 : zSt) => some ((1 : Int32), σ12)))))))))
def rmX8_unweigh : Room := { frames := 0, cells := 0, slots := 0, locals := 0 }
def fX8_unweigh_17 (N : Nat)  : Nat → Int32 → Int32 → zSt → Option (Int32 × zSt)
  | 0, _, _, _ => none
  | n + 1, x1, x2, σ => if (6 : Int32) ≤ x2 then some (x1, σ) else zas σ 16 6 x2 (vp_nar .boolean (0 : Int32)) (fun (σ1 : zSt) => fX8_unweigh_17 N n x1 (x2 + (1 : Int32)) σ1)
def fX8_unweigh (N : Nat)  (σ : zSt) : Option (Int32 × zSt) :=
  zpf σ 0 0 (0 : Int32) (fun (σ1 : zSt) => znm (σ1.1 0 31) (fun (v2 : Int32) => zpf σ1 0 31 (0 : Int32) (fun (σ3 : zSt) => fX8_unweigh_17 N N v2 (0 : Int32) σ3)))
def rmX8_isOfWorld : Room := { frames := 0, cells := 0, slots := 0, locals := 0 }
def fX8_isOfWorld_31 (N : Nat)  (x1 : Int32) (s0 : Int32) (σ : zSt) : Option (Int32 × zSt) :=
  if (x1 &&& s0) = s0 then zrz (1 : Int32) σ else zrz (0 : Int32) σ
def fX8_isOfWorld (N : Nat) (x0 : Int32) (x1 : Int32) (σ : zSt) : Option (Int32 × zSt) :=
  if (3 : Int32) ≤ x0 then if x0 = (3 : Int32) then fX8_isOfWorld_31 N x1 (3 : Int32) σ else if x0 = (4 : Int32) then fX8_isOfWorld_31 N x1 (5 : Int32) σ else fX8_isOfWorld_31 N x1 (6 : Int32) σ else fX8_isOfWorld_31 N x1 ((1 : Int32) <<< (x0 &&& 31)) σ
def rmX8_put : Room := { frames := 0, cells := 0, slots := 0, locals := 0 }
def fX8_put (N : Nat) (x1 : Int32) (x2 : Int32) (y3 : Int64) (σ : zSt) : Option (Unit × zSt) :=
  zasL σ 19 112 (((8 : Int32) * x1) + x2) y3 (fun (σ1 : zSt) => some ((), σ1))
def rmX8_addRow : Room := { frames := 1, cells := 0, slots := 0, locals := 24 }
def fX8_addRow_42 (N : Nat) (k3 : Int32 → Int32 → Int32 → Int32 → zSt → Option (Unit × zSt)) (x1 : Int32) (x2 : Int32) (x3 : Int32) (x4 : Int32) (t0 : Int64) (s1 : Int32) (s2 : Int32) (σ : zSt) : Option (Unit × zSt) :=
  zbnd (fX8_put N s2 s1 t0 σ) (fun (b1 : Unit) (σ2 : zSt) => k3 x1 x2 x3 (x4 + (1 : Int32)) σ2)
def fX8_addRow_36 (N : Nat) (k3 : Int32 → Int32 → Int32 → Int32 → zSt → Option (Unit × zSt)) (x1 : Int32) (x2 : Int32) (x3 : Int32) (x4 : Int32) (s0 : Int32) (s1 : Int32) (σ : zSt) : Option (Unit × zSt) :=
  fX8_addRow_42 N k3 x1 x2 x3 x4 x2.toInt64 s0 s1 σ
def fX8_addRow_3 (N : Nat)  : Nat → Int32 → Int32 → Int32 → Int32 → zSt → Option (Unit × zSt)
  | 0, _, _, _, _, _ => none
  | n + 1, x1, x2, x3, x4, σ => if (σ.1 0 37) ≤ x4 then zbnd (fX8_put N (σ.1 0 36) (σ.1 0 37) (x2.toInt64 * x3.toInt64) σ) (fun (b1 : Unit) (σ2 : zSt) => zpf σ2 0 36 ((σ2.1 0 36) + (1 : Int32)) (fun (σ3 : zSt) => some ((), σ3))) else if x1 = (-1000000 : Int32) then fX8_addRow_36 N (fX8_addRow_3 N n) x1 x2 x3 x4 x4 (σ.1 0 36) σ else zbnd (fX8_isOfWorld N x1 (x4 + (1 : Int32)) σ) (fun (b4 : Int32) (σ5 : zSt) => if b4 = 0 then fX8_addRow_42 N (fX8_addRow_3 N n) x1 x2 x3 x4 (0 : Int64) x4 (σ.1 0 36) σ5 else fX8_addRow_36 N (fX8_addRow_3 N n) x1 x2 x3 x4 x4 (σ.1 0 36) σ5)
def fX8_addRow (N : Nat) (x1 : Int32) (x2 : Int32) (x3 : Int32) (σ : zSt) : Option (Unit × zSt) :=
  fX8_addRow_3 N N x1 x2 x3 (0 : Int32) σ
def rmX8_at : Room := { frames := 0, cells := 0, slots := 0, locals := 0 }
def fX8_at (N : Nat) (x1 : Int32) (x2 : Int32) (σ : zSt) : Option (Int64 × zSt) :=
  zagL σ 19 112 (((8 : Int32) * x1) + x2) (fun (v1 : Int64) => some (v1, σ))
def rmX8_leastRow : Room := { frames := 1, cells := 0, slots := 0, locals := 22 }
def fX8_leastRow_48 (N : Nat) (k5 : Int32 → Int32 → zSt → Option (Int32 × zSt)) (x2 : Int32) (σ : zSt) : Option (Int32 × zSt) :=
  k5 x2 (x2 + (1 : Int32)) σ
def fX8_leastRow_52 (N : Nat) (k5 : Int32 → Int32 → zSt → Option (Int32 × zSt)) (x1 : Int32) (x2 : Int32) (σ : zSt) : Option (Int32 × zSt) :=
  k5 x1 (x2 + (1 : Int32)) σ
def fX8_leastRow_5 (N : Nat)  : Nat → Int32 → Int32 → zSt → Option (Int32 × zSt)
  | 0, _, _, _ => none
  | n + 1, x1, x2, σ => if (σ.1 0 36) ≤ x2 then some (x1, σ) else zbnd (fX8_at N x2 (σ.1 0 37) σ) (fun (b1 : Int64) (σ2 : zSt) => if (0 : Int64) ≤ b1 then fX8_leastRow_52 N (fX8_leastRow_5 N n) x1 x2 σ2 else if x1 = (-1000000 : Int32) then fX8_leastRow_48 N (fX8_leastRow_5 N n) x2 σ2 else zag σ2 20 14 x2 (fun (v3 : Int32) => zag σ2 20 14 x1 (fun (v4 : Int32) => if v4 ≤ v3 then fX8_leastRow_52 N (fX8_leastRow_5 N n) x1 x2 σ2 else fX8_leastRow_48 N (fX8_leastRow_5 N n) x2 σ2)))
def fX8_leastRow (N : Nat)  (σ : zSt) : Option (Int32 × zSt) :=
  fX8_leastRow_5 N N (-1000000 : Int32) (0 : Int32) σ
def rmX8_leastColumn : Room := { frames := 1, cells := 0, slots := 0, locals := 22 }
def fX8_leastColumn_48 (N : Nat) (k5 : Int32 → Int32 → zSt → Option (Int32 × zSt)) (x2 : Int32) (σ : zSt) : Option (Int32 × zSt) :=
  k5 x2 (x2 + (1 : Int32)) σ
def fX8_leastColumn_52 (N : Nat) (k5 : Int32 → Int32 → zSt → Option (Int32 × zSt)) (x1 : Int32) (x2 : Int32) (σ : zSt) : Option (Int32 × zSt) :=
  k5 x1 (x2 + (1 : Int32)) σ
def fX8_leastColumn_5 (N : Nat)  : Nat → Int32 → Int32 → zSt → Option (Int32 × zSt)
  | 0, _, _, _ => none
  | n + 1, x1, x2, σ => if (σ.1 0 37) ≤ x2 then some (x1, σ) else zbnd (fX8_at N (σ.1 0 36) x2 σ) (fun (b1 : Int64) (σ2 : zSt) => if (0 : Int64) ≤ b1 then fX8_leastColumn_52 N (fX8_leastColumn_5 N n) x1 x2 σ2 else if x1 = (-1000000 : Int32) then fX8_leastColumn_48 N (fX8_leastColumn_5 N n) x2 σ2 else zag σ2 21 8 x2 (fun (v3 : Int32) => zag σ2 21 8 x1 (fun (v4 : Int32) => if v4 ≤ v3 then fX8_leastColumn_52 N (fX8_leastColumn_5 N n) x1 x2 σ2 else fX8_leastColumn_48 N (fX8_leastColumn_5 N n) x2 σ2)))
def fX8_leastColumn (N : Nat)  (σ : zSt) : Option (Int32 × zSt) :=
  fX8_leastColumn_5 N N (-1000000 : Int32) (0 : Int32) σ
def rmX8_turn : Room := { frames := 1, cells := 0, slots := 0, locals := 24 }
def fX8_turn_22 (N : Nat) (k10 : Int32 → Int32 → Int64 → Int32 → zSt → Option (Unit × zSt)) : Nat → Int32 → Int32 → Int64 → Int32 → Int32 → zSt → Option (Unit × zSt)
  | 0, _, _, _, _, _, _ => none
  | n + 1, x1, x2, y3, x5, x6, σ => if (σ.1 0 37) < x6 then k10 x1 x2 y3 (x5 + (1 : Int32)) σ else if x5 = x1 then fX8_turn_22 N k10 n x1 x2 y3 x5 (x6 + (1 : Int32)) σ else if x6 = x2 then fX8_turn_22 N k10 n x1 x2 y3 x5 (x6 + (1 : Int32)) σ else zbnd (fX8_at N x5 x6 σ) (fun (b1 : Int64) (σ2 : zSt) => zbnd (fX8_at N x5 x2 σ2) (fun (b3 : Int64) (σ4 : zSt) => zbnd (fX8_at N x1 x6 σ4) (fun (b5 : Int64) (σ6 : zSt) => zdvL ((b1 * y3) - (b3 * b5)) (σ6.2 0 38) (fun (v7 : Int64) => zbnd (fX8_put N x5 x6 v7 σ6) (fun (b8 : Unit) (σ9 : zSt) => fX8_turn_22 N k10 n x1 x2 y3 x5 (x6 + (1 : Int32)) σ9)))))
def fX8_turn_131 (N : Nat) (k97 : Int32 → Int32 → Int64 → Int32 → zSt → Option (Unit × zSt)) (x1 : Int32) (x2 : Int32) (y3 : Int64) (x5 : Int32) (t0 : Int64) (s1 : Int32) (s2 : Int32) (σ : zSt) : Option (Unit × zSt) :=
  zbnd (fX8_put N s2 s1 t0 σ) (fun (b1 : Unit) (σ2 : zSt) => k97 x1 x2 y3 (x5 + (1 : Int32)) σ2)
def fX8_turn_196 (N : Nat)  (x1 : Int32) (x2 : Int32) (σ : zSt) : Option (Unit × zSt) :=
  zag σ 20 14 x1 (fun (v1 : Int32) => zag σ 21 8 x2 (fun (v2 : Int32) => zas σ 20 14 x1 v2 (fun (σ3 : zSt) => zas σ3 21 8 x2 v1 (fun (σ4 : zSt) => some ((), σ4)))))
def fX8_turn_160 (N : Nat)  : Nat → Int32 → Int32 → Int32 → zSt → Option (Unit × zSt)
  | 0, _, _, _, _ => none
  | n + 1, x1, x2, x5, σ => if (((8 : Int32) * (σ.1 0 36)) + (8 : Int32)) ≤ x5 then fX8_turn_196 N x1 x2 σ else zagL σ 19 112 x5 (fun (v1 : Int64) => zasL σ 19 112 x5 (-v1) (fun (σ2 : zSt) => fX8_turn_160 N n x1 x2 (x5 + (1 : Int32)) σ2))
def fX8_turn_97 (N : Nat)  : Nat → Int32 → Int32 → Int64 → Int32 → zSt → Option (Unit × zSt)
  | 0, _, _, _, _, _ => none
  | n + 1, x1, x2, y3, x5, σ => if (σ.1 0 36) < x5 then zpfL σ 0 38 y3 (fun (σ1 : zSt) => if (0 : Int64) ≤ y3 then fX8_turn_196 N x1 x2 σ1 else zpfL σ1 0 38 (-y3) (fun (σ2 : zSt) => fX8_turn_160 N N x1 x2 (0 : Int32) σ2)) else if x5 = x1 then fX8_turn_131 N (fX8_turn_97 N n) x1 x2 y3 x5 (σ.2 0 38) x2 x5 σ else zbnd (fX8_at N x5 x2 σ) (fun (b3 : Int64) (σ4 : zSt) => fX8_turn_131 N (fX8_turn_97 N n) x1 x2 y3 x5 (-b3) x2 x5 σ4)
def fX8_turn_10 (N : Nat)  : Nat → Int32 → Int32 → Int64 → Int32 → zSt → Option (Unit × zSt)
  | 0, _, _, _, _, _ => none
  | n + 1, x1, x2, y3, x5, σ => if (σ.1 0 36) < x5 then fX8_turn_97 N N x1 x2 y3 (0 : Int32) σ else fX8_turn_22 N (fX8_turn_10 N n) N x1 x2 y3 x5 (0 : Int32) σ
def fX8_turn (N : Nat) (x1 : Int32) (x2 : Int32) (σ : zSt) : Option (Unit × zSt) :=
  zbnd (fX8_at N x1 x2 σ) (fun (b1 : Int64) (σ2 : zSt) => fX8_turn_10 N N x1 x2 b1 (0 : Int32) σ2)
def rmX8_isSolved : Room := { frames := 2, cells := 0, slots := 0, locals := 50 }
def fX8_isSolved_98 (N : Nat) (k10 : Int32 → Int32 → zSt → Option (Int32 × zSt)) (k55 : Int32 → Int32 → Int32 → zSt → Option (Int32 × zSt)) (x1 : Int32) (x4 : Int32) (σ : zSt) : Option (Int32 × zSt) :=
  k55 x1 x4 (x4 + (1 : Int32)) σ
def fX8_isSolved_103 (N : Nat) (k10 : Int32 → Int32 → zSt → Option (Int32 × zSt)) (k55 : Int32 → Int32 → Int32 → zSt → Option (Int32 × zSt)) (x1 : Int32) (x3 : Int32) (x4 : Int32) (σ : zSt) : Option (Int32 × zSt) :=
  k55 x1 x3 (x4 + (1 : Int32)) σ
def fX8_isSolved_201 (N : Nat) (k10 : Int32 → Int32 → zSt → Option (Int32 × zSt))  (σ : zSt) : Option (Int32 × zSt) :=
  zbnd (fX8_leastRow N σ) (fun (b1 : Int32) (σ2 : zSt) => zbnd (fX8_leastColumn N σ2) (fun (b3 : Int32) (σ4 : zSt) => k10 b1 b3 σ4))
def fX8_isSolved_55 (N : Nat) (k10 : Int32 → Int32 → zSt → Option (Int32 × zSt)) : Nat → Int32 → Int32 → Int32 → zSt → Option (Int32 × zSt)
  | 0, _, _, _, _ => none
  | n + 1, x1, x3, x4, σ => if (σ.1 0 37) ≤ x4 then if x3 = (-1000000 : Int32) then zrz (0 : Int32) σ else zbnd (fX8_turn N x1 x3 σ) (fun (b1 : Unit) (σ2 : zSt) => fX8_isSolved_201 N k10 σ2) else zbnd (fX8_at N x1 x4 σ) (fun (b3 : Int64) (σ4 : zSt) => if (0 : Int64) ≤ b3 then fX8_isSolved_103 N k10 (fX8_isSolved_55 N k10 n) x1 x3 x4 σ4 else if x3 = (-1000000 : Int32) then fX8_isSolved_98 N k10 (fX8_isSolved_55 N k10 n) x1 x4 σ4 else zag σ4 21 8 x4 (fun (v5 : Int32) => zag σ4 21 8 x3 (fun (v6 : Int32) => if v6 ≤ v5 then fX8_isSolved_103 N k10 (fX8_isSolved_55 N k10 n) x1 x3 x4 σ4 else fX8_isSolved_98 N k10 (fX8_isSolved_55 N k10 n) x1 x4 σ4)))
def fX8_isSolved_52 (N : Nat) (k10 : Int32 → Int32 → zSt → Option (Int32 × zSt)) (x1 : Int32) (x3 : Int32) (σ : zSt) : Option (Int32 × zSt) :=
  fX8_isSolved_55 N k10 N x1 x3 (0 : Int32) σ
def fX8_isSolved_174 (N : Nat) (k10 : Int32 → Int32 → zSt → Option (Int32 × zSt)) (k131 : Int32 → Int32 → Int32 → zSt → Option (Int32 × zSt)) (x2 : Int32) (x4 : Int32) (σ : zSt) : Option (Int32 × zSt) :=
  k131 x2 x4 (x4 + (1 : Int32)) σ
def fX8_isSolved_179 (N : Nat) (k10 : Int32 → Int32 → zSt → Option (Int32 × zSt)) (k131 : Int32 → Int32 → Int32 → zSt → Option (Int32 × zSt)) (x2 : Int32) (x3 : Int32) (x4 : Int32) (σ : zSt) : Option (Int32 × zSt) :=
  k131 x2 x3 (x4 + (1 : Int32)) σ
def fX8_isSolved_131 (N : Nat) (k10 : Int32 → Int32 → zSt → Option (Int32 × zSt)) : Nat → Int32 → Int32 → Int32 → zSt → Option (Int32 × zSt)
  | 0, _, _, _, _ => none
  | n + 1, x2, x3, x4, σ => if (σ.1 0 36) ≤ x4 then if x3 = (-1000000 : Int32) then zrz (0 : Int32) σ else zbnd (fX8_turn N x3 x2 σ) (fun (b1 : Unit) (σ2 : zSt) => fX8_isSolved_201 N k10 σ2) else zbnd (fX8_at N x4 x2 σ) (fun (b3 : Int64) (σ4 : zSt) => if b3 ≤ (0 : Int64) then fX8_isSolved_179 N k10 (fX8_isSolved_131 N k10 n) x2 x3 x4 σ4 else if x3 = (-1000000 : Int32) then fX8_isSolved_174 N k10 (fX8_isSolved_131 N k10 n) x2 x4 σ4 else zag σ4 20 14 x4 (fun (v5 : Int32) => zag σ4 20 14 x3 (fun (v6 : Int32) => if v6 ≤ v5 then fX8_isSolved_179 N k10 (fX8_isSolved_131 N k10 n) x2 x3 x4 σ4 else fX8_isSolved_174 N k10 (fX8_isSolved_131 N k10 n) x2 x4 σ4)))
def fX8_isSolved_128 (N : Nat) (k10 : Int32 → Int32 → zSt → Option (Int32 × zSt)) (x2 : Int32) (x3 : Int32) (σ : zSt) : Option (Int32 × zSt) :=
  fX8_isSolved_131 N k10 N x2 x3 (0 : Int32) σ
def fX8_isSolved_22 (N : Nat) (k10 : Int32 → Int32 → zSt → Option (Int32 × zSt)) (x1 : Int32) (x2 : Int32) (σ : zSt) : Option (Int32 × zSt) :=
  if x2 = (-1000000 : Int32) then fX8_isSolved_52 N k10 x1 (-1000000 : Int32) σ else if x1 = (-1000000 : Int32) then fX8_isSolved_128 N k10 x2 (-1000000 : Int32) σ else zag σ 20 14 x1 (fun (v1 : Int32) => zag σ 21 8 x2 (fun (v2 : Int32) => if v2 ≤ v1 then fX8_isSolved_128 N k10 x2 (-1000000 : Int32) σ else fX8_isSolved_52 N k10 x1 (-1000000 : Int32) σ))
def fX8_isSolved_10 (N : Nat)  : Nat → Int32 → Int32 → zSt → Option (Int32 × zSt)
  | 0, _, _, _ => none
  | n + 1, x1, x2, σ => if x1 = (-1000000 : Int32) then if x2 = (-1000000 : Int32) then zrz (1 : Int32) σ else fX8_isSolved_22 N (fX8_isSolved_10 N n) x1 x2 σ else fX8_isSolved_22 N (fX8_isSolved_10 N n) x1 x2 σ
def fX8_isSolved (N : Nat)  (σ : zSt) : Option (Int32 × zSt) :=
  zbnd (fX8_leastRow N σ) (fun (b1 : Int32) (σ2 : zSt) => zbnd (fX8_leastColumn N σ2) (fun (b3 : Int32) (σ4 : zSt) => fX8_isSolved_10 N N b1 b3 σ4))
def rmX8_find : Room := { frames := 3, cells := 0, slots := 0, locals := 74 }
def fX8_find_92 (N : Nat) (k34 : Int32 → Int32 → Int32 → Int32 → zSt → Option (Int32 × zSt)) (x1 : Int32) (x2 : Int32) (x3 : Int32) (x4 : Int32) (s0 : Int32) (s1 : Int32) (s2 : Int32) (σ : zSt) : Option (Int32 × zSt) :=
  zbnd (fX8_addRow N s2 s1 s0 σ) (fun (b1 : Unit) (σ2 : zSt) => k34 x1 x2 x3 (x4 + (1 : Int32)) σ2)
def fX8_find_174 (N : Nat)  : Nat → Int32 → Int32 → Int32 → zSt → Option (Int32 × zSt)
  | 0, _, _, _, _ => none
  | n + 1, x2, x4, x5, σ => if (σ.1 0 36) ≤ x5 then zbnd (fX8_isSolved N σ) (fun (b1 : Int32) (σ2 : zSt) => if b1 = 0 then zrz (0 : Int32) σ2 else zbnd (fX8_at N (σ2.1 0 36) (σ2.1 0 37) σ2) (fun (b3 : Int64) (σ4 : zSt) => zpfL σ4 0 42 ((((100 : Int64) * x4.toInt64) * (σ2.2 0 38)) + (x2.toInt64 * b3)) (fun (σ5 : zSt) => zpfL σ5 0 43 (σ5.2 0 38) (fun (σ6 : zSt) => zrz (1 : Int32) σ6)))) else zas σ 20 14 x5 ((σ.1 0 37) + x5) (fun (σ7 : zSt) => fX8_find_174 N n x2 x4 (x5 + (1 : Int32)) σ7)
def fX8_find_109 (N : Nat)  : Nat → Int32 → Int32 → Int32 → Int32 → zSt → Option (Int32 × zSt)
  | 0, _, _, _, _, _ => none
  | n + 1, x1, x2, x4, x5, σ => if (σ.1 0 37) ≤ x5 then zbnd (fX8_put N (σ.1 0 36) (σ.1 0 37) (0 : Int64) σ) (fun (b1 : Unit) (σ2 : zSt) => fX8_find_174 N N x2 x4 (0 : Int32) σ2) else zbnd (fX8_put N (σ.1 0 36) x5 ((-x2) * (((x1 >>> ((x5 + (1 : Int32)) &&& 31)) &&& (1 : Int32)) - x4)).toInt64 σ) (fun (b3 : Unit) (σ4 : zSt) => zas σ4 21 8 x5 x5 (fun (σ5 : zSt) => fX8_find_109 N n x1 x2 x4 (x5 + (1 : Int32)) σ5))
def fX8_find_34 (N : Nat)  : Nat → Int32 → Int32 → Int32 → Int32 → zSt → Option (Int32 × zSt)
  | 0, _, _, _, _, _ => none
  | n + 1, x1, x2, x3, x4, σ => if (6 : Int32) ≤ x4 then znm (x1 &&& (1 : Int32)) (fun (v1 : Int32) => fX8_find_109 N N x1 x2 v1 (0 : Int32) σ) else zag σ 16 6 x4 (fun (v2 : Int32) => if v2 = 0 then fX8_find_34 N n x1 x2 x3 (x4 + (1 : Int32)) σ else zag σ 18 6 x4 (fun (v3 : Int32) => zbnd (fX8_addRow N x4 (1 : Int32) v3 σ) (fun (b4 : Unit) (σ5 : zSt) => if x4 = x3 then zag σ5 18 6 x4 (fun (v6 : Int32) => fX8_find_92 N (fX8_find_34 N n) x1 x2 x3 x4 v6 (-1 : Int32) x4 σ5) else zag σ5 17 6 x4 (fun (v7 : Int32) => fX8_find_92 N (fX8_find_34 N n) x1 x2 x3 x4 v7 (-1 : Int32) x4 σ5))))
def fX8_find (N : Nat) (x1 : Int32) (x2 : Int32) (x3 : Int32) (σ : zSt) : Option (Int32 × zSt) :=
  zpf σ 0 36 (0 : Int32) (fun (σ1 : zSt) => zpf σ1 0 37 (((1 : Int32) <<< ((σ1.1 0 31) &&& 31)) - (1 : Int32)) (fun (σ2 : zSt) => zpfL σ2 0 38 (1 : Int64) (fun (σ3 : zSt) => zbnd (fX8_addRow N (-1000000 : Int32) (1 : Int32) (100 : Int32) σ3) (fun (b4 : Unit) (σ5 : zSt) => fX8_find_34 N N x1 x2 x3 (0 : Int32) σ5))))
def rmX8_agree : Room := { frames := 4, cells := 0, slots := 0, locals := 99 }
def fX8_agree (N : Nat)  (σ : zSt) : Option (Int32 × zSt) :=
  zpf σ 0 0 (0 : Int32) (fun (σ1 : zSt) => zbnd (fX8_find N (0 : Int32) (1 : Int32) (-1000000 : Int32) σ1) (fun (b2 : Int32) (σ3 : zSt) => if b2 = 0 then some ((0 : Int32), σ3) else some ((1 : Int32), σ3)))
def rmX8_worldsOf : Room := { frames := 3, cells := 0, slots := 0, locals := 69 }
def fX8_worldsOf_93 (N : Nat) (k34 : Int32 → Int32 → Int32 → Int32 → zSt → Option (Int32 × zSt)) (k58 : Int32 → Int32 → Int32 → Int32 → Int32 → Int32 → zSt → Option (Int32 × zSt)) (x1 : Int32) (x2 : Int32) (x3 : Int32) (x4 : Int32) (x6 : Int32) (s0 : Int32) (s1 : Int32) (σ : zSt) : Option (Int32 × zSt) :=
  znm (s1 ||| s0) (fun (v1 : Int32) => k58 x1 x2 x3 x4 v1 (x6 + (1 : Int32)) σ)
def fX8_worldsOf_127 (N : Nat) (k34 : Int32 → Int32 → Int32 → Int32 → zSt → Option (Int32 × zSt)) (x1 : Int32) (x2 : Int32) (x4 : Int32) (s0 : Int32) (s1 : Int32) (σ : zSt) : Option (Int32 × zSt) :=
  znm (s1 ||| s0) (fun (v1 : Int32) => k34 x1 x2 v1 (x4 + (1 : Int32)) σ)
def fX8_worldsOf_58 (N : Nat) (k34 : Int32 → Int32 → Int32 → Int32 → zSt → Option (Int32 × zSt)) : Nat → Int32 → Int32 → Int32 → Int32 → Int32 → Int32 → zSt → Option (Int32 × zSt)
  | 0, _, _, _, _, _, _, _ => none
  | n + 1, x1, x2, x3, x4, x5, x6, σ => if (σ.1 0 31) ≤ x6 then zbnd (fX8_shownBy N x5 (-1000000 : Int32) σ) (fun (b1 : Int32) (σ2 : zSt) => if ((b1 >>> (x1 &&& 31)) &&& (1 : Int32)) = (1 : Int32) then fX8_worldsOf_127 N k34 x1 x2 x4 ((1 : Int32) <<< (x4 &&& 31)) x3 σ2 else fX8_worldsOf_127 N k34 x1 x2 x4 (0 : Int32) x3 σ2) else if ((x4 >>> (x6 &&& 31)) &&& (1 : Int32)) = (1 : Int32) then zag σ 15 3 x6 (fun (v3 : Int32) => fX8_worldsOf_93 N k34 (fX8_worldsOf_58 N k34 n) x1 x2 x3 x4 x6 ((1 : Int32) <<< (v3 &&& 31)) x5 σ) else fX8_worldsOf_93 N k34 (fX8_worldsOf_58 N k34 n) x1 x2 x3 x4 x6 (0 : Int32) x5 σ
def fX8_worldsOf_34 (N : Nat)  : Nat → Int32 → Int32 → Int32 → Int32 → zSt → Option (Int32 × zSt)
  | 0, _, _, _, _, _ => none
  | n + 1, x1, x2, x3, x4, σ => if ((1 : Int32) <<< ((σ.1 0 31) &&& 31)) ≤ x4 then some (x3, σ) else zbnd (fX8_standing N σ) (fun (b1 : Int32) (σ2 : zSt) => znm (b1 &&& (x2 ^^^ (-1 : Int32))) (fun (v3 : Int32) => fX8_worldsOf_58 N (fX8_worldsOf_34 N n) N x1 x2 x3 x4 v3 (0 : Int32) σ2))
def fX8_worldsOf_4 (N : Nat)  : Nat → Int32 → Int32 → Int32 → zSt → Option (Int32 × zSt)
  | 0, _, _, _, _ => none
  | n + 1, x1, x2, x3, σ => if (σ.1 0 31) ≤ x3 then fX8_worldsOf_34 N N x1 x2 (0 : Int32) (0 : Int32) σ else zag σ 15 3 x3 (fun (v1 : Int32) => znm (x2 ||| ((1 : Int32) <<< (v1 &&& 31))) (fun (v2 : Int32) => fX8_worldsOf_4 N n x1 v2 (x3 + (1 : Int32)) σ))
def fX8_worldsOf (N : Nat) (x1 : Int32) (σ : zSt) : Option (Int32 × zSt) :=
  fX8_worldsOf_4 N N x1 (0 : Int32) (0 : Int32) σ
def rmX8_odds : Room := { frames := 4, cells := 0, slots := 0, locals := 99 }
def fX8_odds_112 (N : Nat)  (y5 : Int64) (t0 : Int64) (σ : zSt) : Option (Int32 × zSt) :=
  zdvL t0 y5 (fun (v1 : Int64) => some (v1.toInt32, σ))
def fX8_odds_73 (N : Nat)  : Nat → Int32 → Int64 → Int64 → Int64 → zSt → Option (Int32 × zSt)
  | 0, _, _, _, _, _ => none
  | n + 1, x2, y3, y5, y7, σ => if y7 = (0 : Int64) then zrm x2 (2 : Int32) (fun (v1 : Int32) => if v1 = 0 then fX8_odds_112 N y5 (σ.2 0 42) σ else fX8_odds_112 N y5 y3 σ) else zrmL y5 y7 (fun (v2 : Int64) => fX8_odds_73 N n x2 y3 y7 v2 σ)
def fX8_odds_44 (N : Nat)  (x2 : Int32) (s0 : Int32) (s1 : Int32) (σ : zSt) : Option (Int32 × zSt) :=
  zbnd (fX8_find N s1 s0 (-1000000 : Int32) σ) (fun (b1 : Int32) (σ2 : zSt) => if b1 = 0 then some ((-1000002 : Int32), σ2) else znm ((100 : Int64) * (σ2.2 0 43)) (fun (v3 : Int64) => znm (σ2.2 0 42) (fun (v4 : Int64) => fX8_odds_73 N N x2 v3 v4 v3 σ2)))
def fX8_odds (N : Nat) (x1 : Int32) (x2 : Int32) (σ : zSt) : Option (Int32 × zSt) :=
  zpf σ 0 0 (0 : Int32) (fun (σ1 : zSt) => zbnd (fX8_isClaim N x1 σ1) (fun (b2 : Int32) (σ3 : zSt) => if b2 = 0 then some ((-1000001 : Int32), σ3) else zbnd (fX8_in N x2.toInt64 (0 : Int64) (3 : Int64) σ3) (fun (b4 : Int32) (σ5 : zSt) => if b4 = 0 then some ((-1000001 : Int32), σ5) else zbnd (fX8_worldsOf N x1 σ5) (fun (b6 : Int32) (σ7 : zSt) => if (2 : Int32) ≤ x2 then fX8_odds_44 N x2 (1 : Int32) b6 σ7 else fX8_odds_44 N x2 (-1 : Int32) b6 σ7))))
def rmX8_raise : Room := { frames := 4, cells := 0, slots := 0, locals := 99 }
def fX8_raise_54 (N : Nat)  : Nat → Int32 → Int64 → Int64 → Int32 → Int32 → zSt → Option (Int32 × zSt)
  | 0, _, _, _, _, _, _ => none
  | n + 1, x2, y3, y5, x7, x8, σ => if (σ.1 0 31) ≤ x8 then some (x7, σ) else zbnd (fX8_find N x2 (-1 : Int32) x8 σ) (fun (b1 : Int32) (σ2 : zSt) => if b1 = 0 then fX8_raise_54 N n x2 y3 y5 x7 (x8 + (1 : Int32)) σ2 else if ((σ2.2 0 42) * y5) ≤ (y3 * (σ2.2 0 43)) then fX8_raise_54 N n x2 y3 y5 x7 (x8 + (1 : Int32)) σ2 else zag σ2 15 3 x8 (fun (v3 : Int32) => znm (σ2.2 0 42) (fun (v4 : Int64) => znm (σ2.2 0 43) (fun (v5 : Int64) => fX8_raise_54 N n x2 v4 v5 v3 (x8 + (1 : Int32)) σ2))))
def fX8_raise (N : Nat) (x1 : Int32) (σ : zSt) : Option (Int32 × zSt) :=
  zpf σ 0 0 (0 : Int32) (fun (σ1 : zSt) => zbnd (fX8_isClaim N x1 σ1) (fun (b2 : Int32) (σ3 : zSt) => if b2 = 0 then some ((-1000001 : Int32), σ3) else zbnd (fX8_worldsOf N x1 σ3) (fun (b4 : Int32) (σ5 : zSt) => zbnd (fX8_find N b4 (-1 : Int32) (-1000000 : Int32) σ5) (fun (b6 : Int32) (σ7 : zSt) => if b6 = 0 then some ((-1000002 : Int32), σ7) else znm (σ7.2 0 42) (fun (v8 : Int64) => znm (σ7.2 0 43) (fun (v9 : Int64) => fX8_raise_54 N N b4 v8 v9 (-1000000 : Int32) (0 : Int32) σ7))))))
def rmX8_partsIn : Room := { frames := 1, cells := 0, slots := 0, locals := 24 }
def fX8_partsIn_27 (N : Nat) (k4 : Int32 → Int32 → Int32 → zSt → Option (Int32 × zSt)) (x1 : Int32) (x3 : Int32) (s0 : Int32) (s1 : Int32) (σ : zSt) : Option (Int32 × zSt) :=
  znm (s1 + s0) (fun (v1 : Int32) => k4 x1 v1 (x3 + (1 : Int32)) σ)
def fX8_partsIn_4 (N : Nat)  : Nat → Int32 → Int32 → Int32 → zSt → Option (Int32 × zSt)
  | 0, _, _, _, _ => none
  | n + 1, x1, x2, x3, σ => if (σ.1 0 6) ≤ x3 then some (x2, σ) else zbnd (fX8_isPart N x3 x1 σ) (fun (b1 : Int32) (σ2 : zSt) => if b1 = 0 then fX8_partsIn_27 N (fX8_partsIn_4 N n) x1 x3 (0 : Int32) x2 σ2 else fX8_partsIn_27 N (fX8_partsIn_4 N n) x1 x3 (1 : Int32) x2 σ2)
def fX8_partsIn (N : Nat) (x1 : Int32) (σ : zSt) : Option (Int32 × zSt) :=
  fX8_partsIn_4 N N x1 (0 : Int32) (0 : Int32) σ
def rmX8_kindOf : Room := { frames := 2, cells := 0, slots := 0, locals := 47 }
def fX8_kindOf (N : Nat) (x1 : Int32) (σ : zSt) : Option (Int32 × zSt) :=
  zag σ 4 20 x1 (fun (v1 : Int32) => if v1 = (2 : Int32) then zbnd (fX8_partsIn N x1 σ) (fun (b2 : Int32) (σ3 : zSt) => if b2 = 0 then some ((4 : Int32), σ3) else some ((3 : Int32), σ3)) else zbnd (fX8_stands N x1 σ) (fun (b4 : Int32) (σ5 : zSt) => if b4 = 0 then some ((5 : Int32), σ5) else zag σ5 4 20 x1 (fun (v6 : Int32) => if v6 = (1 : Int32) then some ((2 : Int32), σ5) else some ((1 : Int32), σ5))))
def rmX8_kind : Room := { frames := 3, cells := 0, slots := 0, locals := 68 }
def fX8_kind (N : Nat) (x1 : Int32) (σ : zSt) : Option (Int32 × zSt) :=
  zpf σ 0 0 (0 : Int32) (fun (σ1 : zSt) => zbnd (fX8_isNode N x1 σ1) (fun (b2 : Int32) (σ3 : zSt) => if b2 = 0 then some ((-1000001 : Int32), σ3) else zbnd (fX8_kindOf N x1 σ3) (fun (b4 : Int32) (σ5 : zSt) => some (b4, σ5))))
def rmX8_isOf : Room := { frames := 0, cells := 0, slots := 0, locals := 0 }
def fX8_isOf_34 (N : Nat)   (σ : zSt) : Option (Int32 × zSt) :=
  zrz (1 : Int32) σ
def fX8_isOf_24 (N : Nat)  (x0 : Int32) (x1 : Int32) (σ : zSt) : Option (Int32 × zSt) :=
  if x1 = (3 : Int32) then if x0 = (4 : Int32) then fX8_isOf_34 N σ else zrz (0 : Int32) σ else zrz (0 : Int32) σ
def fX8_isOf (N : Nat) (x0 : Int32) (x1 : Int32) (σ : zSt) : Option (Int32 × zSt) :=
  if x1 = 0 then fX8_isOf_34 N σ else if x0 = x1 then fX8_isOf_34 N σ else if x1 = (1 : Int32) then if x0 = (2 : Int32) then fX8_isOf_34 N σ else if x0 = (5 : Int32) then fX8_isOf_34 N σ else fX8_isOf_24 N x0 x1 σ else fX8_isOf_24 N x0 x1 σ
def rmX8_as : Room := { frames := 3, cells := 0, slots := 0, locals := 68 }
def fX8_as (N : Nat) (x1 : Int32) (x2 : Int32) (σ : zSt) : Option (Int32 × zSt) :=
  zpf σ 0 0 (0 : Int32) (fun (σ1 : zSt) => zbnd (fX8_isNode N x1 σ1) (fun (b2 : Int32) (σ3 : zSt) => if b2 = 0 then some ((-1000001 : Int32), σ3) else zbnd (fX8_in N x2.toInt64 (0 : Int64) (5 : Int64) σ3) (fun (b4 : Int32) (σ5 : zSt) => if b4 = 0 then some ((-1000001 : Int32), σ5) else zpf σ5 0 1 (0 : Int32) (fun (σ6 : zSt) => zbnd (fX8_kindOf N x1 σ6) (fun (b7 : Int32) (σ8 : zSt) => zbnd (fX8_isOf N b7 x2 σ8) (fun (b9 : Int32) (σ10 : zSt) => if b9 = 0 then zbnd (fX8_finding N (3 : Int32) σ10) (fun (b11 : Int32) (σ12 : zSt) => some (b11, σ12)) else some (x1, σ10)))))))
def rmX8_began : Room := { frames := 0, cells := 0, slots := 0, locals := 0 }
def fX8_began (N : Nat) (x1 : Int32) (σ : zSt) : Option (Unit × zSt) :=
  if (16 : Int32) ≤ (σ.1 0 45) then some ((), σ) else zas σ 22 16 (σ.1 0 45) x1 (fun (σ1 : zSt) => zpf σ1 0 45 ((σ1.1 0 45) + (1 : Int32)) (fun (σ2 : zSt) => some ((), σ2)))
def rmX8_markOf : Room := { frames := 4, cells := 0, slots := 0, locals := 89 }
def fX8_markOf_29 (N : Nat)  (x1 : Int32) (x2 : Int32) (σ : zSt) : Option (Int32 × zSt) :=
  zbnd (fX8_began N (20 : Int32) σ) (fun (b1 : Unit) (σ2 : zSt) => if x2 = (5 : Int32) then some ((x1 + (σ2.1 0 29)), σ2) else zbnd (fX8_isOf N x2 (3 : Int32) σ2) (fun (b3 : Int32) (σ4 : zSt) => if b3 = 0 then some ((x1 + (0 : Int32)), σ4) else zbnd (fX8_shownNow N σ4) (fun (b5 : Int32) (σ6 : zSt) => if ((b5 >>> (x1 &&& 31)) &&& (1 : Int32)) = (1 : Int32) then some ((x1 + (100 : Int32)), σ6) else some ((x1 + (0 : Int32)), σ6))))
def fX8_markOf_26 (N : Nat)  (x1 : Int32) (x2 : Int32) (s0 : Int32) (σ : zSt) : Option (Int32 × zSt) :=
  zbnd (fX8_began N s0 σ) (fun (b1 : Unit) (σ2 : zSt) => fX8_markOf_29 N x1 x2 σ2)
def fX8_markOf_13 (N : Nat)  (x1 : Int32) (x2 : Int32) (σ : zSt) : Option (Int32 × zSt) :=
  if x2 = (5 : Int32) then fX8_markOf_26 N x1 x2 (22 : Int32) σ else fX8_markOf_26 N x1 x2 (21 : Int32) σ
def fX8_markOf (N : Nat) (x1 : Int32) (x2 : Int32) (σ : zSt) : Option (Int32 × zSt) :=
  if x2 = (5 : Int32) then fX8_markOf_13 N x1 x2 σ else zbnd (fX8_isOf N x2 (3 : Int32) σ) (fun (b1 : Int32) (σ2 : zSt) => if b1 = 0 then fX8_markOf_29 N x1 x2 σ2 else fX8_markOf_13 N x1 x2 σ2)
def rmX8_heldBy : Room := { frames := 0, cells := 0, slots := 0, locals := 0 }
def fX8_heldBy_28 (N : Nat) (k4 : Int32 → Int32 → Int32 → zSt → Option (Int32 × zSt)) (x1 : Int32) (x3 : Int32) (s0 : Int32) (s1 : Int32) (σ : zSt) : Option (Int32 × zSt) :=
  znm (s1 + s0) (fun (v1 : Int32) => k4 x1 v1 (x3 + (1 : Int32)) σ)
def fX8_heldBy_4 (N : Nat)  : Nat → Int32 → Int32 → Int32 → zSt → Option (Int32 × zSt)
  | 0, _, _, _, _ => none
  | n + 1, x1, x2, x3, σ => if (σ.1 0 6) ≤ x3 then some (x2, σ) else zag σ 10 16 x3 (fun (v1 : Int32) => if v1 = x1 then fX8_heldBy_28 N (fX8_heldBy_4 N n) x1 x3 (1 : Int32) x2 σ else fX8_heldBy_28 N (fX8_heldBy_4 N n) x1 x3 (0 : Int32) x2 σ)
def fX8_heldBy (N : Nat) (x1 : Int32) (σ : zSt) : Option (Int32 × zSt) :=
  fX8_heldBy_4 N N x1 (0 : Int32) (0 : Int32) σ
def rmX8_sizeOf : Room := { frames := 5, cells := 0, slots := 0, locals := 111 }
def fX8_sizeOf_94 (N : Nat)  (x1 : Int32) (x2 : Int32) (s0 : Int32) (s1 : Int32) (σ : zSt) : Option (Int32 × zSt) :=
  znm (s1 + s0) (fun (v1 : Int32) => if x2 = (2 : Int32) then some (((2 : Int32) * v1), σ) else if x2 = (5 : Int32) then some ((-v1), σ) else if x2 = (4 : Int32) then zbnd (fX8_heldBy N x1 σ) (fun (b2 : Int32) (σ3 : zSt) => some ((v1 + b2), σ3)) else some (v1, σ))
def fX8_sizeOf_57 (N : Nat)  (x1 : Int32) (x2 : Int32) (s0 : Int32) (σ : zSt) : Option (Int32 × zSt) :=
  zbnd (fX8_began N s0 σ) (fun (b1 : Unit) (σ2 : zSt) => zbnd (fX8_began N (10 : Int32) σ2) (fun (b3 : Unit) (σ4 : zSt) => zbnd (fX8_partsIn N x1 σ4) (fun (b5 : Int32) (σ6 : zSt) => zbnd (fX8_isOf N x2 (1 : Int32) σ6) (fun (b7 : Int32) (σ8 : zSt) => if b7 = 0 then zbnd (fX8_markOf N x1 x2 σ8) (fun (b9 : Int32) (σ10 : zSt) => fX8_sizeOf_94 N x1 x2 b9 b5 σ10) else zag σ8 5 20 x1 (fun (v11 : Int32) => fX8_sizeOf_94 N x1 x2 v11 b5 σ8)))))
def fX8_sizeOf_41 (N : Nat)  (x1 : Int32) (x2 : Int32) (σ : zSt) : Option (Int32 × zSt) :=
  zbnd (fX8_isOf N x2 (1 : Int32) σ) (fun (b1 : Int32) (σ2 : zSt) => if b1 = 0 then fX8_sizeOf_57 N x1 x2 (13 : Int32) σ2 else fX8_sizeOf_57 N x1 x2 (11 : Int32) σ2)
def fX8_sizeOf_38 (N : Nat)  (x1 : Int32) (x2 : Int32) (s0 : Int32) (σ : zSt) : Option (Int32 × zSt) :=
  zbnd (fX8_began N s0 σ) (fun (b1 : Unit) (σ2 : zSt) => fX8_sizeOf_41 N x1 x2 σ2)
def fX8_sizeOf_15 (N : Nat)  (x1 : Int32) (x2 : Int32) (σ : zSt) : Option (Int32 × zSt) :=
  if x2 = (2 : Int32) then fX8_sizeOf_38 N x1 x2 (12 : Int32) σ else if x2 = (5 : Int32) then fX8_sizeOf_38 N x1 x2 (15 : Int32) σ else fX8_sizeOf_38 N x1 x2 (14 : Int32) σ
def fX8_sizeOf (N : Nat) (x1 : Int32) (x2 : Int32) (σ : zSt) : Option (Int32 × zSt) :=
  if x2 = (2 : Int32) then fX8_sizeOf_15 N x1 x2 σ else if x2 = (5 : Int32) then fX8_sizeOf_15 N x1 x2 σ else if x2 = (4 : Int32) then fX8_sizeOf_15 N x1 x2 σ else fX8_sizeOf_41 N x1 x2 σ
def rmX8_ask : Room := { frames := 6, cells := 0, slots := 0, locals := 134 }
def fX8_ask (N : Nat) (x1 : Int32) (x2 : Int32) (σ : zSt) : Option (Int32 × zSt) :=
  zpf σ 0 0 (0 : Int32) (fun (σ1 : zSt) => zbnd (fX8_isNode N x1 σ1) (fun (b2 : Int32) (σ3 : zSt) => if b2 = 0 then some ((-1000001 : Int32), σ3) else zbnd (fX8_in N x2.toInt64 (0 : Int64) (1 : Int64) σ3) (fun (b4 : Int32) (σ5 : zSt) => if b4 = 0 then some ((-1000001 : Int32), σ5) else zpf σ5 0 45 (0 : Int32) (fun (σ6 : zSt) => if x2 = 0 then zbnd (fX8_kindOf N x1 σ6) (fun (b7 : Int32) (σ8 : zSt) => zbnd (fX8_sizeOf N x1 b7 σ8) (fun (b9 : Int32) (σ10 : zSt) => some (b9, σ10))) else zbnd (fX8_kindOf N x1 σ6) (fun (b11 : Int32) (σ12 : zSt) => zbnd (fX8_markOf N x1 b11 σ12) (fun (b13 : Int32) (σ14 : zSt) => some (b13, σ14)))))))
def rmX8_trace : Room := { frames := 1, cells := 0, slots := 0, locals := 25 }
def fX8_trace (N : Nat) (x1 : Int32) (σ : zSt) : Option (Int32 × zSt) :=
  zpf σ 0 0 (0 : Int32) (fun (σ1 : zSt) => zbnd (fX8_in N x1.toInt64 (0 : Int64) ((σ1.1 0 45) - (1 : Int32)).toInt64 σ1) (fun (b2 : Int32) (σ3 : zSt) => if b2 = 0 then some ((-1000000 : Int32), σ3) else zag σ3 22 16 x1 (fun (v4 : Int32) => some (v4, σ3))))
def rmX8_count : Room := { frames := 3, cells := 0, slots := 0, locals := 68 }
def fX8_count_79 (N : Nat) (k58 : Int32 → Int32 → zSt → Option (Int32 × zSt)) (x3 : Int32) (s0 : Int32) (s1 : Int32) (σ : zSt) : Option (Int32 × zSt) :=
  znm (s1 + s0) (fun (v1 : Int32) => k58 v1 (x3 + (1 : Int32)) σ)
def fX8_count_58 (N : Nat)  : Nat → Int32 → Int32 → zSt → Option (Int32 × zSt)
  | 0, _, _, _ => none
  | n + 1, x2, x3, σ => if (8 : Int32) ≤ x3 then some (x2, σ) else zag σ 1 8 x3 (fun (v1 : Int32) => if v1 < 0 then fX8_count_79 N (fX8_count_58 N n) x3 (0 : Int32) x2 σ else fX8_count_79 N (fX8_count_58 N n) x3 (1 : Int32) x2 σ)
def fX8_count_109 (N : Nat)  : Nat → Int32 → Int32 → zSt → Option (Int32 × zSt)
  | 0, _, _, _ => none
  | n + 1, x2, x3, σ => if (σ.1 0 6) ≤ x3 then some (x2, σ) else zbnd (fX8_openOf N x3 σ) (fun (b1 : Int32) (σ2 : zSt) => znm (x2 + b1) (fun (v3 : Int32) => fX8_count_109 N n v3 (x3 + (1 : Int32)) σ2))
def fX8_count_158 (N : Nat) (k135 : Int32 → Int32 → zSt → Option (Int32 × zSt)) (x3 : Int32) (s0 : Int32) (s1 : Int32) (σ : zSt) : Option (Int32 × zSt) :=
  znm (s1 + s0) (fun (v1 : Int32) => k135 v1 (x3 + (1 : Int32)) σ)
def fX8_count_135 (N : Nat)  : Nat → Int32 → Int32 → zSt → Option (Int32 × zSt)
  | 0, _, _, _ => none
  | n + 1, x2, x3, σ => if (σ.1 0 5) ≤ x3 then some (x2, σ) else zbnd (fX8_kindOf N x3 σ) (fun (b1 : Int32) (σ2 : zSt) => if b1 = (5 : Int32) then fX8_count_158 N (fX8_count_135 N n) x3 (1 : Int32) x2 σ2 else fX8_count_158 N (fX8_count_135 N n) x3 (0 : Int32) x2 σ2)
def fX8_count (N : Nat) (x1 : Int32) (σ : zSt) : Option (Int32 × zSt) :=
  zpf σ 0 0 (0 : Int32) (fun (σ1 : zSt) => if x1 = (0 : Int32) then fX8_count_58 N N (0 : Int32) (0 : Int32) σ1 else (if x1 = (1 : Int32) then some ((σ1.1 0 5), σ1) else (if x1 = (2 : Int32) then zbnd (fX8_claims N σ1) (fun (b4 : Int32) (σ5 : zSt) => zbnd (fX8_bits N b4 σ5) (fun (b6 : Int32) (σ7 : zSt) => some (b6, σ7))) else (if x1 = (3 : Int32) then some ((σ1.1 0 6), σ1) else (if x1 = (4 : Int32) then fX8_count_109 N N (0 : Int32) (0 : Int32) σ1 else (if x1 = (5 : Int32) then fX8_count_135 N N (0 : Int32) (0 : Int32) σ1 else (if x1 = (6 : Int32) then some ((σ1.1 0 31), σ1) else (if x1 = (7 : Int32) then some ((σ1.1 0 20), σ1) else (some ((-1000001 : Int32), σ1))))))))))
def rmX8_status : Room := { frames := 0, cells := 0, slots := 0, locals := 0 }
def fX8_status (N : Nat)  (σ : zSt) : Option (Int32 × zSt) :=
  zpf σ 0 0 (0 : Int32) (fun (σ1 : zSt) => some ((σ1.1 0 1), σ1))
