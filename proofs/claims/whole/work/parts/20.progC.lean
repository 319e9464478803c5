/-! ===== what the methods of the class do, by program ===== -/
def pX0_size   (S : mM) : Option Int32 :=
  gf S 37 2 fun v1 => some v1

def pX3_copyAt (b1 nm : Nat) (a1 : Int32) (S : mM) : Option (Option Nat) :=
  if a1 < 0 then
    (some none)
  else
    (if (nI nm) ≤ a1 then
      (some none)
    else
      (gd (inB a1 nm) <| some (some (b1 + 3 + 17 * a1.toNatClampNeg))))

def pX2_copyFrom (b1 b2 n1 n2 : Nat)  (S : mM) : Option mM :=
  vl (if (nI n1) < (nI n1) then (nI n1) else (nI n1)) fun v20 => ac S (b2 + 1) n1 (b1 + 1) n1 (nI 0) (nI 0) v20 fun S23 => vl (if (nI n2) < (nI n2) then (nI n2) else (nI n2)) fun v46 => ac S23 (b2 + 2) n2 (b1 + 2) n2 (nI 0) (nI 0) v46 fun S49 => some S49

def pX5_copyFrom (b1 b2 n : Nat)  (S : mM) : Option mM :=
  gf S b2 3 fun v2 => pf S b1 3 v2 fun S5 => vl (if (nI n) < (nI n) then (nI n) else (nI n)) fun v28 => ac S5 (b2 + 1) n (b1 + 1) n (nI 0) (nI 0) v28 fun S31 => some S31

def pX4_copyFrom (b1 b2 : Nat)  (S : mM) : Option mM :=
  gf S b2 7 fun v2 => pf S b1 7 v2 fun S5 => gf S5 b2 8 fun v10 => pf S5 b1 8 v10 fun S13 => cr1 (pX5_copyFrom (b1 + 1) (b2 + 1) 16 S13) fun S24 => cr1 (pX5_copyFrom (b1 + 3) (b2 + 3) 12 S24) fun S35 => cr1 (pX5_copyFrom (b1 + 5) (b2 + 5) 8 S35) fun S46 => cr1 (pX5_copyFrom (b1 + 7) (b2 + 7) 16 S46) fun S57 => cr1 (pX5_copyFrom (b1 + 9) (b2 + 9) 112 S57) fun S68 => cr1 (pX2_copyFrom (b1 + 11) (b2 + 11) 4 32 S68) fun S79 => cr1 (pX2_copyFrom (b1 + 14) (b2 + 14) 6 36 S79) fun S90 => pz S90 b1 9 (nI 1) fun S95 => pf S95 b1 10 (-9) fun S101 => pf S101 b1 11 (-9) fun S107 => some S107

def pX3_keep (b1 nm : Nat) (a1 : Int32) (S : mM) : Option mM :=
  bo (pX3_copyAt b1 nm a1 S) (some S) fun k2 => if a1 < 0 then
      (some S)
    else
      (if (nI nm) ≤ a1 then
        (some S)
      else
        (cr1 (pX4_copyFrom k2 3 S) fun S25 => st S25 (b1 + 2) nm a1 (vp_nar .boolean (nI 1)) fun S34 => some S34))

def pX0_remember   (S : mM) : Option mM :=
  gf S 37 1 fun v5 => cr1 (pX3_keep 38 14 v5 S) fun S9 => gf S9 37 1 fun v14 => pf S9 37 1 ((v14 + (nI 1)) - (v14 + (nI 1)) / (nI 14) * (nI 14)) fun S22 => gf S22 37 2 fun v27 => vl (if (nI 14) < (v27 + (nI 1)) then (nI 14) else (v27 + (nI 1))) fun v34 => pf S22 37 2 v34 fun S37 => some S37

def pX3_giveBack (b1 nm : Nat) (a1 : Int32) (S : mM) : Option mM :=
  bo (pX3_copyAt b1 nm a1 S) (some S) fun k2 => cr1 (pX4_copyFrom 3 k2 S) fun S12 => some S12

def pX0_takeBack   (S : mM) : Option mM :=
  gf S 37 2 fun v1 => if v1 ≤ 0 then
    (some S)
  else
    (gf S 37 1 fun v9 => pf S 37 1 (((v9 + (nI 14)) - (nI 1)) - ((v9 + (nI 14)) - (nI 1)) / (nI 14) * (nI 14)) fun S20 => gf S20 37 2 fun v25 => pf S20 37 2 (v25 - (nI 1)) fun S30 => gf S30 37 1 fun v38 => cr1 (pX3_giveBack 38 14 v38 S30) fun S42 => some S42)

def pX0_forget   (S : mM) : Option mM :=
  pf S 37 2 (nI 0) fun S2 => some S2

def pX1_isFull   (S : mM) : Option Int32 :=
  gf S 1 1 fun v1 => if v1 < (nI 140) then
    (gd (isZ (nI 0)) (some (nI 0)))
  else
    (gd (isZ (nI 1)) (some (nI 1)))

def pX1_addSign  (a1 : Int32) (S : mM) : Option (Int32 × mM) :=
  gf S 1 1 fun v1 => if v1 < 0 then
    (gf S 1 1 fun v40 => some (v40, S))
  else
    (gf S 1 1 fun v8 => if (nI 140) ≤ v8 then
      (gf S 1 1 fun v40 => some (v40, S))
    else
      (gf S 1 1 fun v24 => st S 2 140 v24 (vp_nar .char a1) fun S28 => gf S28 1 1 fun v31 => pf S28 1 1 (v31 + (nI 1)) fun S36 => gf S36 1 1 fun v40 => some (v40, S36)))

def pX1_emptyOut   (S : mM) : Option (Int32 × mM) :=
  gf S 1 1 fun v1 => pf S 1 1 (nI 0) fun S7 => some (v1, S7)

def pX1_signAt   (S : mM) : Option Int32 :=
  gf S 1 2 fun v1 => if v1 < 0 then
    (some (-9))
  else
    (gf S 1 2 fun v8 => gf S 1 1 fun v12 => if v12 ≤ v8 then
      (some (-9))
    else
      (gf S 1 2 fun v19 => if (nI 140) ≤ v19 then
        (some (-9))
      else
        (gf S 1 2 fun v35 => ld S 2 140 v35 fun v38 => some v38)))

def pX6_isWithin  (a1 : Int32) (a2 : Int32) (a3 : Int32) : Option Int32 :=
  if a1 < a2 then
    (gd (isZ (nI 0)) (some (nI 0)))
  else
    (if a3 < a1 then
      (gd (isZ (nI 0)) (some (nI 0)))
    else
      (gd (isZ (nI 1)) (some (nI 1))))

def pX1_number_b100  (ih31 : Int32 → Int32 → Int32 → Int32 → Int32 → Int32 → mM → Option (Int32 × mM)) (x1 : Int32) (x2 : Int32) (x3 : Int32) (x4 : Int32) (x5 : Int32) (x6 : Int32) (x7 : Int32) (t1 : Int32) (S : mM) : Option (Int32 × mM) :=
  pz S 1 3 t1 fun S100 => gf S100 1 3 fun v104 => if v104 = 0 then
      (vl ((x4 * (nI 10)) + x7) fun v118 => gf S100 1 2 fun v122 => pf S100 1 2 (v122 + (nI 1)) fun S127 => vl (x5 / (nI 10)) fun v135 => vl (x6 + (nI 1)) fun v137 => ih31 x1 x2 x3 v118 v135 v137 S127)
    else
      (vl (x6 + (nI 1)) fun v137 => ih31 x1 x2 x3 x4 x5 v137 S100)
def pX1_number_b95  (ih31 : Int32 → Int32 → Int32 → Int32 → Int32 → Int32 → mM → Option (Int32 × mM)) (x1 : Int32) (x2 : Int32) (x3 : Int32) (x4 : Int32) (x5 : Int32) (x6 : Int32) (x7 : Int32) (S : mM) : Option (Int32 × mM) :=
  pX1_number_b100 ih31 x1 x2 x3 x4 x5 x6 x7 (nI 1) S
def pX1_number_lb31  (ih31 : Int32 → Int32 → Int32 → Int32 → Int32 → Int32 → mM → Option (Int32 × mM)) (x1 : Int32) (x2 : Int32) (x3 : Int32) (x4 : Int32) (x5 : Int32) (x6 : Int32) (S : mM) : Option (Int32 × mM) :=
  if x1 ≤ x6 then
      (some (x4, S))
    else
      (gf S 1 3 fun v38 => if v38 = 0 then
        (cr1 (pX1_signAt S) fun v45 => vl (v45 - (nI 48)) fun v51 => vl (((x4 * (nI 10)) + v51) * x5) fun v64 => cr1 (pX6_isWithin v51 (nI 0) (nI 9)) fun v72 => if v72 = 0 then
          (pX1_number_b95 ih31 x1 x2 x3 x4 x5 x6 v51 S)
        else
          (if x3 < v64 then
            (pX1_number_b95 ih31 x1 x2 x3 x4 x5 x6 v51 S)
          else
            (if x2 ≤ ((v64 + x5) - (nI 1)) then
              (pX1_number_b100 ih31 x1 x2 x3 x4 x5 x6 v51 (nI 0) S)
            else
              (pX1_number_b95 ih31 x1 x2 x3 x4 x5 x6 v51 S))))
      else
        (some (x4, S)))
def pX1_number_l31  : Nat → Int32 → Int32 → Int32 → Int32 → Int32 → Int32 → mM → Option (Int32 × mM)
  | 0, _, _, _, _, _, _, _ => none
  | k + 1, x1, x2, x3, x4, x5, x6, S => pX1_number_lb31  (pX1_number_l31  k) x1 x2 x3 x4 x5 x6 S
def pX1_number_lb9  (ih9 : Int32 → Int32 → Int32 → Int32 → Int32 → Int32 → mM → Option (Int32 × mM)) (x1 : Int32) (x2 : Int32) (x3 : Int32) (x4 : Int32) (x5 : Int32) (x6 : Int32) (S : mM) : Option (Int32 × mM) :=
  if x1 ≤ x6 then
      (pX1_number_l31 fuel x1 x2 x3 x4 x5 (nI 0) S)
    else
      (vl (x5 * (nI 10)) fun v20 => vl (x6 + (nI 1)) fun v22 => ih9 x1 x2 x3 x4 v20 v22 S)
def pX1_number_l9  : Nat → Int32 → Int32 → Int32 → Int32 → Int32 → Int32 → mM → Option (Int32 × mM)
  | 0, _, _, _, _, _, _, _ => none
  | k + 1, x1, x2, x3, x4, x5, x6, S => pX1_number_lb9  (pX1_number_l9  k) x1 x2 x3 x4 x5 x6 S
def pX1_number  (a1 : Int32) (a2 : Int32) (a3 : Int32) (S : mM) : Option (Int32 × mM) :=
  pX1_number_l9 fuel a1 a2 a3 (nI 0) (nI 1) (nI 1) S

def pX2_size (n1 n2 : Nat) (a1 : Int32) (S : mM) : Option Int32 :=
  if a1 < 0 then
    (some (nI 0))
  else
    (if (nI n1) ≤ a1 then
      (some (nI 0))
    else
      (ld S 1 n1 a1 fun v18 => some v18))

def pX5_has (n : Nat) (a1 : Int32) (S : mM) : Option Int32 :=
  if a1 < 0 then
    (gd (isZ (nI 0)) (some (nI 0)))
  else
    (gf S 0 3 fun v6 => if v6 ≤ a1 then
      (gd (isZ (nI 0)) (some (nI 0)))
    else
      (gd (isZ (nI 1)) (some (nI 1))))

def pX5_isFull (n : Nat)  (S : mM) : Option Int32 :=
  gf S 0 3 fun v1 => gf S 0 0 fun v5 => if v1 < v5 then
    (gd (isZ (nI 0)) (some (nI 0)))
  else
    (gd (isZ (nI 1)) (some (nI 1)))

def pX4_hasRoomForVehicle  (a1 : Int32) (S : mM) : Option Int32 :=
  cr1 (pX5_isFull 112 (sB S 9)) fun v4 => if v4 = 0 then
    (cr1 (pX5_has 16 a1 (sB S 7)) fun v15 => if v15 = 0 then
      (gd (isZ (nI 0)) (some (nI 0)))
    else
      (cr1 (pX2_size 4 32 a1 (sB S 11)) fun v26 => if (nI 8) ≤ v26 then
        (gd (isZ (nI 0)) (some (nI 0)))
      else
        (gd (isZ (nI 1)) (some (nI 1)))))
  else
    (gd (isZ (nI 0)) (some (nI 0)))

def pX5_count (n : Nat)  (S : mM) : Option Int32 :=
  gf S 0 3 fun v1 => some v1

def pX1_isAllowed  (a1 : Int32) (S : mM) : Option Int32 :=
  if a1 = (nI 98) then
    (cr1 (pX5_isFull 12 (sB S 23)) fun v72 => if v72 = 0 then
      (gd (isZ (nI 1)) (some (nI 1)))
    else
      (gd (isZ (nI 0)) (some (nI 0))))
  else if a1 = (nI 99) then
    (cr1 (pX5_isFull 16 (sB S 27)) fun v104 => if v104 = 0 then
      (gd (isZ (nI 1)) (some (nI 1)))
    else
      (gd (isZ (nI 0)) (some (nI 0))))
  else if a1 = (nI 100) then
    (cr1 (pX5_isFull 8 (sB S 25)) fun v88 => if v88 = 0 then
      (gd (isZ (nI 1)) (some (nI 1)))
    else
      (gd (isZ (nI 0)) (some (nI 0))))
  else if a1 = (nI 103) then
    (cr1 (pX5_isFull 16 (sB S 21)) fun v56 => if v56 = 0 then
      (gd (isZ (nI 1)) (some (nI 1)))
    else
      (gd (isZ (nI 0)) (some (nI 0))))
  else if a1 = (nI 118) then
    (cr1 (pX5_count 16 (sB S 27)) fun v121 => cr1 (pX4_hasRoomForVehicle (v121 - (nI 1)) (sB S 20)) fun v126 => gd (isZ v126) (some v126))
  else (gd (isZ (nI 0)) (some (nI 0)))

def pX5_get_b38 (n : Nat) (S : mM) (x3 : Int32) (t0 : Int32) : Option Int32 :=
  if t0 = 0 then
      (some (-9))
    else
      (if x3 < 0 then
        (some (-9))
      else
        (if (nI n) ≤ x3 then
          (some (-9))
        else
          (ld S 1 n x3 fun v63 => some v63)))
def pX5_get_b37 (n : Nat) (S : mM) (x3 : Int32) : Option Int32 :=
  pX5_get_b38 n S x3 (nI 0)
def pX5_get (n : Nat) (a1 : Int32) (a2 : Int32) (S : mM) : Option Int32 :=
  gf S 0 1 fun v2 => vl ((a1 * v2) + a2) fun v8 => if a1 < 0 then
    (pX5_get_b37 n S v8)
  else
    (gf S 0 3 fun v15 => if v15 ≤ a1 then
      (pX5_get_b37 n S v8)
    else
      (if a2 < 0 then
        (pX5_get_b37 n S v8)
      else
        (gf S 0 1 fun v27 => if v27 ≤ a2 then
          (pX5_get_b37 n S v8)
        else
          (pX5_get_b38 n S v8 (nI 1)))))

def pX5_rowAt_lb2 (n : Nat) (ih2 : Int32 → Int32 → Option Int32) (S : mM) (x1 : Int32) (x2 : Int32) : Option Int32 :=
  gf S 0 3 fun v4 => if v4 ≤ x2 then
      (some (-9))
    else
      (cr1 (pX5_get n x2 (nI 0) S) fun v13 => if v13 = x1 then
        (some x2)
      else
        (vl (x2 + (nI 1)) fun v22 => ih2 x1 v22))
def pX5_rowAt_l2 (n : Nat) (S : mM) : Nat → Int32 → Int32 → Option Int32
  | 0, _, _ => none
  | k + 1, x1, x2 => pX5_rowAt_lb2 n (pX5_rowAt_l2 n S k) S x1 x2
def pX5_rowAt (n : Nat) (a1 : Int32) (S : mM) : Option Int32 :=
  pX5_rowAt_l2 n S fuel a1 (nI 0)

def pX1_kilometer (b1 : Nat) (n : Nat) (a2 : Int32) (a3 : Int32) (S : mM) : Option (Int32 × mM) :=
  cw2 (pX1_number (nI 2) a2 a3 S) fun v4 S4 => gf S4 1 3 fun v10 => if v10 = 0 then
    (cr1 (pX5_rowAt n v4 (sB S4 b1)) fun v19 => if v19 = (-9) then
      (some (v4, S4))
    else
      (pz S4 1 3 (nI 1) fun S29 => gf S29 1 2 fun v34 => pf S29 1 2 (v34 - (nI 1)) fun S39 => some (v4, S39)))
  else
    (some (v4, S4))

def pX4_length   (S : mM) : Option Int32 :=
  gf S 0 7 fun v1 => some v1

def pX5_put_b39 (n : Nat) (x3 : Int32) (x4 : Int32) (t0 : Int32) (S : mM) : Option mM :=
  if t0 = 0 then
      (some S)
    else
      (if x4 < 0 then
        (some S)
      else
        (if (nI n) ≤ x4 then
          (some S)
        else
          (st S 1 n x4 x3 fun S68 => some S68)))
def pX5_put_b38 (n : Nat) (x3 : Int32) (x4 : Int32) (S : mM) : Option mM :=
  pX5_put_b39 n x3 x4 (nI 0) S
def pX5_put (n : Nat) (a1 : Int32) (a2 : Int32) (a3 : Int32) (S : mM) : Option mM :=
  gf S 0 1 fun v2 => vl ((a1 * v2) + a2) fun v8 => if a1 < 0 then
    (pX5_put_b38 n a3 v8 S)
  else
    (gf S 0 3 fun v16 => if v16 ≤ a1 then
      (pX5_put_b38 n a3 v8 S)
    else
      (if a2 < 0 then
        (pX5_put_b38 n a3 v8 S)
      else
        (gf S 0 1 fun v28 => if v28 ≤ a2 then
          (pX5_put_b38 n a3 v8 S)
        else
          (pX5_put_b39 n a3 v8 (nI 1) S))))

def pX5_addRow_lb26 (n : Nat) (ih26 : Int32 → mM → Option (Int32 × mM)) (x1 : Int32) (S : mM) : Option (Int32 × mM) :=
  gf S 0 1 fun v28 => if v28 ≤ x1 then
      (gf S 0 3 fun v53 => some ((v53 - (nI 1)), S))
    else
      (gf S 0 3 fun v36 => cr1 (pX5_put n (v36 - (nI 1)) x1 (nI 0) S) fun S43 => vl (x1 + (nI 1)) fun v46 => ih26 v46 S43)
def pX5_addRow_l26 (n : Nat) : Nat → Int32 → mM → Option (Int32 × mM)
  | 0, _, _ => none
  | k + 1, x1, S => pX5_addRow_lb26 n (pX5_addRow_l26 n k) x1 S
def pX5_addRow (n : Nat)  (S : mM) : Option (Int32 × mM) :=
  gf S 0 3 fun v1 => gf S 0 0 fun v5 => if v1 < v5 then
    (gf S 0 3 fun v16 => pf S 0 3 (v16 + (nI 1)) fun S21 => pX5_addRow_l26 n fuel (nI 0) S21)
  else
    (some ((-9), S))

def pX4_newBay  (a1 : Int32) (a2 : Int32) (S : mM) : Option (Int32 × mM) :=
  cws S 3 2 (pX5_addRow 12 (sB S 3)) fun v4 S4 => cvs S4 3 2 (pX5_put 12 v4 (nI 0) a1 (sB S4 3)) fun S15 => cvs S15 3 2 (pX5_put 12 v4 (nI 1) a2 (sB S15 3)) fun S25 => some (v4, S25)

def pX1_readBay   (S : mM) : Option mM :=
  cr1 (pX4_length (sB S 20)) fun v7 => cw2 (pX1_kilometer 23 12 (nI 1) (v7 - (nI 1)) S) fun v12 S12 => cw2 (pX1_number (nI 1) (nI 1) (nI 6) S12) fun v21 S21 => gf S21 1 3 fun v26 => if v26 = 0 then
    (cws S21 20 17 (pX4_newBay v12 v21 (sB S21 20)) fun v35 S35 => some S35)
  else
    (some S21)

def pX4_newDepot  (a1 : Int32) (a2 : Int32) (S : mM) : Option (Int32 × mM) :=
  cws S 5 2 (pX5_addRow 8 (sB S 5)) fun v4 S4 => cvs S4 5 2 (pX5_put 8 v4 (nI 0) a1 (sB S4 5)) fun S15 => cvs S15 5 2 (pX5_put 8 v4 (nI 1) a2 (sB S15 5)) fun S25 => some (v4, S25)

def pX1_readDepot   (S : mM) : Option mM :=
  cr1 (pX4_length (sB S 20)) fun v7 => cw2 (pX1_kilometer 25 8 (nI 0) v7 S) fun v10 S10 => cw2 (pX1_number (nI 3) (nI 0) (nI 999) S10) fun v20 S20 => gf S20 1 3 fun v25 => if v25 = 0 then
    (cws S20 20 17 (pX4_newDepot v10 v20 (sB S20 20)) fun v34 S34 => some S34)
  else
    (some S20)

def pX4_newGate  (a1 : Int32) (a2 : Int32) (a3 : Int32) (a4 : Int32) (S : mM) : Option (Int32 × mM) :=
  cws S 1 2 (pX5_addRow 16 (sB S 1)) fun v4 S4 => cvs S4 1 2 (pX5_put 16 v4 (nI 0) a1 (sB S4 1)) fun S17 => cvs S17 1 2 (pX5_put 16 v4 (nI 1) a2 (sB S17 1)) fun S28 => cvs S28 1 2 (pX5_put 16 v4 (nI 2) a3 (sB S28 1)) fun S39 => cvs S39 1 2 (pX5_put 16 v4 (nI 3) a4 (sB S39 1)) fun S51 => some (v4, S51)

def pX1_readGate   (S : mM) : Option mM :=
  cr1 (pX4_length (sB S 20)) fun v7 => cw2 (pX1_kilometer 21 16 (nI 1) (v7 - (nI 1)) S) fun v12 S12 => cw2 (pX1_number (nI 2) (nI 2) (nI 24) S12) fun v21 S21 => cw2 (pX1_number (nI 2) (nI 0) (v21 - (nI 1)) S21) fun v31 S31 => cw2 (pX1_number (nI 2) (nI 0) (v21 - (nI 1)) S31) fun v42 S42 => gf S42 1 3 fun v48 => if v48 = 0 then
    (cws S42 20 17 (pX4_newGate v12 v21 v31 v42 (sB S42 20)) fun v61 S61 => some S61)
  else
    (some S42)

def pX2_put_b42 (n1 n2 : Nat) (x3 : Int32) (x4 : Int32) (t0 : Int32) (S : mM) : Option mM :=
  if t0 = 0 then
      (some S)
    else
      (if x4 < 0 then
        (some S)
      else
        (if (nI n2) ≤ x4 then
          (some S)
        else
          (st S 2 n2 x4 x3 fun S71 => some S71)))
def pX2_put_b41 (n1 n2 : Nat) (x3 : Int32) (x4 : Int32) (S : mM) : Option mM :=
  pX2_put_b42 n1 n2 x3 x4 (nI 0) S
def pX2_put (n1 n2 : Nat) (a1 : Int32) (a2 : Int32) (a3 : Int32) (S : mM) : Option mM :=
  gf S 0 0 fun v2 => vl ((a1 * v2) + a2) fun v8 => if a1 < 0 then
    (pX2_put_b41 n1 n2 a3 v8 S)
  else
    (if (nI n1) ≤ a1 then
      (pX2_put_b41 n1 n2 a3 v8 S)
    else
      (if a2 < 0 then
        (pX2_put_b41 n1 n2 a3 v8 S)
      else
        (ld S 1 n1 a1 fun v33 => if v33 ≤ a2 then
          (pX2_put_b41 n1 n2 a3 v8 S)
        else
          (pX2_put_b42 n1 n2 a3 v8 (nI 1) S))))

def pX2_join (n1 n2 : Nat) (a1 : Int32) (a2 : Int32) (S : mM) : Option mM :=
  if a1 < 0 then
    (some S)
  else
    (if (nI n1) ≤ a1 then
      (some S)
    else
      (ld S 1 n1 a1 fun v18 => gf S 0 0 fun v20 => if v18 < v20 then
        (ld S 1 n1 a1 fun v33 => st S 1 n1 a1 (v33 + (nI 1)) fun S36 => ld S36 1 n1 a1 fun v44 => cr1 (pX2_put n1 n2 a1 (v44 - (nI 1)) a2 S36) fun S48 => some S48)
      else
        (some S)))

def pX4_moveTo  (a1 : Int32) (a2 : Int32) (a3 : Int32) (S : mM) : Option mM :=
  cvs S 9 2 (pX5_put 112 a1 (nI 4) a2 (sB S 9)) fun S7 => cvs S7 9 2 (pX5_put 112 a1 (nI 5) a3 (sB S7 9)) fun S17 => some S17

def pX4_newVehicle  (a1 : Int32) (a2 : Int32) (a3 : Int32) (a4 : Int32) (a5 : Int32) (S : mM) : Option (Int32 × mM) :=
  cws S 9 2 (pX5_addRow 112 (sB S 9)) fun v4 S4 => cvs S4 9 2 (pX5_put 112 v4 (nI 0) a2 (sB S4 9)) fun S17 => cvs S17 9 2 (pX5_put 112 v4 (nI 1) a3 (sB S17 9)) fun S28 => cvs S28 9 2 (pX5_put 112 v4 (nI 2) a4 (sB S28 9)) fun S40 => cvs S40 9 2 (pX5_put 112 v4 (nI 3) a5 (sB S40 9)) fun S52 => cr1 (pX4_moveTo v4 (nI 0) a1 S52) fun S60 => cvs S60 11 3 (pX2_join 4 32 a1 v4 (sB S60 11)) fun S70 => some (v4, S70)

def pX1_readVehicle   (S : mM) : Option mM :=
  cw2 (pX1_number (nI 1) (nI 1) (nI 9) S) fun v5 S5 => cw2 (pX1_number (nI 1) (nI 1) (nI 4) S5) fun v13 S13 => cw2 (pX1_number (nI 2) (nI 20) (nI 99) S13) fun v23 S23 => cw2 (pX1_number (nI 2) (nI 0) v23 S23) fun v33 S33 => gf S33 1 3 fun v39 => if v39 = 0 then
    (cr1 (pX5_count 16 (sB S33 27)) fun v50 => cws S33 20 17 (pX4_newVehicle (v50 - (nI 1)) v5 v13 v23 v33 (sB S33 20)) fun v61 S61 => some S61)
  else
    (some S33)

def pX4_newConvoy   (S : mM) : Option (Int32 × mM) :=
  cws S 7 2 (pX5_addRow 16 (sB S 7)) fun v4 S4 => some (v4, S4)

def pX1_readPart_b20  (x2 : Int32) (t1 : Int32) (S : mM) : Option mM :=
  pz S 1 3 t1 fun S20 => gf S20 1 3 fun v24 => if v24 = 0 then
      (gf S20 1 2 fun v33 => pf S20 1 2 (v33 + (nI 1)) fun S38 => if x2 = (nI 98) then
        (cr1 (pX1_readBay S38) fun S90 => some S90)
      else if x2 = (nI 99) then
        (cws S38 20 17 (pX4_newConvoy (sB S38 20)) fun v105 S105 => some S105)
      else if x2 = (nI 100) then
        (cr1 (pX1_readDepot S38) fun S98 => some S98)
      else if x2 = (nI 101) then
        (cr1 (pX1_readVehicle S38) fun S114 => some S114)
      else if x2 = (nI 102) then
        (cr1 (pX1_readVehicle S38) fun S114 => some S114)
      else if x2 = (nI 103) then
        (cr1 (pX1_readGate S38) fun S82 => some S82)
      else (cr1 (pX1_readVehicle S38) fun S114 => some S114))
    else
      (some S20)
def pX1_readPart   (S : mM) : Option mM :=
  cr1 (pX1_signAt S) fun v1 => cr1 (pX1_isAllowed v1 S) fun v9 => if v9 = 0 then
    (pX1_readPart_b20  v1 (nI 1) S)
  else
    (pX1_readPart_b20  v1 (nI 0) S)

def pX2_emptyOut_lb2 (n1 n2 : Nat) (ih2 : Int32 → mM → Option mM) (x1 : Int32) (S : mM) : Option mM :=
  if (nI n1) ≤ x1 then
      (some S)
    else
      (st S 1 n1 x1 (nI 0) fun S17 => vl (x1 + (nI 1)) fun v18 => ih2 v18 S17)
def pX2_emptyOut_l2 (n1 n2 : Nat) : Nat → Int32 → mM → Option mM
  | 0, _, _ => none
  | k + 1, x1, S => pX2_emptyOut_lb2 n1 n2 (pX2_emptyOut_l2 n1 n2 k) x1 S
def pX2_emptyOut (n1 n2 : Nat)  (S : mM) : Option mM :=
  pX2_emptyOut_l2 n1 n2 fuel (nI 0) S

def pX5_emptyOut (n : Nat)  (S : mM) : Option mM :=
  pf S 0 3 (nI 0) fun S2 => some S2

def pX4_begin  (a1 : Int32) (S : mM) : Option mM :=
  pf S 0 7 a1 fun S2 => pf S2 0 8 (nI 0) fun S7 => cvs S7 1 2 (pX5_emptyOut 16 (sB S7 1)) fun S14 => cvs S14 3 2 (pX5_emptyOut 12 (sB S14 3)) fun S21 => cvs S21 5 2 (pX5_emptyOut 8 (sB S21 5)) fun S28 => cvs S28 7 2 (pX5_emptyOut 16 (sB S28 7)) fun S35 => cvs S35 9 2 (pX5_emptyOut 112 (sB S35 9)) fun S42 => cvs S42 11 3 (pX2_emptyOut 4 32 (sB S42 11)) fun S49 => cvs S49 14 3 (pX2_emptyOut 6 36 (sB S49 14)) fun S56 => some S56

def pX1_readInto_b93  (S : mM) : Option (Int32 × mM) :=
  gf S 1 3 fun v94 => if v94 = 0 then
      (some ((-9), S))
    else
      (gf S 1 2 fun v101 => some (v101, S))
def pX1_readInto_lb57  (ih57 : Int32 → mM → Option (Int32 × mM)) (x3 : Int32) (S : mM) : Option (Int32 × mM) :=
  if (nI 140) ≤ x3 then
      (pX1_readInto_b93  S)
    else
      (gf S 1 2 fun v65 => gf S 1 1 fun v69 => if v69 ≤ v65 then
        (pX1_readInto_b93  S)
      else
        (gf S 1 3 fun v76 => if v76 = 0 then
          (cr1 (pX1_readPart S) fun S84 => vl (x3 + (nI 1)) fun v87 => ih57 v87 S84)
        else
          (pX1_readInto_b93  S)))
def pX1_readInto_l57  : Nat → Int32 → mM → Option (Int32 × mM)
  | 0, _, _ => none
  | k + 1, x3, S => pX1_readInto_lb57  (pX1_readInto_l57  k) x3 S
def pX1_readInto_b40  (S : mM) : Option (Int32 × mM) :=
  cw2 (pX1_number (nI 2) (nI 10) (nI 60) S) fun v46 S46 => cvs S46 20 17 (pX4_begin v46 (sB S46 20)) fun S52 => pX1_readInto_l57 fuel (nI 0) S52
def pX1_readInto_b20  (t1 : Int32) (S : mM) : Option (Int32 × mM) :=
  pz S 1 3 t1 fun S20 => gf S20 1 3 fun v24 => if v24 = 0 then
      (gf S20 1 2 fun v32 => pf S20 1 2 (v32 + (nI 1)) fun S37 => pX1_readInto_b40  S37)
    else
      (pX1_readInto_b40  S20)
def pX1_readInto   (S : mM) : Option (Int32 × mM) :=
  pf S 1 2 (nI 0) fun S2 => cr1 (pX1_signAt S2) fun v7 => if v7 = (nI 87) then
    (pX1_readInto_b20  (nI 0) S2)
  else
    (pX1_readInto_b20  (nI 1) S2)

def pX2_get_b41 (n1 n2 : Nat) (S : mM) (x3 : Int32) (t0 : Int32) : Option Int32 :=
  if t0 = 0 then
      (some (-9))
    else
      (if x3 < 0 then
        (some (-9))
      else
        (if (nI n2) ≤ x3 then
          (some (-9))
        else
          (ld S 2 n2 x3 fun v66 => some v66)))
def pX2_get_b40 (n1 n2 : Nat) (S : mM) (x3 : Int32) : Option Int32 :=
  pX2_get_b41 n1 n2 S x3 (nI 0)
def pX2_get (n1 n2 : Nat) (a1 : Int32) (a2 : Int32) (S : mM) : Option Int32 :=
  gf S 0 0 fun v2 => vl ((a1 * v2) + a2) fun v8 => if a1 < 0 then
    (pX2_get_b40 n1 n2 S v8)
  else
    (if (nI n1) ≤ a1 then
      (pX2_get_b40 n1 n2 S v8)
    else
      (if a2 < 0 then
        (pX2_get_b40 n1 n2 S v8)
      else
        (ld S 1 n1 a1 fun v32 => if v32 ≤ a2 then
          (pX2_get_b40 n1 n2 S v8)
        else
          (pX2_get_b41 n1 n2 S v8 (nI 1)))))

def pX2_remove_lb30 (n1 n2 : Nat) (ih30 : Int32 → Int32 → mM → Option mM) (x1 : Int32) (x3 : Int32) (S : mM) : Option mM :=
  ld S 1 n1 x1 fun v36 => if (v36 - (nI 1)) ≤ x3 then
      (ld S 1 n1 x1 fun v68 => st S 1 n1 x1 (v68 - (nI 1)) fun S71 => some S71)
    else
      (cr1 (pX2_get n1 n2 x1 (x3 + (nI 1)) S) fun v50 => cr1 (pX2_put n1 n2 x1 x3 v50 S) fun S53 => vl (x3 + (nI 1)) fun v56 => ih30 x1 v56 S53)
def pX2_remove_l30 (n1 n2 : Nat) : Nat → Int32 → Int32 → mM → Option mM
  | 0, _, _, _ => none
  | k + 1, x1, x3, S => pX2_remove_lb30 n1 n2 (pX2_remove_l30 n1 n2 k) x1 x3 S
def pX2_remove (n1 n2 : Nat) (a1 : Int32) (a2 : Int32) (S : mM) : Option mM :=
  if a1 < 0 then
    (some S)
  else
    (if (nI n1) ≤ a1 then
      (some S)
    else
      (if a2 < 0 then
        (some S)
      else
        (ld S 1 n1 a1 fun v23 => if a2 < v23 then
          (pX2_remove_l30 n1 n2 fuel a1 a2 S)
        else
          (some S))))

def pX2_emptyLine (n1 n2 : Nat) (a1 : Int32) (S : mM) : Option mM :=
  if a1 < 0 then
    (some S)
  else
    (if (nI n1) ≤ a1 then
      (some S)
    else
      (st S 1 n1 a1 (nI 0) fun S19 => some S19))

def pX3_holds (b1 nm : Nat) (a1 : Int32) (S : mM) : Option Int32 :=
  if a1 < 0 then
    (gd (isZ (nI 0)) (some (nI 0)))
  else
    (if (nI nm) ≤ a1 then
      (gd (isZ (nI 0)) (some (nI 0)))
    else
      (ld S (b1 + 2) nm a1 fun v18 => if v18 = 0 then
        (gd (isZ (nI 0)) (some (nI 0)))
      else
        (gd (isZ (nI 1)) (some (nI 1)))))

def pX3_emptyOut_lb2 (b1 nm : Nat) (ih2 : Int32 → mM → Option mM) (x1 : Int32) (S : mM) : Option mM :=
  if (nI nm) ≤ x1 then
      (some S)
    else
      (st S (b1 + 2) nm x1 (vp_nar .boolean (nI 0)) fun S17 => vl (x1 + (nI 1)) fun v18 => ih2 v18 S17)
def pX3_emptyOut_l2 (b1 nm : Nat) : Nat → Int32 → mM → Option mM
  | 0, _, _ => none
  | k + 1, x1, S => pX3_emptyOut_lb2 b1 nm (pX3_emptyOut_l2 b1 nm k) x1 S
def pX3_emptyOut (b1 nm : Nat)  (S : mM) : Option mM :=
  pX3_emptyOut_l2 b1 nm fuel (nI 0) S

def pX4_hours   (S : mM) : Option Int32 :=
  gf S 0 8 fun v1 => some v1

def pX4_isAtEnd  (a1 : Int32) (S : mM) : Option Int32 :=
  cr1 (pX5_get 16 a1 (nI 0) (sB S 7)) fun v6 => gf S 0 7 fun v10 => if v6 = v10 then
    (gd (isZ (nI 1)) (some (nI 1)))
  else
    (gd (isZ (nI 0)) (some (nI 0)))

def pX4_closedFor  (a1 : Int32) (S : mM) : Option Int32 :=
  cr1 (pX5_get 16 a1 (nI 1) (sB S 1)) fun v6 => if 0 < v6 then
    (gf S 0 8 fun v17 => cr1 (pX5_get 16 a1 (nI 3) (sB S 1)) fun v26 => nz v6 <| vl ((v17 + v26) - (v17 + v26) / v6 * v6) fun v32 => cr1 (pX5_get 16 a1 (nI 2) (sB S 1)) fun v40 => vl (if (nI 0) < (v40 - v32) then (v40 - v32) else (nI 0)) fun v45 => some v45)
  else
    (some (nI 0))

def pX4_slowestSpeed_lb4  (ih4 : Int32 → Int32 → Int32 → Option Int32) (S : mM) (x1 : Int32) (x2 : Int32) (x3 : Int32) : Option Int32 :=
  cr1 (pX2_size 4 32 x1 (sB S 11)) fun v10 => if v10 ≤ x3 then
      (some x2)
    else
      (cr1 (pX2_get 4 32 x1 x3 (sB S 11)) fun v26 => cr1 (pX5_get 112 v26 (nI 0) (sB S 9)) fun v30 => if x3 = 0 then
        (vl (x3 + (nI 1)) fun v51 => ih4 x1 v30 v51)
      else
        (vl (if v30 < x2 then v30 else x2) fun v47 => vl (x3 + (nI 1)) fun v51 => ih4 x1 v47 v51))
def pX4_slowestSpeed_l4  (S : mM) : Nat → Int32 → Int32 → Int32 → Option Int32
  | 0, _, _, _ => none
  | k + 1, x1, x2, x3 => pX4_slowestSpeed_lb4  (pX4_slowestSpeed_l4  S k) S x1 x2 x3
def pX4_slowestSpeed  (a1 : Int32) (S : mM) : Option Int32 :=
  pX4_slowestSpeed_l4 S fuel a1 (nI 0) (nI 0)

def pX4_litersWith_lb4  (ih4 : Int32 → Int32 → Int32 → Option Int32) (S : mM) (x1 : Int32) (x2 : Int32) (x3 : Int32) : Option Int32 :=
  cr1 (pX2_size 4 32 x1 (sB S 11)) fun v10 => if v10 ≤ x3 then
      (some x2)
    else
      (cr1 (pX2_get 4 32 x1 x3 (sB S 11)) fun v27 => cr1 (pX5_get 112 v27 (nI 3) (sB S 9)) fun v31 => vl (x2 + v31) fun v35 => vl (x3 + (nI 1)) fun v36 => ih4 x1 v35 v36)
def pX4_litersWith_l4  (S : mM) : Nat → Int32 → Int32 → Int32 → Option Int32
  | 0, _, _, _ => none
  | k + 1, x1, x2, x3 => pX4_litersWith_lb4  (pX4_litersWith_l4  S k) S x1 x2 x3
def pX4_litersWith  (a1 : Int32) (S : mM) : Option Int32 :=
  pX4_litersWith_l4 S fuel a1 (nI 0) (nI 0)

def pX4_howMany_lb4  (ih4 : Int32 → Int32 → Int32 → Option Int32) (S : mM) (x1 : Int32) (x2 : Int32) (x3 : Int32) : Option Int32 :=
  cr1 (pX5_count 112 (sB S 9)) fun v9 => if v9 ≤ x3 then
      (some x2)
    else
      (cr1 (pX5_get 112 x3 (nI 4) (sB S 9)) fun v21 => if v21 = x1 then
        (vl (x2 + (nI 1)) fun v28 => vl (x3 + (nI 1)) fun v31 => ih4 x1 v28 v31)
      else
        (vl (x3 + (nI 1)) fun v31 => ih4 x1 x2 v31))
def pX4_howMany_l4  (S : mM) : Nat → Int32 → Int32 → Int32 → Option Int32
  | 0, _, _, _ => none
  | k + 1, x1, x2, x3 => pX4_howMany_lb4  (pX4_howMany_l4  S k) S x1 x2 x3
def pX4_howMany  (a1 : Int32) (S : mM) : Option Int32 :=
  pX4_howMany_l4 S fuel a1 (nI 0) (nI 0)

def pX4_hasTooLittle  (a1 : Int32) (S : mM) : Option Int32 :=
  cr1 (pX5_get 112 a1 (nI 3) (sB S 9)) fun v6 => cr1 (pX5_get 112 a1 (nI 1) (sB S 9)) fun v15 => if v15 ≤ v6 then
    (gd (isZ (nI 0)) (some (nI 0)))
  else
    (gd (isZ (nI 1)) (some (nI 1)))

def pX5_raise_b39 (n : Nat) (x3 : Int32) (x4 : Int32) (t0 : Int32) (S : mM) : Option mM :=
  if t0 = 0 then
      (some S)
    else
      (if x4 < 0 then
        (some S)
      else
        (if (nI n) ≤ x4 then
          (some S)
        else
          (ld S 1 n x4 fun v68 => st S 1 n x4 (v68 + x3) fun S71 => some S71)))
def pX5_raise_b38 (n : Nat) (x3 : Int32) (x4 : Int32) (S : mM) : Option mM :=
  pX5_raise_b39 n x3 x4 (nI 0) S
def pX5_raise (n : Nat) (a1 : Int32) (a2 : Int32) (a3 : Int32) (S : mM) : Option mM :=
  gf S 0 1 fun v2 => vl ((a1 * v2) + a2) fun v8 => if a1 < 0 then
    (pX5_raise_b38 n a3 v8 S)
  else
    (gf S 0 3 fun v16 => if v16 ≤ a1 then
      (pX5_raise_b38 n a3 v8 S)
    else
      (if a2 < 0 then
        (pX5_raise_b38 n a3 v8 S)
      else
        (gf S 0 1 fun v28 => if v28 ≤ a2 then
          (pX5_raise_b38 n a3 v8 S)
        else
          (pX5_raise_b39 n a3 v8 (nI 1) S))))

def pX4_fillUp_lb26  (ih26 : Int32 → Int32 → Int32 → mM → Option mM) (x1 : Int32) (x2 : Int32) (x3 : Int32) (S : mM) : Option mM :=
  cr1 (pX2_size 4 32 x1 (sB S 11)) fun v32 => if v32 ≤ x3 then
      (some S)
    else
      (cr1 (pX2_get 4 32 x1 x3 (sB S 11)) fun v44 => cr1 (pX5_get 112 v44 (nI 2) (sB S 9)) fun v56 => cr1 (pX5_get 112 v44 (nI 3) (sB S 9)) fun v66 => vl (v56 - v66) fun v70 => cr1 (pX5_get 8 x2 (nI 1) (sB S 5)) fun v80 => vl (if v80 < v70 then v80 else v70) fun v83 => cvs S 9 2 (pX5_raise 112 v44 (nI 3) v83 (sB S 9)) fun S97 => cvs S97 5 2 (pX5_raise 8 x2 (nI 1) (-v83) (sB S97 5)) fun S109 => gf S109 0 9 fun v114 => if v114 = 0 then
        (if v83 ≤ 0 then
          (pz S109 0 9 (nI 0) fun S130 => vl (x3 + (nI 1)) fun v133 => ih26 x1 x2 v133 S130)
        else
          (pz S109 0 9 (nI 1) fun S130 => vl (x3 + (nI 1)) fun v133 => ih26 x1 x2 v133 S130))
      else
        (pz S109 0 9 (nI 1) fun S130 => vl (x3 + (nI 1)) fun v133 => ih26 x1 x2 v133 S130))
def pX4_fillUp_l26  : Nat → Int32 → Int32 → Int32 → mM → Option mM
  | 0, _, _, _, _ => none
  | k + 1, x1, x2, x3, S => pX4_fillUp_lb26  (pX4_fillUp_l26  k) x1 x2 x3 S
def pX4_fillUp  (a1 : Int32) (S : mM) : Option mM :=
  cr1 (pX5_get 16 a1 (nI 0) (sB S 7)) fun v10 => cr1 (pX5_rowAt 8 v10 (sB S 5)) fun v13 => if v13 = (-9) then
    (some S)
  else
    (pX4_fillUp_l26 fuel a1 v13 (nI 0) S)

def pX4_goOn_lb23  (ih23 : Int32 → Int32 → Int32 → mM → Option mM) (x1 : Int32) (x2 : Int32) (x3 : Int32) (S : mM) : Option mM :=
  cr1 (pX2_size 4 32 x1 (sB S 11)) fun v29 => if v29 ≤ x3 then
      (if x2 = 0 then
        (some S)
      else
        (cvs S 11 3 (pX2_emptyLine 4 32 x1 (sB S 11)) fun S112 => some S112))
    else
      (cr1 (pX2_get 4 32 x1 x3 (sB S 11)) fun v41 => cr1 (pX5_get 112 v41 (nI 1) (sB S 9)) fun v53 => cvs S 9 2 (pX5_raise 112 v41 (nI 3) (-v53) (sB S 9)) fun S68 => cvs S68 9 2 (pX5_raise 112 v41 (nI 6) v53 (sB S68 9)) fun S81 => if x2 = 0 then
        (vl (x3 + (nI 1)) fun v97 => ih23 x1 x2 v97 S81)
      else
        (cr1 (pX4_moveTo v41 (nI 2) (-9) S81) fun S94 => vl (x3 + (nI 1)) fun v97 => ih23 x1 x2 v97 S94))
def pX4_goOn_l23  : Nat → Int32 → Int32 → Int32 → mM → Option mM
  | 0, _, _, _, _ => none
  | k + 1, x1, x2, x3, S => pX4_goOn_lb23  (pX4_goOn_l23  k) x1 x2 x3 S
def pX4_goOn  (a1 : Int32) (S : mM) : Option mM :=
  pz S 0 9 (nI 1) fun S2 => cvs S2 7 2 (pX5_raise 16 a1 (nI 0) (nI 1) (sB S2 7)) fun S12 => cr1 (pX4_isAtEnd a1 S12) fun v17 => pX4_goOn_l23 fuel a1 v17 (nI 0) S12

def pX4_noteLeft  (a1 : Int32) (a2 : Int32) (a3 : Int32) (S : mM) : Option mM :=
  pz S 0 9 (nI 1) fun S2 => gf S2 0 10 fun v7 => if a1 = v7 then
    (gf S2 0 11 fun v14 => if v14 = (-9) then
      (pf S2 0 11 (((nI 100) * a2) + a3) fun S29 => some S29)
    else
      (some S2))
  else
    (some S2)

def pX4_leaveStragglers_lb62  (ih62 : Int32 → Int32 → Int32 → Int32 → Int32 → Int32 → mM → Option mM) (x1 : Int32) (x2 : Int32) (x3 : Int32) (x4 : Int32) (x5 : Int32) (x6 : Int32) (S : mM) : Option mM :=
  if x4 ≤ x6 then
      (some S)
    else
      (if x3 ≤ 0 then
        (some S)
      else
        (cr1 (pX2_get 4 32 x1 x5 (sB S 11)) fun v80 => cr1 (pX4_hasTooLittle v80 S) fun v88 => if v88 = 0 then
          (vl (x5 + (nI 1)) fun v136 => vl (x6 + (nI 1)) fun v139 => ih62 x1 x2 x3 x4 v136 v139 S)
        else
          (cvs S 11 3 (pX2_remove 4 32 x1 x5 (sB S 11)) fun S101 => cvs S101 14 3 (pX2_join 6 36 x2 v80 (sB S101 14)) fun S111 => cr1 (pX4_moveTo v80 (nI 1) x2 S111) fun S119 => cr1 (pX4_noteLeft x1 x2 v80 S119) fun S127 => vl (x3 + (-1)) fun v130 => vl (x6 + (nI 1)) fun v139 => ih62 x1 x2 v130 x4 x5 v139 S127)))
def pX4_leaveStragglers_l62  : Nat → Int32 → Int32 → Int32 → Int32 → Int32 → Int32 → mM → Option mM
  | 0, _, _, _, _, _, _, _ => none
  | k + 1, x1, x2, x3, x4, x5, x6, S => pX4_leaveStragglers_lb62  (pX4_leaveStragglers_l62  k) x1 x2 x3 x4 x5 x6 S
def pX4_leaveStragglers_b45  (x1 : Int32) (x2 : Int32) (t0 : Int32) (S : mM) : Option mM :=
  cr1 (pX2_size 4 32 x1 (sB S 11)) fun v51 => pX4_leaveStragglers_l62 fuel x1 x2 t0 v51 (nI 0) (nI 0) S
def pX4_leaveStragglers  (a1 : Int32) (S : mM) : Option mM :=
  cr1 (pX5_get 16 a1 (nI 0) (sB S 7)) fun v10 => cr1 (pX5_rowAt 12 v10 (sB S 3)) fun v13 => if v13 = (-9) then
    (pX4_leaveStragglers_b45  a1 v13 (nI 0) S)
  else
    (cr1 (pX5_get 12 v13 (nI 1) (sB S 3)) fun v33 => cr1 (pX2_size 6 36 v13 (sB S 14)) fun v41 => pX4_leaveStragglers_b45  a1 v13 (v33 - v41) S)

def pX4_comesAhead  (a1 : Int32) (a2 : Int32) (S : mM) : Option Int32 :=
  cr1 (pX5_get 112 a1 (nI 0) (sB S 9)) fun v6 => cr1 (pX5_get 112 a2 (nI 0) (sB S 9)) fun v16 => if v6 < v16 then
    (gd (isZ (nI 1)) (some (nI 1)))
  else
    (if v6 = v16 then
      (if a2 ≤ a1 then
        (gd (isZ (nI 0)) (some (nI 0)))
      else
        (gd (isZ (nI 1)) (some (nI 1))))
    else
      (gd (isZ (nI 0)) (some (nI 0))))

def pX4_putInOrder_b80  (ih2 : Int32 → Int32 → mM → Option mM) (x1 : Int32) (x2 : Int32) (x3 : Int32) (x4 : Int32) (S : mM) : Option mM :=
  cvs S 11 3 (pX2_put 4 32 x1 x4 x3 (sB S 11)) fun S88 => vl (x2 + (nI 1)) fun v91 => ih2 x1 v91 S88
def pX4_putInOrder_lb27  (ih2 : Int32 → Int32 → mM → Option mM) (ih27 : Int32 → Int32 → Int32 → Int32 → mM → Option mM) (x1 : Int32) (x2 : Int32) (x3 : Int32) (x4 : Int32) (S : mM) : Option mM :=
  if x4 ≤ 0 then
      (pX4_putInOrder_b80 ih2 x1 x2 x3 x4 S)
    else
      (cr1 (pX2_get 4 32 x1 (x4 - (nI 1)) (sB S 11)) fun v43 => cr1 (pX4_comesAhead x3 v43 S) fun v46 => if v46 = 0 then
        (pX4_putInOrder_b80 ih2 x1 x2 x3 x4 S)
      else
        (cr1 (pX2_get 4 32 x1 (x4 - (nI 1)) (sB S 11)) fun v68 => cvs S 11 3 (pX2_put 4 32 x1 x4 v68 (sB S 11)) fun S71 => vl (x4 + (-1)) fun v74 => ih27 x1 x2 x3 v74 S71))
def pX4_putInOrder_l27  (ih2 : Int32 → Int32 → mM → Option mM) : Nat → Int32 → Int32 → Int32 → Int32 → mM → Option mM
  | 0, _, _, _, _, _ => none
  | k + 1, x1, x2, x3, x4, S => pX4_putInOrder_lb27 ih2 (pX4_putInOrder_l27 ih2 k) x1 x2 x3 x4 S
def pX4_putInOrder_lb2  (ih2 : Int32 → Int32 → mM → Option mM) (x1 : Int32) (x2 : Int32) (S : mM) : Option mM :=
  cr1 (pX2_size 4 32 x1 (sB S 11)) fun v8 => if v8 ≤ x2 then
      (some S)
    else
      (cr1 (pX2_get 4 32 x1 x2 (sB S 11)) fun v20 => pX4_putInOrder_l27 ih2 fuel x1 x2 v20 x2 S)
def pX4_putInOrder_l2  : Nat → Int32 → Int32 → mM → Option mM
  | 0, _, _, _ => none
  | k + 1, x1, x2, S => pX4_putInOrder_lb2  (pX4_putInOrder_l2  k) x1 x2 S
def pX4_putInOrder  (a1 : Int32) (S : mM) : Option mM :=
  pX4_putInOrder_l2 fuel a1 (nI 1) S

def pX4_giveFuel  (a1 : Int32) (a2 : Int32) (S : mM) : Option mM :=
  cr1 (pX5_get 112 a2 (nI 2) (sB S 9)) fun v6 => cr1 (pX5_get 112 a2 (nI 3) (sB S 9)) fun v15 => vl (v6 - v15) fun v19 => cr1 (pX5_get 112 a1 (nI 3) (sB S 9)) fun v26 => vl (if (nI 10) < (v26 / (nI 2)) then (nI 10) else (v26 / (nI 2))) fun v33 => vl (if v19 < v33 then v19 else v33) fun v41 => cvs S 9 2 (pX5_raise 112 a1 (nI 3) (-v41) (sB S 9)) fun S55 => cvs S55 9 2 (pX5_raise 112 a2 (nI 3) v41 (sB S55 9)) fun S66 => some S66

def pX4_richest_lb12  (ih12 : Int32 → Int32 → Int32 → Option Int32) (S : mM) (x1 : Int32) (x2 : Int32) (x3 : Int32) : Option Int32 :=
  cr1 (pX2_size 4 32 x1 (sB S 11)) fun v18 => if v18 ≤ x3 then
      (some x2)
    else
      (cr1 (pX2_get 4 32 x1 x3 (sB S 11)) fun v30 => cr1 (pX5_get 112 v30 (nI 3) (sB S 9)) fun v42 => cr1 (pX5_get 112 x2 (nI 3) (sB S 9)) fun v51 => if v42 ≤ v51 then
        (vl (x3 + (nI 1)) fun v60 => ih12 x1 x2 v60)
      else
        (vl (x3 + (nI 1)) fun v60 => ih12 x1 v30 v60))
def pX4_richest_l12  (S : mM) : Nat → Int32 → Int32 → Int32 → Option Int32
  | 0, _, _, _ => none
  | k + 1, x1, x2, x3 => pX4_richest_lb12  (pX4_richest_l12  S k) S x1 x2 x3
def pX4_richest  (a1 : Int32) (S : mM) : Option Int32 :=
  cr1 (pX2_get 4 32 a1 (nI 0) (sB S 11)) fun v6 => pX4_richest_l12 S fuel a1 v6 (nI 1)

def pX4_rescues_b102  (ih42 : Int32 → Int32 → Int32 → Int32 → Int32 → Int32 → mM → Option (Int32 × mM)) (x1 : Int32) (x2 : Int32) (x3 : Int32) (x4 : Int32) (x6 : Int32) (x7 : Int32) (t0 : Int32) (S : mM) : Option (Int32 × mM) :=
  if t0 = 0 then
      (vl (x6 + (nI 1)) fun v136 => ih42 x1 x2 x3 x4 t0 v136 S)
    else
      (cvs S 14 3 (pX2_remove 6 36 x2 (nI 0) (sB S 14)) fun S115 => cvs S115 11 3 (pX2_join 4 32 x1 x7 (sB S115 11)) fun S125 => cr1 (pX4_moveTo x7 (nI 0) x1 S125) fun S133 => vl (x6 + (nI 1)) fun v136 => ih42 x1 x2 x3 x4 t0 v136 S133)
def pX4_rescues_b142  (x1 : Int32) (x4 : Int32) (S : mM) : Option (Int32 × mM) :=
  cr1 (pX2_size 4 32 x1 (sB S 11)) fun v147 => if v147 ≤ x4 then
      (gd (isZ (nI 0)) (some ((nI 0), S)))
    else
      (gd (isZ (nI 1)) (some ((nI 1), S)))
def pX4_rescues_lb42  (ih42 : Int32 → Int32 → Int32 → Int32 → Int32 → Int32 → mM → Option (Int32 × mM)) (x1 : Int32) (x2 : Int32) (x3 : Int32) (x4 : Int32) (x5 : Int32) (x6 : Int32) (S : mM) : Option (Int32 × mM) :=
  if x3 ≤ x6 then
      (pX4_rescues_b142  x1 x4 S)
    else
      (if x5 = 0 then
        (pX4_rescues_b142  x1 x4 S)
      else
        (cr1 (pX2_size 4 32 x1 (sB S 11)) fun v58 => if (nI 8) ≤ v58 then
          (pX4_rescues_b142  x1 x4 S)
        else
          (cr1 (pX2_get 6 36 x2 (nI 0) (sB S 14)) fun v72 => cr1 (pX4_richest x1 S) fun v80 => cr1 (pX4_giveFuel v80 v72 S) fun S85 => cr1 (pX4_hasTooLittle v72 S85) fun v91 => if v91 = 0 then
            (pX4_rescues_b102 ih42 x1 x2 x3 x4 x6 v72 (nI 1) S85)
          else
            (pX4_rescues_b102 ih42 x1 x2 x3 x4 x6 v72 (nI 0) S85))))
def pX4_rescues_l42  : Nat → Int32 → Int32 → Int32 → Int32 → Int32 → Int32 → mM → Option (Int32 × mM)
  | 0, _, _, _, _, _, _, _ => none
  | k + 1, x1, x2, x3, x4, x5, x6, S => pX4_rescues_lb42  (pX4_rescues_l42  k) x1 x2 x3 x4 x5 x6 S
def pX4_rescues  (a1 : Int32) (S : mM) : Option (Int32 × mM) :=
  cr1 (pX5_get 16 a1 (nI 0) (sB S 7)) fun v10 => cr1 (pX5_rowAt 12 v10 (sB S 3)) fun v13 => cr1 (pX2_size 6 36 v13 (sB S 14)) fun v22 => cr1 (pX2_size 4 32 a1 (sB S 11)) fun v31 => pX4_rescues_l42 fuel a1 v13 v22 v31 (nI 1) (nI 0) S

def pX4_stands_lb19  (ih19 : Int32 → Int32 → Int32 → mM → Option (Int32 × mM)) (x1 : Int32) (x2 : Int32) (x3 : Int32) (S : mM) : Option (Int32 × mM) :=
  cr1 (pX2_size 4 32 x1 (sB S 11)) fun v25 => if v25 ≤ x3 then
      (if x2 = 0 then
        (gd (isZ x2) (some (x2, S)))
      else
        (cvs S 7 2 (pX5_raise 16 x1 (nI 3) (nI 1) (sB S 7)) fun S74 => gd (isZ x2) (some (x2, S74))))
    else
      (if x2 = 0 then
        (cr1 (pX2_get 4 32 x1 x3 (sB S 11)) fun v42 => cr1 (pX4_hasTooLittle v42 S) fun v45 => if v45 = 0 then
          (vl (x3 + (nI 1)) fun v57 => ih19 x1 (nI 0) v57 S)
        else
          (vl (x3 + (nI 1)) fun v57 => ih19 x1 (nI 1) v57 S))
      else
        (vl (x3 + (nI 1)) fun v57 => ih19 x1 (nI 1) v57 S))
def pX4_stands_l19  : Nat → Int32 → Int32 → Int32 → mM → Option (Int32 × mM)
  | 0, _, _, _, _ => none
  | k + 1, x1, x2, x3, S => pX4_stands_lb19  (pX4_stands_l19  k) x1 x2 x3 S
def pX4_stands  (a1 : Int32) (S : mM) : Option (Int32 × mM) :=
  cr1 (pX2_size 4 32 a1 (sB S 11)) fun v5 => if v5 = 0 then
    (pX4_stands_l19 fuel a1 (nI 1) (nI 0) S)
  else
    (pX4_stands_l19 fuel a1 (nI 0) (nI 0) S)

def pX4_waitsAtGate  (a1 : Int32) (S : mM) : Option (Int32 × mM) :=
  cr1 (pX5_get 16 a1 (nI 0) (sB S 7)) fun v10 => cr1 (pX5_rowAt 16 (v10 + (nI 1)) (sB S 1)) fun v15 => cr1 (pX4_closedFor v15 S) fun v21 => if v21 = 0 then
    (gd (isZ (nI 0)) (some ((nI 0), S)))
  else
    (cvs S 7 2 (pX5_raise 16 a1 (nI 2) (nI 1) (sB S 7)) fun S36 => pz S36 0 9 (nI 1) fun S41 => gd (isZ (nI 1)) (some ((nI 1), S41)))

def pX4_drive_lb41  (ih41 : Int32 → Int32 → Int32 → mM → Option mM) (x1 : Int32) (x2 : Int32) (x3 : Int32) (S : mM) : Option mM :=
  if x2 ≤ x3 then
      (some S)
    else
      (cr1 (pX4_isAtEnd x1 S) fun v48 => if v48 = 0 then
        (cw2 (pX4_waitsAtGate x1 S) fun v56 S56 => if v56 = 0 then
          (cr1 (pX4_leaveStragglers x1 S56) fun S64 => cw2 (pX4_stands x1 S64) fun v69 S69 => if v69 = 0 then
            (cr1 (pX4_goOn x1 S69) fun S78 => cw2 (pX4_rescues x1 S78) fun v83 S83 => if v83 = 0 then
              (vl (x3 + (nI 1)) fun v94 => ih41 x1 x2 v94 S83)
            else
              (cr1 (pX4_putInOrder x1 S83) fun S91 => vl (x3 + (nI 1)) fun v94 => ih41 x1 x2 v94 S91))
          else
            (some S69))
        else
          (some S56))
      else
        (some S))
def pX4_drive_l41  : Nat → Int32 → Int32 → Int32 → mM → Option mM
  | 0, _, _, _, _ => none
  | k + 1, x1, x2, x3, S => pX4_drive_lb41  (pX4_drive_l41  k) x1 x2 x3 S
def pX4_drive  (a1 : Int32) (S : mM) : Option mM :=
  cr1 (pX5_get 16 a1 (nI 1) (sB S 7)) fun v6 => if v6 ≤ 0 then
    (cr1 (pX4_fillUp a1 S) fun S30 => cr1 (pX4_slowestSpeed a1 S30) fun v35 => pX4_drive_l41 fuel a1 v35 (nI 0) S30)
  else
    (cvs S 7 2 (pX5_raise 16 a1 (nI 1) (-1) (sB S 7)) fun S19 => pz S19 0 9 (nI 1) fun S24 => some S24)

def pX4_letHourGoBy_lb7  (ih7 : Int32 → mM → Option mM) (x1 : Int32) (S : mM) : Option mM :=
  cr1 (pX5_count 16 (sB S 7)) fun v12 => if v12 ≤ x1 then
      (gf S 0 8 fun v50 => pf S 0 8 (v50 + (nI 1)) fun S55 => some S55)
    else
      (cr1 (pX2_size 4 32 x1 (sB S 11)) fun v23 => if v23 ≤ 0 then
        (vl (x1 + (nI 1)) fun v42 => ih7 v42 S)
      else
        (cr1 (pX4_isAtEnd x1 S) fun v31 => if v31 = 0 then
          (cr1 (pX4_drive x1 S) fun S39 => vl (x1 + (nI 1)) fun v42 => ih7 v42 S39)
        else
          (vl (x1 + (nI 1)) fun v42 => ih7 v42 S)))
def pX4_letHourGoBy_l7  : Nat → Int32 → mM → Option mM
  | 0, _, _ => none
  | k + 1, x1, S => pX4_letHourGoBy_lb7  (pX4_letHourGoBy_l7  k) x1 S
def pX4_letHourGoBy   (S : mM) : Option mM :=
  pz S 0 9 (nI 0) fun S2 => pX4_letHourGoBy_l7 fuel (nI 0) S2

def pX4_letGoBy_lb14  (ih14 : Int32 → Int32 → mM → Option (Int32 × mM)) (x1 : Int32) (x2 : Int32) (S : mM) : Option (Int32 × mM) :=
  if x1 ≤ x2 then
      (gd (isZ (nI 1)) (some ((nI 1), S)))
    else
      (cr1 (pX4_letHourGoBy S) fun S20 => vl (x2 + (nI 1)) fun v23 => ih14 x1 v23 S20)
def pX4_letGoBy_l14  : Nat → Int32 → Int32 → mM → Option (Int32 × mM)
  | 0, _, _, _ => none
  | k + 1, x1, x2, S => pX4_letGoBy_lb14  (pX4_letGoBy_l14  k) x1 x2 S
def pX4_letGoBy  (a1 : Int32) (S : mM) : Option (Int32 × mM) :=
  cr1 (pX6_isWithin a1 (nI 1) (nI 99)) fun v4 => if v4 = 0 then
    (gd (isZ (nI 0)) (some ((nI 0), S)))
  else
    (pX4_letGoBy_l14 fuel a1 (nI 0) S)

def pX4_hoursToEnd_lb2  (ih2 : Int32 → Int32 → mM → Option (Int32 × mM)) (x1 : Int32) (x2 : Int32) (S : mM) : Option (Int32 × mM) :=
  if (nI 300) < x2 then
      (some ((-9), S))
    else
      (gf S 0 9 fun v10 => if v10 = 0 then
        (some ((-9), S))
      else
        (cr1 (pX4_isAtEnd x1 S) fun v18 => if v18 = 0 then
          (cr1 (pX4_letHourGoBy S) fun S27 => vl (x2 + (nI 1)) fun v30 => ih2 x1 v30 S27)
        else
          (some (x2, S))))
def pX4_hoursToEnd_l2  : Nat → Int32 → Int32 → mM → Option (Int32 × mM)
  | 0, _, _, _ => none
  | k + 1, x1, x2, S => pX4_hoursToEnd_lb2  (pX4_hoursToEnd_l2  k) x1 x2 S
def pX4_hoursToEnd  (a1 : Int32) (S : mM) : Option (Int32 × mM) :=
  pX4_hoursToEnd_l2 fuel a1 (nI 0) S

def pX4_firstLeftBy_lb7  (ih7 : Int32 → mM → Option (Int32 × mM)) (x2 : Int32) (S : mM) : Option (Int32 × mM) :=
  if (nI 300) ≤ x2 then
      (gf S 0 11 fun v41 => some (v41, S))
    else
      (gf S 0 9 fun v15 => if v15 = 0 then
        (gf S 0 11 fun v41 => some (v41, S))
      else
        (gf S 0 11 fun v22 => if v22 = (-9) then
          (cr1 (pX4_letHourGoBy S) fun S31 => vl (x2 + (nI 1)) fun v34 => ih7 v34 S31)
        else
          (gf S 0 11 fun v41 => some (v41, S))))
def pX4_firstLeftBy_l7  : Nat → Int32 → mM → Option (Int32 × mM)
  | 0, _, _ => none
  | k + 1, x2, S => pX4_firstLeftBy_lb7  (pX4_firstLeftBy_l7  k) x2 S
def pX4_firstLeftBy  (a1 : Int32) (S : mM) : Option (Int32 × mM) :=
  pf S 0 10 a1 fun S2 => pX4_firstLeftBy_l7 fuel (nI 0) S2

def pX4_allArrive_b26  (S : mM) : Option (Int32 × mM) :=
  cr1 (pX4_howMany (nI 2) S) fun v28 => cr1 (pX5_count 112 (sB S 9)) fun v35 => if v28 = v35 then
      (gd (isZ (nI 1)) (some ((nI 1), S)))
    else
      (gd (isZ (nI 0)) (some ((nI 0), S)))
def pX4_allArrive_lb2  (ih2 : Int32 → mM → Option (Int32 × mM)) (x1 : Int32) (S : mM) : Option (Int32 × mM) :=
  if (nI 300) ≤ x1 then
      (pX4_allArrive_b26  S)
    else
      (gf S 0 9 fun v10 => if v10 = 0 then
        (pX4_allArrive_b26  S)
      else
        (cr1 (pX4_letHourGoBy S) fun S17 => vl (x1 + (nI 1)) fun v20 => ih2 v20 S17))
def pX4_allArrive_l2  : Nat → Int32 → mM → Option (Int32 × mM)
  | 0, _, _ => none
  | k + 1, x1, S => pX4_allArrive_lb2  (pX4_allArrive_l2  k) x1 S
def pX4_allArrive   (S : mM) : Option (Int32 × mM) :=
  pX4_allArrive_l2 fuel (nI 0) S

def pX4_obeysHold  (a1 : Int32) (a2 : Int32) (S : mM) : Option (Int32 × mM) :=
  cr1 (pX5_has 16 a1 (sB S 7)) fun v5 => if v5 = 0 then
    (gd (isZ (nI 0)) (some ((nI 0), S)))
  else
    (cr1 (pX6_isWithin a2 (nI 0) (nI 23)) fun v15 => if v15 = 0 then
      (gd (isZ (nI 0)) (some ((nI 0), S)))
    else
      (cvs S 7 2 (pX5_put 16 a1 (nI 1) a2 (sB S 7)) fun S30 => gd (isZ (nI 1)) (some ((nI 1), S30))))

def pX4_obeysSupply  (a1 : Int32) (a2 : Int32) (S : mM) : Option (Int32 × mM) :=
  cr1 (pX5_has 8 a1 (sB S 5)) fun v5 => if v5 = 0 then
    (gd (isZ (nI 0)) (some ((nI 0), S)))
  else
    (cr1 (pX6_isWithin a2 (nI 1) (nI 500)) fun v16 => if v16 = 0 then
      (gd (isZ (nI 0)) (some ((nI 0), S)))
    else
      (cr1 (pX5_get 8 a1 (nI 1) (sB S 5)) fun v28 => if (v28 + a2) ≤ (nI 999) then
        (cvs S 5 2 (pX5_raise 8 a1 (nI 1) a2 (sB S 5)) fun S48 => gd (isZ (nI 1)) (some ((nI 1), S48)))
      else
        (gd (isZ (nI 0)) (some ((nI 0), S)))))

def pX4_obeys_b310  (t0 : Int32) (t1 : Int32) (S : mM) : Option (Int32 × mM) :=
  if t0 = t1 then
      (gd (isZ (nI 1)) (some ((nI 1), S)))
    else
      (gd (isZ (nI 0)) (some ((nI 0), S)))
def pX4_obeys_b299  (x5 : Int32) (t0 : Int32) (S : mM) : Option (Int32 × mM) :=
  if x5 = (nI 1) then
      (pX4_obeys_b310  t0 (nI 1) S)
    else
      (pX4_obeys_b310  t0 (nI 0) S)
def pX4_obeys  (a1 : Int32) (S : mM) : Option (Int32 × mM) :=
  vl ((a1 / (nI 1000)) - (a1 / (nI 1000)) / (nI 10) * (nI 10)) fun v8 => vl ((a1 / (nI 100)) - (a1 / (nI 100)) / (nI 10) * (nI 10)) fun v16 => vl ((a1 / (nI 10)) - (a1 / (nI 10)) / (nI 10) * (nI 10)) fun v24 => vl (a1 - a1 / (nI 10) * (nI 10)) fun v30 => vl (a1 - a1 / (nI 100) * (nI 100)) fun v36 => vl (a1 - a1 / (nI 1000) * (nI 1000)) fun v43 => vl ((a1 / (nI 100)) - (a1 / (nI 100)) / (nI 100) * (nI 100)) fun v52 => vl (a1 / (nI 10000)) fun v59 => if v59 = (nI 1) then
    (if v8 = 0 then
      (if v16 = 0 then
        (cw2 (pX4_letGoBy v36 S) fun v119 S119 => if v119 = 0 then
          (gd (isZ (nI 0)) (some ((nI 0), S119)))
        else
          (gd (isZ (nI 1)) (some ((nI 1), S119))))
      else
        (gd (isZ (nI 0)) (some ((nI 0), S))))
    else
      (gd (isZ (nI 0)) (some ((nI 0), S))))
  else if v59 = (nI 2) then
    (if v16 = 0 then
      (cw2 (pX4_obeysHold v8 v36 S) fun v139 S139 => if v139 = 0 then
        (gd (isZ (nI 0)) (some ((nI 0), S139)))
      else
        (gd (isZ (nI 1)) (some ((nI 1), S139))))
    else
      (gd (isZ (nI 0)) (some ((nI 0), S))))
  else if v59 = (nI 3) then
    (cw2 (pX4_obeysSupply v8 v43 S) fun v155 S155 => gd (isZ v155) (some (v155, S155)))
  else if v59 = (nI 4) then
    (if v16 = 0 then
      (cr1 (pX5_has 16 v8 (sB S 7)) fun v168 => if v168 = 0 then
        (gd (isZ (nI 0)) (some ((nI 0), S)))
      else
        (cr1 (pX5_get 16 v8 (nI 0) (sB S 7)) fun v180 => if v180 < v36 then
          (gd (isZ (nI 0)) (some ((nI 0), S)))
        else
          (gd (isZ (nI 1)) (some ((nI 1), S)))))
    else
      (gd (isZ (nI 0)) (some ((nI 0), S))))
  else if v59 = (nI 5) then
    (cr1 (pX5_has 112 v52 (sB S 9)) fun v200 => if v200 = 0 then
      (gd (isZ (nI 0)) (some ((nI 0), S)))
    else
      (cr1 (pX5_get 112 v52 (nI 3) (sB S 9)) fun v213 => if v213 < v36 then
        (gd (isZ (nI 0)) (some ((nI 0), S)))
      else
        (gd (isZ (nI 1)) (some ((nI 1), S)))))
  else if v59 = (nI 6) then
    (if v24 = 0 then
      (cr1 (pX5_has 112 v52 (sB S 9)) fun v238 => if v238 = 0 then
        (gd (isZ (nI 0)) (some ((nI 0), S)))
      else
        (cr1 (pX5_get 112 v52 (nI 4) (sB S 9)) fun v251 => if v251 = v30 then
          (gd (isZ (nI 1)) (some ((nI 1), S)))
        else
          (gd (isZ (nI 0)) (some ((nI 0), S)))))
    else
      (gd (isZ (nI 0)) (some ((nI 0), S))))
  else if v59 = (nI 7) then
    (if (nI 1) < v36 then
      (gd (isZ (nI 0)) (some ((nI 0), S)))
    else
      (if v16 = 0 then
        (cr1 (pX5_has 16 v8 (sB S 1)) fun v280 => if v280 = 0 then
          (gd (isZ (nI 0)) (some ((nI 0), S)))
        else
          (cr1 (pX4_closedFor v8 S) fun v288 => if v288 ≤ 0 then
            (pX4_obeys_b299  v30 (nI 0) S)
          else
            (pX4_obeys_b299  v30 (nI 1) S)))
      else
        (gd (isZ (nI 0)) (some ((nI 0), S)))))
  else if v59 = (nI 8) then
    (if v16 = 0 then
      (if v24 = 0 then
        (cr1 (pX5_has 12 v8 (sB S 3)) fun v333 => if v333 = 0 then
          (gd (isZ (nI 0)) (some ((nI 0), S)))
        else
          (cr1 (pX2_size 6 36 v8 (sB S 14)) fun v344 => if v344 < v30 then
            (gd (isZ (nI 0)) (some ((nI 0), S)))
          else
            (gd (isZ (nI 1)) (some ((nI 1), S)))))
      else
        (gd (isZ (nI 0)) (some ((nI 0), S))))
    else
      (gd (isZ (nI 0)) (some ((nI 0), S))))
  else if v59 = (nI 9) then
    (if v8 = 0 then
      (if v16 = 0 then
        (cr1 (pX4_howMany (nI 2) S) fun v368 => if v368 < v36 then
          (gd (isZ (nI 0)) (some ((nI 0), S)))
        else
          (gd (isZ (nI 1)) (some ((nI 1), S))))
      else
        (gd (isZ (nI 0)) (some ((nI 0), S))))
    else
      (gd (isZ (nI 0)) (some ((nI 0), S))))
  else (gd (isZ (nI 0)) (some ((nI 0), S)))

def pX4_meetChance_b47  (x1 : Int32) (x3 : Int32) (S : mM) : Option mM :=
  if (x1 - x1 / (nI 5) * (nI 5)) = (nI 1) then
      (if x3 ≤ 0 then
        (some S)
      else
        (nz x3 <| vl ((x1 / (nI 8)) - (x1 / (nI 8)) / x3 * x3) fun v64 => cr1 (pX5_get 8 v64 (nI 1) (sB S 5)) fun v83 => vl (if (v83 + ((x1 / (nI 64)) - (x1 / (nI 64)) / (nI 30) * (nI 30))) < (nI 999) then (v83 + ((x1 / (nI 64)) - (x1 / (nI 64)) / (nI 30) * (nI 30))) else (nI 999)) fun v94 => cvs S 5 2 (pX5_put 8 v64 (nI 1) v94 (sB S 5)) fun S97 => some S97))
    else
      (some S)
def pX4_meetChance  (a1 : Int32) (S : mM) : Option mM :=
  cr1 (pX5_count 16 (sB S 7)) fun v4 => cr1 (pX5_count 8 (sB S 5)) fun v12 => if (a1 - a1 / (nI 5) * (nI 5)) = 0 then
    (if v4 ≤ 0 then
      (pX4_meetChance_b47  a1 v12 S)
    else
      (nz v4 <| cvs S 7 2 (pX5_put 16 ((a1 / (nI 8)) - (a1 / (nI 8)) / v4 * v4) (nI 1) ((a1 / (nI 64)) - (a1 / (nI 64)) / (nI 6) * (nI 6)) (sB S 7)) fun S44 => pX4_meetChance_b47  a1 v12 S44))
  else
    (pX4_meetChance_b47  a1 v12 S)

def pX5_sum_lb4 (n : Nat) (ih4 : Int32 → Int32 → Int32 → Option Int32) (S : mM) (x1 : Int32) (x2 : Int32) (x3 : Int32) : Option Int32 :=
  gf S 0 3 fun v6 => if v6 ≤ x3 then
      (some x2)
    else
      (cr1 (pX5_get n x3 x1 S) fun v16 => vl (x2 + v16) fun v20 => vl (x3 + (nI 1)) fun v21 => ih4 x1 v20 v21)
def pX5_sum_l4 (n : Nat) (S : mM) : Nat → Int32 → Int32 → Int32 → Option Int32
  | 0, _, _, _ => none
  | k + 1, x1, x2, x3 => pX5_sum_lb4 n (pX5_sum_l4 n S k) S x1 x2 x3
def pX5_sum (n : Nat) (a1 : Int32) (S : mM) : Option Int32 :=
  pX5_sum_l4 n S fuel a1 (nI 0) (nI 0)

def pX6_groupOf_lb5  (ih5 : Int32 → Int64 → Int32 → Option Int32) (x2 : Int32) (x3 : Int64) (x5 : Int32) : Option Int32 :=
  if x2 ≤ x5 then
      (some ((x3 - x3 / (lN 100000) * (lN 100000)).toInt32))
    else
      (vl (x3 / (lN 100000)) fun v16 => vl (x5 + (nI 1)) fun v17 => ih5 x2 v16 v17)
def pX6_groupOf_l5  : Nat → Int32 → Int64 → Int32 → Option Int32
  | 0, _, _, _ => none
  | k + 1, x2, x3, x5 => pX6_groupOf_lb5  (pX6_groupOf_l5  k) x2 x3 x5
def pX6_groupOf  (a1 : Int64) (a2 : Int32) : Option Int32 :=
  pX6_groupOf_l5 fuel a2 a1 (nI 0)

def pX6_refuseArgumentIf  (a1 : Int32) : Option (Option String) :=
  if a1 = 0 then
    (some none)
  else
    (some (some "java/lang/IllegalArgumentException"))

def pX6_checkRange_b14  (t0 : Int32) : Option (Option String) :=
  bx (pX6_refuseArgumentIf t0) (fun E => some (some E)) <| some none
def pX6_checkRange  (a1 : Int32) (a2 : Int32) (a3 : Int32) : Option (Option String) :=
  cr1 (pX6_isWithin a1 a2 a3) fun v3 => if v3 = 0 then
    (pX6_checkRange_b14  (nI 1))
  else
    (pX6_checkRange_b14  (nI 0))

def pX6_refuseIf  (a1 : Int32) : Option (Option String) :=
  if a1 = 0 then
    (some none)
  else
    (some (some "java/lang/IllegalStateException"))

def pX6_append  (a1 : Int32) (S : mM) : Option ((Int32 ⊕ String) × mM) :=
  bx (pX6_checkRange a1 (nI 0) (nI 255)) (fun E => some (.inr E, S)) <| cr1 (pX1_isFull S) fun v12 => bx (pX6_refuseIf v12) (fun E => some (.inr E, S)) <| cw2 (pX1_addSign ((a1.toUInt32 % 65536).toInt32) S) fun v24 S24 => some (.inl v24, S24)

def pX6_clearText   (S : mM) : Option (Int32 × mM) :=
  cw2 (pX1_emptyOut S) fun v4 S4 => some (v4, S4)

def pX6_errorPosition   (S : mM) : Option (Int32 × mM) :=
  cw2 (pX1_readInto S) fun v8 S8 => some (v8, S8)

def pX6_load_b21  (t0 : Int32) (S : mM) : Option ((Int32 ⊕ String) × mM) :=
  bx (pX6_refuseIf t0) (fun E => some (.inr E, S)) <| cr1 (pX4_copyFrom 3 20 S) fun S32 => cr1 (pX0_forget S32) fun S39 => cr1 (pX3_emptyOut 279 2 S39) fun S46 => cr1 (pX5_count 112 (sB S46 12)) fun v56 => some (.inl v56, S46)
def pX6_load   (S : mM) : Option ((Int32 ⊕ String) × mM) :=
  cw2 (pX1_readInto S) fun v8 S8 => if v8 = (-9) then
    (pX6_load_b21  (nI 0) S8)
  else
    (pX6_load_b21  (nI 1) S8)

def pX6_about  (a1 : Int32) (S : mM) : Option (Int32 ⊕ String) :=
  bx (pX6_checkRange a1 (nI 0) (nI 11)) (fun E => some (.inr E)) <| if a1 = (nI 0) then
      (cr1 (pX4_length (sB S 3)) fun v72 => some (.inl v72))
    else if a1 = (nI 1) then
      (cr1 (pX4_hours (sB S 3)) fun v80 => some (.inl v80))
    else if a1 = (nI 2) then
      (cr1 (pX5_count 16 (sB S 4)) fun v91 => some (.inl v91))
    else if a1 = (nI 3) then
      (cr1 (pX5_count 12 (sB S 6)) fun v102 => some (.inl v102))
    else if a1 = (nI 4) then
      (cr1 (pX5_count 8 (sB S 8)) fun v113 => some (.inl v113))
    else if a1 = (nI 5) then
      (cr1 (pX5_count 16 (sB S 10)) fun v124 => some (.inl v124))
    else if a1 = (nI 6) then
      (cr1 (pX5_count 112 (sB S 12)) fun v135 => some (.inl v135))
    else if a1 = (nI 7) then
      (cr1 (pX4_howMany (nI 2) (sB S 3)) fun v144 => some (.inl v144))
    else if a1 = (nI 8) then
      (cr1 (pX4_howMany (nI 1) (sB S 3)) fun v153 => some (.inl v153))
    else if a1 = (nI 9) then
      (cr1 (pX5_sum 112 (nI 3) (sB S 12)) fun v165 => some (.inl v165))
    else if a1 = (nI 10) then
      (cr1 (pX5_sum 8 (nI 1) (sB S 8)) fun v177 => some (.inl v177))
    else (cr1 (pX5_sum 112 (nI 6) (sB S 12)) fun v190 => some (.inl v190))

def pX6_checkExists (n : Nat) (a2 : Int32) (S : mM) : Option (Option String) :=
  cr1 (pX5_has n a2 S) fun v2 => if v2 = 0 then
    (some (some "java/lang/IndexOutOfBoundsException"))
  else
    (some none)

def pX6_convoy  (a1 : Int32) (a2 : Int32) (S : mM) : Option (Int32 ⊕ String) :=
  bx (pX6_checkExists 16 a1 (sB S 10)) (fun E => some (.inr E)) <| bx (pX6_checkRange a2 (nI 0) (nI 7)) (fun E => some (.inr E)) <| if a2 = (nI 0) then
        (cr1 (pX5_get 16 a1 (nI 0) (sB S 10)) fun v69 => some (.inl v69))
      else if a2 = (nI 1) then
        (cr1 (pX2_size 4 32 a1 (sB S 14)) fun v81 => some (.inl v81))
      else if a2 = (nI 2) then
        (cr1 (pX4_slowestSpeed a1 (sB S 3)) fun v90 => some (.inl v90))
      else if a2 = (nI 3) then
        (cr1 (pX5_get 16 a1 (nI 1) (sB S 10)) fun v103 => some (.inl v103))
      else if a2 = (nI 4) then
        (cr1 (pX5_get 16 a1 (nI 2) (sB S 10)) fun v116 => some (.inl v116))
      else if a2 = (nI 5) then
        (cr1 (pX5_get 16 a1 (nI 3) (sB S 10)) fun v129 => some (.inl v129))
      else if a2 = (nI 6) then
        (cr1 (pX4_litersWith a1 (sB S 3)) fun v138 => some (.inl v138))
      else (cr1 (pX4_isAtEnd a1 (sB S 3)) fun v147 => if v147 = 0 then
          (some (.inl (nI 0)))
        else
          (some (.inl (nI 1))))

def pX6_member_b20  (S : mM) (x1 : Int32) (x2 : Int32) (t0 : Int32) : Option (Int32 ⊕ String) :=
  bx (pX6_refuseArgumentIf t0) (fun E => some (.inr E)) <| cr1 (pX2_get 4 32 x1 x2 (sB S 14)) fun v32 => some (.inl v32)
def pX6_member  (a1 : Int32) (a2 : Int32) (S : mM) : Option (Int32 ⊕ String) :=
  bx (pX6_checkExists 16 a1 (sB S 10)) (fun E => some (.inr E)) <| if 0 ≤ a2 then
      (pX6_member_b20 S a1 a2 (nI 0))
    else
      (pX6_member_b20 S a1 a2 (nI 1))

def pX6_vehicle  (a1 : Int32) (a2 : Int32) (S : mM) : Option (Int32 ⊕ String) :=
  bx (pX6_checkExists 112 a1 (sB S 12)) (fun E => some (.inr E)) <| bx (pX6_checkRange a2 (nI 0) (nI 6)) (fun E => some (.inr E)) <| cr1 (pX5_get 112 a1 a2 (sB S 12)) fun v27 => some (.inl v27)

def pX6_gate  (a1 : Int32) (a2 : Int32) (S : mM) : Option (Int32 ⊕ String) :=
  bx (pX6_checkExists 16 a1 (sB S 4)) (fun E => some (.inr E)) <| bx (pX6_checkRange a2 (nI 0) (nI 5)) (fun E => some (.inr E)) <| if a2 = (nI 4) then
        (cr1 (pX4_closedFor a1 (sB S 3)) fun v49 => if v49 ≤ 0 then
          (some (.inl (nI 0)))
        else
          (some (.inl (nI 1))))
      else if a2 = (nI 5) then
        (cr1 (pX4_closedFor a1 (sB S 3)) fun v66 => some (.inl v66))
      else (cr1 (pX5_get 16 a1 a2 (sB S 4)) fun v79 => some (.inl v79))

def pX6_bay  (a1 : Int32) (a2 : Int32) (S : mM) : Option (Int32 ⊕ String) :=
  bx (pX6_checkExists 12 a1 (sB S 6)) (fun E => some (.inr E)) <| bx (pX6_checkRange a2 (nI 0) (nI 3)) (fun E => some (.inr E)) <| if a2 = (nI 2) then
        (cr1 (pX2_size 6 36 a1 (sB S 17)) fun v52 => some (.inl v52))
      else if a2 = (nI 3) then
        (cr1 (pX2_get 6 36 a1 (nI 0) (sB S 17)) fun v65 => some (.inl v65))
      else (cr1 (pX5_get 12 a1 a2 (sB S 6)) fun v78 => some (.inl v78))

def pX6_depot  (a1 : Int32) (a2 : Int32) (S : mM) : Option (Int32 ⊕ String) :=
  bx (pX6_checkExists 8 a1 (sB S 8)) (fun E => some (.inr E)) <| bx (pX6_checkRange a2 (nI 0) (nI 1)) (fun E => some (.inr E)) <| cr1 (pX5_get 8 a1 a2 (sB S 8)) fun v26 => some (.inl v26)

def pX6_addGate_b72  (x1 : Int32) (x2 : Int32) (x3 : Int32) (x4 : Int32) (t0 : Int32) (S : mM) : Option ((Int32 ⊕ String) × mM) :=
  bx (pX6_refuseIf t0) (fun E => some (.inr E, S)) <| cr1 (pX0_remember S) fun S83 => cws S83 3 17 (pX4_newGate x1 x2 x3 x4 (sB S83 3)) fun v95 S95 => some (.inl v95, S95)
def pX6_addGate_b67  (x1 : Int32) (x2 : Int32) (x3 : Int32) (x4 : Int32) (S : mM) : Option ((Int32 ⊕ String) × mM) :=
  pX6_addGate_b72  x1 x2 x3 x4 (nI 1) S
def pX6_addGate  (a1 : Int32) (a2 : Int32) (a3 : Int32) (a4 : Int32) (S : mM) : Option ((Int32 ⊕ String) × mM) :=
  cr1 (pX4_length (sB S 3)) fun v6 => bx (pX6_checkRange a1 (nI 1) (v6 - (nI 1))) (fun E => some (.inr E, S)) <| bx (pX6_checkRange a2 (nI 2) (nI 24)) (fun E => some (.inr E, S)) <| bx (pX6_checkRange a3 (nI 0) (a2 - (nI 1))) (fun E => some (.inr E, S)) <| bx (pX6_checkRange a4 (nI 0) (a2 - (nI 1))) (fun E => some (.inr E, S)) <| cr1 (pX5_isFull 16 (sB S 4)) fun v45 => if v45 = 0 then
            (cr1 (pX5_rowAt 16 a1 (sB S 4)) fun v59 => if v59 = (-9) then
              (pX6_addGate_b72  a1 a2 a3 a4 (nI 0) S)
            else
              (pX6_addGate_b67  a1 a2 a3 a4 S))
          else
            (pX6_addGate_b67  a1 a2 a3 a4 S)

def pX6_addBay_b55  (x1 : Int32) (x2 : Int32) (t0 : Int32) (S : mM) : Option ((Int32 ⊕ String) × mM) :=
  bx (pX6_refuseIf t0) (fun E => some (.inr E, S)) <| cr1 (pX0_remember S) fun S66 => cws S66 3 17 (pX4_newBay x1 x2 (sB S66 3)) fun v75 S75 => some (.inl v75, S75)
def pX6_addBay_b50  (x1 : Int32) (x2 : Int32) (S : mM) : Option ((Int32 ⊕ String) × mM) :=
  pX6_addBay_b55  x1 x2 (nI 1) S
def pX6_addBay  (a1 : Int32) (a2 : Int32) (S : mM) : Option ((Int32 ⊕ String) × mM) :=
  cr1 (pX4_length (sB S 3)) fun v6 => bx (pX6_checkRange a1 (nI 1) (v6 - (nI 1))) (fun E => some (.inr E, S)) <| bx (pX6_checkRange a2 (nI 1) (nI 6)) (fun E => some (.inr E, S)) <| cr1 (pX5_isFull 12 (sB S 6)) fun v28 => if v28 = 0 then
        (cr1 (pX5_rowAt 12 a1 (sB S 6)) fun v42 => if v42 = (-9) then
          (pX6_addBay_b55  a1 a2 (nI 0) S)
        else
          (pX6_addBay_b50  a1 a2 S))
      else
        (pX6_addBay_b50  a1 a2 S)

def pX6_addDepot_b54  (x1 : Int32) (x2 : Int32) (t0 : Int32) (S : mM) : Option ((Int32 ⊕ String) × mM) :=
  bx (pX6_refuseIf t0) (fun E => some (.inr E, S)) <| cr1 (pX0_remember S) fun S65 => cws S65 3 17 (pX4_newDepot x1 x2 (sB S65 3)) fun v74 S74 => some (.inl v74, S74)
def pX6_addDepot_b49  (x1 : Int32) (x2 : Int32) (S : mM) : Option ((Int32 ⊕ String) × mM) :=
  pX6_addDepot_b54  x1 x2 (nI 1) S
def pX6_addDepot  (a1 : Int32) (a2 : Int32) (S : mM) : Option ((Int32 ⊕ String) × mM) :=
  cr1 (pX4_length (sB S 3)) fun v6 => bx (pX6_checkRange a1 (nI 0) v6) (fun E => some (.inr E, S)) <| bx (pX6_checkRange a2 (nI 0) (nI 999)) (fun E => some (.inr E, S)) <| cr1 (pX5_isFull 8 (sB S 8)) fun v27 => if v27 = 0 then
        (cr1 (pX5_rowAt 8 a1 (sB S 8)) fun v41 => if v41 = (-9) then
          (pX6_addDepot_b54  a1 a2 (nI 0) S)
        else
          (pX6_addDepot_b49  a1 a2 S))
      else
        (pX6_addDepot_b49  a1 a2 S)

def pX6_addConvoy   (S : mM) : Option ((Int32 ⊕ String) × mM) :=
  cr1 (pX5_isFull 16 (sB S 10)) fun v7 => bx (pX6_refuseIf v7) (fun E => some (.inr E, S)) <| cr1 (pX0_remember S) fun S21 => cws S21 3 17 (pX4_newConvoy (sB S21 3)) fun v28 S28 => some (.inl v28, S28)

def pX6_addVehicle_b68  (x1 : Int32) (x2 : Int32) (x3 : Int32) (x4 : Int32) (x5 : Int32) (t0 : Int32) (S : mM) : Option ((Int32 ⊕ String) × mM) :=
  bx (pX6_refuseIf t0) (fun E => some (.inr E, S)) <| cr1 (pX0_remember S) fun S79 => cws S79 3 17 (pX4_newVehicle x1 x2 x3 x4 x5 (sB S79 3)) fun v93 S93 => some (.inl v93, S93)
def pX6_addVehicle_b63  (x1 : Int32) (x2 : Int32) (x3 : Int32) (x4 : Int32) (x5 : Int32) (S : mM) : Option ((Int32 ⊕ String) × mM) :=
  pX6_addVehicle_b68  x1 x2 x3 x4 x5 (nI 1) S
def pX6_addVehicle  (a1 : Int32) (a2 : Int32) (a3 : Int32) (a4 : Int32) (a5 : Int32) (S : mM) : Option ((Int32 ⊕ String) × mM) :=
  bx (pX6_checkExists 16 a1 (sB S 10)) (fun E => some (.inr E, S)) <| bx (pX6_checkRange a2 (nI 1) (nI 9)) (fun E => some (.inr E, S)) <| bx (pX6_checkRange a3 (nI 1) (nI 4)) (fun E => some (.inr E, S)) <| bx (pX6_checkRange a4 (nI 20) (nI 99)) (fun E => some (.inr E, S)) <| bx (pX6_checkRange a5 (nI 0) a4) (fun E => some (.inr E, S)) <| cr1 (pX4_hasRoomForVehicle a1 (sB S 3)) fun v46 => if v46 = 0 then
              (pX6_addVehicle_b63  a1 a2 a3 a4 a5 S)
            else
              (cr1 (pX4_isAtEnd a1 (sB S 3)) fun v57 => if v57 = 0 then
                (pX6_addVehicle_b68  a1 a2 a3 a4 a5 (nI 0) S)
              else
                (pX6_addVehicle_b63  a1 a2 a3 a4 a5 S))

def pX6_hold  (a1 : Int32) (a2 : Int32) (S : mM) : Option ((Int32 ⊕ String) × mM) :=
  bx (pX6_checkExists 16 a1 (sB S 10)) (fun E => some (.inr E, S)) <| bx (pX6_checkRange a2 (nI 0) (nI 23)) (fun E => some (.inr E, S)) <| cr1 (pX0_remember S) fun S26 => cr1 (pX5_get 16 a1 (nI 1) (sB S26 10)) fun v38 => cvs S26 10 2 (pX5_put 16 a1 (nI 1) a2 (sB S26 10)) fun S52 => some (.inl v38, S52)

def pX6_supply_b44  (x1 : Int32) (x2 : Int32) (t0 : Int32) (S : mM) : Option ((Int32 ⊕ String) × mM) :=
  bx (pX6_refuseIf t0) (fun E => some (.inr E, S)) <| cr1 (pX0_remember S) fun S55 => cvs S55 8 2 (pX5_raise 8 x1 (nI 1) x2 (sB S55 8)) fun S68 => cr1 (pX5_get 8 x1 (nI 1) (sB S68 8)) fun v80 => some (.inl v80, S68)
def pX6_supply  (a1 : Int32) (a2 : Int32) (S : mM) : Option ((Int32 ⊕ String) × mM) :=
  bx (pX6_checkExists 8 a1 (sB S 8)) (fun E => some (.inr E, S)) <| bx (pX6_checkRange a2 (nI 1) (nI 500)) (fun E => some (.inr E, S)) <| cr1 (pX5_get 8 a1 (nI 1) (sB S 8)) fun v28 => if (v28 + a2) ≤ (nI 999) then
        (pX6_supply_b44  a1 a2 (nI 0) S)
      else
        (pX6_supply_b44  a1 a2 (nI 1) S)

def pX6_pass  (a1 : Int32) (S : mM) : Option ((Int32 ⊕ String) × mM) :=
  bx (pX6_checkRange a1 (nI 1) (nI 99)) (fun E => some (.inr E, S)) <| cr1 (pX0_remember S) fun S15 => cr1 (pX4_howMany (nI 2) (sB S15 3)) fun v23 => cws S15 3 17 (pX4_letGoBy a1 (sB S15 3)) fun v32 S32 => cr1 (pX4_howMany (nI 2) (sB S32 3)) fun v41 => some (.inl (v41 - v23), S32)

def pX6_undo_b15  (t0 : Int32) (S : mM) : Option ((Int32 ⊕ String) × mM) :=
  bx (pX6_refuseIf t0) (fun E => some (.inr E, S)) <| cr1 (pX0_takeBack S) fun S26 => cr1 (pX0_size S26) fun v33 => some (.inl v33, S26)
def pX6_undo   (S : mM) : Option ((Int32 ⊕ String) × mM) :=
  cr1 (pX0_size S) fun v4 => if v4 = 0 then
    (pX6_undo_b15  (nI 1) S)
  else
    (pX6_undo_b15  (nI 0) S)

def pX6_arrives  (a1 : Int32) (S : mM) : Option ((Int32 ⊕ String) × mM) :=
  bx (pX6_checkExists 16 a1 (sB S 10)) (fun E => some (.inr E, S)) <| cr1 (pX4_copyFrom 20 3 S) fun S19 => cws S19 20 17 (pX4_hoursToEnd a1 (sB S19 20)) fun v27 S27 => some (.inl v27, S27)

def pX6_leaves  (a1 : Int32) (S : mM) : Option ((Int32 ⊕ String) × mM) :=
  bx (pX6_checkExists 16 a1 (sB S 10)) (fun E => some (.inr E, S)) <| cr1 (pX4_copyFrom 20 3 S) fun S19 => cws S19 20 17 (pX4_firstLeftBy a1 (sB S19 20)) fun v27 S27 => some (.inl v27, S27)

def pX6_bestHold_lb34  (ih34 : Int32 → Int32 → Int32 → Int32 → mM → Option ((Int32 ⊕ String) × mM)) (x1 : Int32) (x2 : Int32) (x3 : Int32) (x4 : Int32) (S : mM) : Option ((Int32 ⊕ String) × mM) :=
  if (nI 23) < x4 then
      (some (.inl x2, S))
    else
      (cr1 (pX4_copyFrom 20 3 S) fun S49 => cvs S49 27 2 (pX5_put 16 x1 (nI 1) x4 (sB S49 27)) fun S63 => cws S63 20 17 (pX4_hoursToEnd x1 (sB S63 20)) fun v71 S71 => if v71 = (-9) then
        (vl (x4 + (nI 1)) fun v101 => ih34 x1 x2 x3 v101 S71)
      else
        (if x3 ≤ (v71 - x4) then
          (vl (x4 + (nI 1)) fun v101 => ih34 x1 x2 x3 v101 S71)
        else
          (vl (v71 - x4) fun v100 => vl (x4 + (nI 1)) fun v101 => ih34 x1 x4 v100 v101 S71)))
def pX6_bestHold_l34  : Nat → Int32 → Int32 → Int32 → Int32 → mM → Option ((Int32 ⊕ String) × mM)
  | 0, _, _, _, _, _ => none
  | k + 1, x1, x2, x3, x4, S => pX6_bestHold_lb34  (pX6_bestHold_l34  k) x1 x2 x3 x4 S
def pX6_bestHold  (a1 : Int32) (S : mM) : Option ((Int32 ⊕ String) × mM) :=
  bx (pX6_checkExists 16 a1 (sB S 10)) (fun E => some (.inr E, S)) <| cr1 (pX4_isAtEnd a1 (sB S 3)) fun v16 => if v16 = 0 then
      (pX6_bestHold_l34 fuel a1 (-9) (nI 301) (nI 0) S)
    else
      (some (.inl (nI 0), S))

def pX6_lacks_lb13  (ih13 : Int32 → Int32 → mM → Option ((Int32 ⊕ String) × mM)) (x1 : Int32) (x2 : Int32) (S : mM) : Option ((Int32 ⊕ String) × mM) :=
  if (nI 40) < x2 then
      (some (.inl (-9), S))
    else
      (cr1 (pX4_copyFrom 20 3 S) fun S27 => cvs S27 25 2 (pX5_raise 8 x1 (nI 1) x2 (sB S27 25)) fun S40 => cws S40 20 17 (pX4_allArrive (sB S40 20)) fun v47 S47 => if v47 = 0 then
        (vl (x2 + (nI 1)) fun v55 => ih13 x1 v55 S47)
      else
        (some (.inl x2, S47)))
def pX6_lacks_l13  : Nat → Int32 → Int32 → mM → Option ((Int32 ⊕ String) × mM)
  | 0, _, _, _ => none
  | k + 1, x1, x2, S => pX6_lacks_lb13  (pX6_lacks_l13  k) x1 x2 S
def pX6_lacks  (a1 : Int32) (S : mM) : Option ((Int32 ⊕ String) × mM) :=
  bx (pX6_checkExists 8 a1 (sB S 8)) (fun E => some (.inr E, S)) <| pX6_lacks_l13 fuel a1 (nI 0) S

def pX6_runScript_lb67  (ih67 : Int32 → Int64 → Int32 → mM → Option ((Int32 ⊕ String) × mM)) (x1 : Int32) (x2 : Int64) (x6 : Int32) (S : mM) : Option ((Int32 ⊕ String) × mM) :=
  if x1 ≤ x6 then
      (some (.inl (-9), S))
    else
      (cr1 (pX6_groupOf x2 ((x1 - (nI 1)) - x6)) fun v84 => cws S 20 17 (pX4_obeys v84 (sB S 20)) fun v87 S87 => if v87 = 0 then
        (some (.inl x6, S87))
      else
        (vl (x6 + (nI 1)) fun v96 => ih67 x1 x2 v96 S87))
def pX6_runScript_l67  : Nat → Int32 → Int64 → Int32 → mM → Option ((Int32 ⊕ String) × mM)
  | 0, _, _, _, _ => none
  | k + 1, x1, x2, x6, S => pX6_runScript_lb67  (pX6_runScript_l67  k) x1 x2 x6 S
def pX6_runScript_b50  (x1 : Int32) (x2 : Int64) (t0 : Int32) (S : mM) : Option ((Int32 ⊕ String) × mM) :=
  bx (pX6_refuseArgumentIf t0) (fun E => some (.inr E, S)) <| cr1 (pX4_copyFrom 20 3 S) fun S61 => pX6_runScript_l67 fuel x1 x2 (nI 0) S61
def pX6_runScript_b45  (x1 : Int32) (x2 : Int64) (S : mM) : Option ((Int32 ⊕ String) × mM) :=
  pX6_runScript_b50  x1 x2 (nI 1) S
def pX6_runScript_lb12  (ih12 : Int32 → Int64 → Int64 → Int32 → mM → Option ((Int32 ⊕ String) × mM)) (x1 : Int32) (x2 : Int64) (x4 : Int64) (x6 : Int32) (S : mM) : Option ((Int32 ⊕ String) × mM) :=
  if x1 ≤ x6 then
      (if (lg_cmp x2 (lN 0)) < 0 then
        (pX6_runScript_b45  x1 x2 S)
      else
        (if (lg_cmp x2 x4) < 0 then
          (pX6_runScript_b50  x1 x2 (nI 0) S)
        else
          (pX6_runScript_b45  x1 x2 S)))
    else
      (vl (x4 * (lN 100000)) fun v24 => vl (x6 + (nI 1)) fun v26 => ih12 x1 x2 v24 v26 S)
def pX6_runScript_l12  : Nat → Int32 → Int64 → Int64 → Int32 → mM → Option ((Int32 ⊕ String) × mM)
  | 0, _, _, _, _, _ => none
  | k + 1, x1, x2, x4, x6, S => pX6_runScript_lb12  (pX6_runScript_l12  k) x1 x2 x4 x6 S
def pX6_runScript  (a1 : Int32) (a2 : Int64) (S : mM) : Option ((Int32 ⊕ String) × mM) :=
  bx (pX6_checkRange a1 (nI 1) (nI 3)) (fun E => some (.inr E, S)) <| pX6_runScript_l12 fuel a1 a2 (lN 1) (nI 0) S

def pX6_simulate_lb48  (ih48 : Int32 → Int32 → Int32 → Int64 → Int32 → mM → Option ((Int32 ⊕ String) × mM)) (x3 : Int32) (x4 : Int32) (x5 : Int32) (x6 : Int64) (x8 : Int32) (S : mM) : Option ((Int32 ⊕ String) × mM) :=
  if x3 ≤ x8 then
      (cr1 (pX4_howMany (nI 2) (sB S 20)) fun v97 => vl (v97 - x4) fun v103 => cr1 (pX5_sum 112 (nI 6) (sB S 29)) fun v120 => some (.inl ((((nI 10000) * v103) + v120) - x5), S))
    else
      (vl ((x6 * 6364136223846793005) + 1442695040888963407) fun v64 => cvs S 20 17 (pX4_meetChance (((v64.toUInt64 >>> (((nI 33).toInt64).toUInt64 &&& Int64.toUInt64 63)).toInt64).toInt32) (sB S 20)) fun S76 => cvs S76 20 17 (pX4_letHourGoBy (sB S76 20)) fun S83 => vl (x8 + (nI 1)) fun v86 => ih48 x3 x4 x5 v64 v86 S83)
def pX6_simulate_l48  : Nat → Int32 → Int32 → Int32 → Int64 → Int32 → mM → Option ((Int32 ⊕ String) × mM)
  | 0, _, _, _, _, _, _ => none
  | k + 1, x3, x4, x5, x6, x8, S => pX6_simulate_lb48  (pX6_simulate_l48  k) x3 x4 x5 x6 x8 S
def pX6_simulate  (a1 : Int64) (a2 : Int32) (S : mM) : Option ((Int32 ⊕ String) × mM) :=
  bx (pX6_checkRange a2 (nI 1) (nI 99)) (fun E => some (.inr E, S)) <| cr1 (pX4_copyFrom 20 3 S) fun S15 => cr1 (pX4_howMany (nI 2) (sB S15 20)) fun v23 => cr1 (pX5_sum 112 (nI 6) (sB S15 29)) fun v37 => pX6_simulate_l48 fuel a2 v23 v37 a1 (nI 0) S15

def pX6_checkSlot  (a1 : Int32) : Option (Option String) :=
  cr1 (pX6_isWithin a1 (nI 0) (nI 1)) fun v3 => if v3 = 0 then
    (some (some "java/lang/IndexOutOfBoundsException"))
  else
    (some none)

def pX6_save  (a1 : Int32) (S : mM) : Option ((Int32 ⊕ String) × mM) :=
  bx (pX6_checkSlot a1) (fun E => some (.inr E, S)) <| cr1 (pX3_keep 279 2 a1 S) fun S13 => cr1 (pX4_hours (sB S13 3)) fun v20 => some (.inl v20, S13)

def pX6_restore_b20  (x1 : Int32) (t0 : Int32) (S : mM) : Option ((Int32 ⊕ String) × mM) :=
  bx (pX6_refuseIf t0) (fun E => some (.inr E, S)) <| cr1 (pX3_giveBack 279 2 x1 S) fun S32 => cr1 (pX0_forget S32) fun S39 => cr1 (pX4_hours (sB S39 3)) fun v46 => some (.inl v46, S39)
def pX6_restore  (a1 : Int32) (S : mM) : Option ((Int32 ⊕ String) × mM) :=
  bx (pX6_checkSlot a1) (fun E => some (.inr E, S)) <| cr1 (pX3_holds 279 2 a1 S) fun v9 => if v9 = 0 then
      (pX6_restore_b20  a1 (nI 1) S)
    else
      (pX6_restore_b20  a1 (nI 0) S)

theorem copyAt_st {G : mG} {β b1 m k : Nat} {x : Int32} {S : mM} (hs : isShelf G (β + b1) m) (h1 : b1 + (3 + 17 * m) ≤ 316) (h : pX3_copyAt b1 m x S = some (some k)) : isSt G (β + k) ∧ k + 17 ≤ 316 := by
  unfold pX3_copyAt at h
  by_cases c1 : x < 0
  · have := if_t c1 h
    cases this
  · replace h := if_f c1 h
    by_cases c2 : nI m ≤ x
    · have := if_t c2 h
      cases this
    · replace h := if_f c2 h
      obtain ⟨h3, h4⟩ := gd_some h
      cases h4
      have h5 : vp_in x m := inB_in h3
      have h6 : x.toNatClampNeg < m := Nat.not_le.mp fun q => h5 (Or.inr q)
      have h7 := hs.2.2.2 _ h6
      rw [show β + b1 + 3 + 17 * x.toNatClampNeg = β + (b1 + 3 + 17 * x.toNatClampNeg) by omega] at h7
      exact ⟨h7, by omega⟩
