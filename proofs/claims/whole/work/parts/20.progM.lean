/-! ===== what the methods of the reference do, by program ===== -/
def pX7_thrown   (S : mM) : Option Int32 :=
  gf S 0 0 fun v1 => some v1

def pX7_refused  (a1 : Int32) (S : mM) : Option (Int32 × mM) :=
  pf S 0 0 a1 fun S2 => if a1 ≤ 0 then
    (gd (isZ (nI 0)) (some ((nI 0), S2)))
  else
    (gd (isZ (nI 1)) (some ((nI 1), S2)))

def pX7_in  (a1 : Int64) (a2 : Int64) (a3 : Int64) : Option Int32 :=
  if (lg_cmp a1 a2) < 0 then
    (gd (isZ (nI 0)) (some (nI 0)))
  else
    (if 0 < (lg_cmp a1 a3) then
      (gd (isZ (nI 0)) (some (nI 0)))
    else
      (gd (isZ (nI 1)) (some (nI 1))))

def pX7_copy_lb3 (b1 n1 b2 n2 : Nat) (ih3 : Int32 → Int32 → Int32 → Int32 → mM → Option mM) (x1 : Int32) (x3 : Int32) (x4 : Int32) (x5 : Int32) (S : mM) : Option mM :=
  if x4 ≤ x5 then
      (some S)
    else
      (ld S b1 n1 (x1 + x5) fun v20 => st S b2 n2 (x3 + x5) v20 fun S21 => vl (x5 + (nI 1)) fun v22 => ih3 x1 x3 x4 v22 S21)
def pX7_copy_l3 (b1 n1 b2 n2 : Nat) : Nat → Int32 → Int32 → Int32 → Int32 → mM → Option mM
  | 0, _, _, _, _, _ => none
  | k + 1, x1, x3, x4, x5, S => pX7_copy_lb3 b1 n1 b2 n2 (pX7_copy_l3 b1 n1 b2 n2 k) x1 x3 x4 x5 S
def pX7_copy (b1 n1 b2 n2 : Nat) (a2 : Int32) (a4 : Int32) (a5 : Int32) (S : mM) : Option mM :=
  pX7_copy_l3 b1 n1 b2 n2 fuel a2 a4 a5 (nI 0) S

def pX7_tenTo_lb4  (ih4 : Int32 → Int64 → Int32 → Option Int64) (x0 : Int32) (x1 : Int64) (x3 : Int32) : Option Int64 :=
  if x0 ≤ x3 then
      (some x1)
    else
      (vl (x1 * (lN 10)) fun v14 => vl (x3 + (nI 1)) fun v15 => ih4 x0 v14 v15)
def pX7_tenTo_l4  : Nat → Int32 → Int64 → Int32 → Option Int64
  | 0, _, _, _ => none
  | k + 1, x0, x1, x3 => pX7_tenTo_lb4  (pX7_tenTo_l4  k) x0 x1 x3
def pX7_tenTo  (a1 : Int32) : Option Int64 :=
  pX7_tenTo_l4 fuel a1 (lN 1) (nI 0)

def pX7_remember_b37  (S : mM) : Option mM :=
  gf S 0 9 fun v50 => cr1 (pX7_copy 3 250 5 3500 (nI 0) ((nI 250) * v50) (nI 250) S) fun S57 => gf S57 0 9 fun v62 => pf S57 0 9 (v62 + (nI 1)) fun S67 => some S67
def pX7_remember   (S : mM) : Option mM :=
  gf S 0 9 fun v1 => if v1 = (nI 14) then
    (cr1 (pX7_copy 5 3500 5 3500 (nI 250) (nI 0) (nI 3250) S) fun S24 => gf S24 0 9 fun v29 => pf S24 0 9 (v29 - (nI 1)) fun S34 => pX7_remember_b37  S34)
  else
    (pX7_remember_b37  S)

def pX7_begin   (S : mM) : Option mM :=
  cr1 (pX7_copy 3 250 4 250 (nI 0) (nI 0) (nI 250) S) fun S13 => some S13

def pX7_gateAt  (a1 : Int32) (a2 : Int32) : Option Int32 :=
  some (((nI 8) + ((nI 4) * a1)) + a2)

def pX7_bayAt  (a1 : Int32) (a2 : Int32) : Option Int32 :=
  some (((nI 24) + ((nI 9) * a1)) + a2)

def pX7_depotAt  (a1 : Int32) (a2 : Int32) : Option Int32 :=
  some (((nI 78) + ((nI 2) * a1)) + a2)

def pX7_convoyAt  (a1 : Int32) (a2 : Int32) : Option Int32 :=
  some (((nI 86) + ((nI 13) * a1)) + a2)

def pX7_carAt  (a1 : Int32) (a2 : Int32) : Option Int32 :=
  some (((nI 138) + ((nI 7) * a1)) + a2)

def pX7_who  (a2 : Int32) (a3 : Int32) (S : mM) : Option Int32 :=
  cr1 (pX7_convoyAt a2 ((nI 5) + a3)) fun v5 => ld S 0 250 v5 fun v8 => some v8

def pX7_sizeOf  (a2 : Int32) (S : mM) : Option Int32 :=
  cr1 (pX7_convoyAt a2 (nI 1)) fun v3 => ld S 0 250 v3 fun v6 => some v6

def pX7_isClosed  (a2 : Int32) (S : mM) : Option Int32 :=
  ld S 0 250 (nI 1) fun v2 => cr1 (pX7_gateAt a2 (nI 3)) fun v6 => ld S 0 250 v6 fun v9 => cr1 (pX7_gateAt a2 (nI 1)) fun v14 => ld S 0 250 v14 fun v17 => nz v17 <| cr1 (pX7_gateAt a2 (nI 2)) fun v22 => ld S 0 250 v22 fun v25 => if v25 ≤ ((v2 + v9) - (v2 + v9) / v17 * v17) then
    (gd (isZ (nI 0)) (some (nI 0)))
  else
    (gd (isZ (nI 1)) (some (nI 1)))

def pX7_bayOn_lb5  (ih5 : Int32 → Int32 → Int32 → Option Int32) (S : mM) (x1 : Int32) (x2 : Int32) (x3 : Int32) : Option Int32 :=
  ld S 0 250 (nI 3) fun v8 => if v8 ≤ x3 then
      (some x2)
    else
      (cr1 (pX7_bayAt x3 (nI 0)) fun v15 => ld S 0 250 v15 fun v18 => if v18 = x1 then
        (vl (x3 + (nI 1)) fun v29 => ih5 x1 x3 v29)
      else
        (vl (x3 + (nI 1)) fun v29 => ih5 x1 x2 v29))
def pX7_bayOn_l5  (S : mM) : Nat → Int32 → Int32 → Int32 → Option Int32
  | 0, _, _, _ => none
  | k + 1, x1, x2, x3 => pX7_bayOn_lb5  (pX7_bayOn_l5  S k) S x1 x2 x3
def pX7_bayOn  (a2 : Int32) (S : mM) : Option Int32 :=
  pX7_bayOn_l5 S fuel a2 (-9) (nI 0)

def pX7_depotOn_lb5  (ih5 : Int32 → Int32 → Int32 → Option Int32) (S : mM) (x1 : Int32) (x2 : Int32) (x3 : Int32) : Option Int32 :=
  ld S 0 250 (nI 4) fun v8 => if v8 ≤ x3 then
      (some x2)
    else
      (cr1 (pX7_depotAt x3 (nI 0)) fun v15 => ld S 0 250 v15 fun v18 => if v18 = x1 then
        (vl (x3 + (nI 1)) fun v29 => ih5 x1 x3 v29)
      else
        (vl (x3 + (nI 1)) fun v29 => ih5 x1 x2 v29))
def pX7_depotOn_l5  (S : mM) : Nat → Int32 → Int32 → Int32 → Option Int32
  | 0, _, _, _ => none
  | k + 1, x1, x2, x3 => pX7_depotOn_lb5  (pX7_depotOn_l5  S k) S x1 x2 x3
def pX7_depotOn  (a2 : Int32) (S : mM) : Option Int32 :=
  pX7_depotOn_l5 S fuel a2 (-9) (nI 0)

def pX7_gateOn_lb5  (ih5 : Int32 → Int32 → Int32 → Option Int32) (S : mM) (x1 : Int32) (x2 : Int32) (x3 : Int32) : Option Int32 :=
  ld S 0 250 (nI 2) fun v8 => if v8 ≤ x3 then
      (some x2)
    else
      (cr1 (pX7_gateAt x3 (nI 0)) fun v15 => ld S 0 250 v15 fun v18 => if v18 = x1 then
        (vl (x3 + (nI 1)) fun v29 => ih5 x1 x3 v29)
      else
        (vl (x3 + (nI 1)) fun v29 => ih5 x1 x2 v29))
def pX7_gateOn_l5  (S : mM) : Nat → Int32 → Int32 → Int32 → Option Int32
  | 0, _, _, _ => none
  | k + 1, x1, x2, x3 => pX7_gateOn_lb5  (pX7_gateOn_l5  S k) S x1 x2 x3
def pX7_gateOn  (a2 : Int32) (S : mM) : Option Int32 :=
  pX7_gateOn_l5 S fuel a2 (-9) (nI 0)

def pX7_slowest_lb4  (ih4 : Int32 → Int32 → Int32 → Option Int32) (S : mM) (x1 : Int32) (x2 : Int32) (x3 : Int32) : Option Int32 :=
  cr1 (pX7_sizeOf x1 S) fun v7 => if v7 ≤ x3 then
      (some x2)
    else
      (cr1 (pX7_who x1 x3 S) fun v17 => cr1 (pX7_carAt v17 (nI 0)) fun v21 => ld S 0 250 v21 fun v24 => if x3 = 0 then
        (vl (x3 + (nI 1)) fun v44 => ih4 x1 v24 v44)
      else
        (if x2 ≤ v24 then
          (vl (x3 + (nI 1)) fun v44 => ih4 x1 x2 v44)
        else
          (vl (x3 + (nI 1)) fun v44 => ih4 x1 v24 v44)))
def pX7_slowest_l4  (S : mM) : Nat → Int32 → Int32 → Int32 → Option Int32
  | 0, _, _, _ => none
  | k + 1, x1, x2, x3 => pX7_slowest_lb4  (pX7_slowest_l4  S k) S x1 x2 x3
def pX7_slowest  (a2 : Int32) (S : mM) : Option Int32 :=
  pX7_slowest_l4 S fuel a2 (nI 0) (nI 0)

def pX7_isThere  (a2 : Int32) (S : mM) : Option Int32 :=
  cr1 (pX7_convoyAt a2 (nI 0)) fun v3 => ld S 0 250 v3 fun v6 => ld S 0 250 (nI 0) fun v9 => if v6 = v9 then
    (gd (isZ (nI 1)) (some (nI 1)))
  else
    (gd (isZ (nI 0)) (some (nI 0)))

def pX7_fill_b80  (ih14 : Int32 → Int32 → Int32 → mM → Option mM) (x1 : Int32) (x2 : Int32) (x3 : Int32) (x4 : Int32) (t0 : Int32) (S : mM) : Option mM :=
  cr1 (pX7_carAt x4 (nI 3)) fun v86 => ld S 0 250 v86 fun v90 => st S 0 250 v86 (v90 + t0) fun S94 => cr1 (pX7_depotAt x2 (nI 1)) fun v98 => ld S94 0 250 v98 fun v102 => st S94 0 250 v98 (v102 - t0) fun S106 => vl (x3 + (nI 1)) fun v107 => ih14 x1 x2 v107 S106
def pX7_fill_lb14  (ih14 : Int32 → Int32 → Int32 → mM → Option mM) (x1 : Int32) (x2 : Int32) (x3 : Int32) (S : mM) : Option mM :=
  cr1 (pX7_sizeOf x1 S) fun v17 => if v17 ≤ x3 then
      (some S)
    else
      (if x2 = (-9) then
        (some S)
      else
        (cr1 (pX7_who x1 x3 S) fun v32 => cr1 (pX7_carAt v32 (nI 2)) fun v41 => ld S 0 250 v41 fun v44 => cr1 (pX7_carAt v32 (nI 3)) fun v49 => ld S 0 250 v49 fun v52 => vl (v44 - v52) fun v54 => cr1 (pX7_depotAt x2 (nI 1)) fun v61 => ld S 0 250 v61 fun v64 => if v64 ≤ v54 then
          (cr1 (pX7_depotAt x2 (nI 1)) fun v76 => ld S 0 250 v76 fun v79 => pX7_fill_b80 ih14 x1 x2 x3 v32 v79 S)
        else
          (pX7_fill_b80 ih14 x1 x2 x3 v32 v54 S)))
def pX7_fill_l14  : Nat → Int32 → Int32 → Int32 → mM → Option mM
  | 0, _, _, _, _ => none
  | k + 1, x1, x2, x3, S => pX7_fill_lb14  (pX7_fill_l14  k) x1 x2 x3 S
def pX7_fill  (a2 : Int32) (S : mM) : Option mM :=
  cr1 (pX7_convoyAt a2 (nI 0)) fun v4 => ld S 0 250 v4 fun v7 => cr1 (pX7_depotOn v7 S) fun v8 => pX7_fill_l14 fuel a2 v8 (nI 0) S

def pX7_isShort  (a2 : Int32) (S : mM) : Option Int32 :=
  cr1 (pX7_carAt a2 (nI 3)) fun v3 => ld S 0 250 v3 fun v6 => cr1 (pX7_carAt a2 (nI 1)) fun v10 => ld S 0 250 v10 fun v13 => if v13 ≤ v6 then
    (gd (isZ (nI 0)) (some (nI 0)))
  else
    (gd (isZ (nI 1)) (some (nI 1)))

def pX7_drop_lb3  (ih3 : Int32 → Int32 → Int32 → mM → Option mM) (x1 : Int32) (x3 : Int32) (x4 : Int32) (S : mM) : Option mM :=
  if (x3 - (nI 1)) ≤ x4 then
      (some S)
    else
      (ld S 0 250 ((x1 + x4) + (nI 1)) fun v23 => st S 0 250 (x1 + x4) v23 fun S24 => vl (x4 + (nI 1)) fun v25 => ih3 x1 x3 v25 S24)
def pX7_drop_l3  : Nat → Int32 → Int32 → Int32 → mM → Option mM
  | 0, _, _, _, _ => none
  | k + 1, x1, x3, x4, S => pX7_drop_lb3  (pX7_drop_l3  k) x1 x3 x4 S
def pX7_drop  (a2 : Int32) (a3 : Int32) (a4 : Int32) (S : mM) : Option mM :=
  pX7_drop_l3 fuel a2 a4 a3 S

def pX7_sheds_b192 (b1 : Nat) (ih18 : Int32 → Int32 → Int32 → Int32 → mM → Option (Int32 × mM)) (x2 : Int32) (x3 : Int32) (x4 : Int32) (x5 : Int32) (x6 : Int32) (S : mM) : Option (Int32 × mM) :=
  if x5 = 0 then
      (vl (x4 + (nI 1)) fun v213 => ih18 x2 x3 v213 (nI 0) S)
    else
      (cr1 (pX7_isShort x6 (sB S b1)) fun v200 => if v200 = 0 then
        (vl (x4 + (nI 1)) fun v213 => ih18 x2 x3 v213 (nI 1) S)
      else
        (vl (x4 + (nI 1)) fun v213 => ih18 x2 x3 v213 (nI 0) S))
def pX7_sheds_b65 (b1 : Nat) (ih18 : Int32 → Int32 → Int32 → Int32 → mM → Option (Int32 × mM)) (x2 : Int32) (x3 : Int32) (x4 : Int32) (x5 : Int32) (x6 : Int32) (t0 : Int32) (S : mM) : Option (Int32 × mM) :=
  cr1 (pX7_isShort x6 (sB S b1)) fun v70 => if v70 = 0 then
      (pX7_sheds_b192 b1 ih18 x2 x3 x4 x5 x6 S)
    else
      (if t0 = 0 then
        (pX7_sheds_b192 b1 ih18 x2 x3 x4 x5 x6 S)
      else
        (cr1 (pX7_bayAt x3 (nI 2)) fun v87 => ld S b1 250 v87 fun v90 => cr1 (pX7_bayAt x3 ((nI 3) + v90)) fun v92 => st S b1 250 v92 x6 fun S97 => cr1 (pX7_bayAt x3 (nI 2)) fun v101 => ld S97 b1 250 v101 fun v105 => st S97 b1 250 v101 (v105 + (nI 1)) fun S108 => cr1 (pX7_carAt x6 (nI 4)) fun v113 => st S108 b1 250 v113 (nI 1) fun S117 => cr1 (pX7_carAt x6 (nI 5)) fun v122 => st S117 b1 250 v122 x3 fun S126 => cr1 (pX7_convoyAt x2 (nI 5)) fun v130 => cr1 (pX7_sizeOf x2 (sB S126 b1)) fun v137 => cvs S126 b1 1 (pX7_drop v130 x4 v137 (sB S126 b1)) fun S140 => cr1 (pX7_convoyAt x2 (nI 1)) fun v146 => ld S140 b1 250 v146 fun v150 => st S140 b1 250 v146 (v150 - (nI 1)) fun S153 => gf S153 0 12 fun v157 => if x2 = v157 then
          (gf S153 0 13 fun v164 => if v164 = (-9) then
            (pf S153 0 13 (((nI 100) * x3) + x6) fun S186 => ih18 x2 x3 x4 x5 S186)
          else
            (gf S153 0 13 fun v183 => pf S153 0 13 v183 fun S186 => ih18 x2 x3 x4 x5 S186))
        else
          (gf S153 0 13 fun v183 => pf S153 0 13 v183 fun S186 => ih18 x2 x3 x4 x5 S186)))
def pX7_sheds_b64 (b1 : Nat) (ih18 : Int32 → Int32 → Int32 → Int32 → mM → Option (Int32 × mM)) (x2 : Int32) (x3 : Int32) (x4 : Int32) (x5 : Int32) (x6 : Int32) (S : mM) : Option (Int32 × mM) :=
  pX7_sheds_b65 b1 ih18 x2 x3 x4 x5 x6 (nI 0) S
def pX7_sheds_lb18 (b1 : Nat) (ih18 : Int32 → Int32 → Int32 → Int32 → mM → Option (Int32 × mM)) (x2 : Int32) (x3 : Int32) (x4 : Int32) (x5 : Int32) (S : mM) : Option (Int32 × mM) :=
  cr1 (pX7_sizeOf x2 (sB S b1)) fun v22 => if v22 ≤ x4 then
      (if x5 = 0 then
        (gd (isZ (nI 0)) (some ((nI 0), S)))
      else
        (cr1 (pX7_sizeOf x2 (sB S b1)) fun v226 => if v226 ≤ 0 then
          (gd (isZ (nI 0)) (some ((nI 0), S)))
        else
          (gd (isZ (nI 1)) (some ((nI 1), S)))))
    else
      (cr1 (pX7_who x2 x4 (sB S b1)) fun v32 => if x3 = (-9) then
        (pX7_sheds_b64 b1 ih18 x2 x3 x4 x5 v32 S)
      else
        (cr1 (pX7_bayAt x3 (nI 2)) fun v46 => ld S b1 250 v46 fun v49 => cr1 (pX7_bayAt x3 (nI 1)) fun v53 => ld S b1 250 v53 fun v56 => if v56 ≤ v49 then
          (pX7_sheds_b64 b1 ih18 x2 x3 x4 x5 v32 S)
        else
          (pX7_sheds_b65 b1 ih18 x2 x3 x4 x5 v32 (nI 1) S)))
def pX7_sheds_l18 (b1 : Nat) : Nat → Int32 → Int32 → Int32 → Int32 → mM → Option (Int32 × mM)
  | 0, _, _, _, _, _ => none
  | k + 1, x2, x3, x4, x5, S => pX7_sheds_lb18 b1 (pX7_sheds_l18 b1 k) x2 x3 x4 x5 S
def pX7_sheds (b1 : Nat) (a2 : Int32) (S : mM) : Option (Int32 × mM) :=
  cr1 (pX7_convoyAt a2 (nI 0)) fun v4 => ld S b1 250 v4 fun v7 => cr1 (pX7_bayOn v7 (sB S b1)) fun v8 => pX7_sheds_l18 b1 fuel a2 v8 (nI 0) (nI 1) S

def pX7_burn_lb13  (ih13 : Int32 → Int32 → mM → Option mM) (x1 : Int32) (x2 : Int32) (S : mM) : Option mM :=
  cr1 (pX7_sizeOf x1 S) fun v16 => if v16 ≤ x2 then
      (some S)
    else
      (cr1 (pX7_who x1 x2 S) fun v25 => cr1 (pX7_carAt v25 (nI 3)) fun v32 => ld S 0 250 v32 fun v36 => cr1 (pX7_carAt v25 (nI 1)) fun v40 => ld S 0 250 v40 fun v43 => st S 0 250 v32 (v36 - v43) fun S45 => cr1 (pX7_carAt v25 (nI 6)) fun v50 => ld S45 0 250 v50 fun v54 => cr1 (pX7_carAt v25 (nI 1)) fun v58 => ld S45 0 250 v58 fun v61 => st S45 0 250 v50 (v54 + v61) fun S63 => ld S63 0 250 (nI 7) fun v68 => cr1 (pX7_carAt v25 (nI 1)) fun v72 => ld S63 0 250 v72 fun v75 => st S63 0 250 (nI 7) (v68 + v75) fun S77 => vl (x2 + (nI 1)) fun v78 => ih13 x1 v78 S77)
def pX7_burn_l13  : Nat → Int32 → Int32 → mM → Option mM
  | 0, _, _, _ => none
  | k + 1, x1, x2, S => pX7_burn_lb13  (pX7_burn_l13  k) x1 x2 S
def pX7_burn  (a2 : Int32) (S : mM) : Option mM :=
  cr1 (pX7_convoyAt a2 (nI 0)) fun v3 => ld S 0 250 v3 fun v7 => st S 0 250 v3 (v7 + (nI 1)) fun S10 => pX7_burn_l13 fuel a2 (nI 0) S10

def pX7_arrive_lb2  (ih2 : Int32 → Int32 → mM → Option mM) (x1 : Int32) (x2 : Int32) (S : mM) : Option mM :=
  cr1 (pX7_sizeOf x1 S) fun v5 => if v5 ≤ x2 then
      (cr1 (pX7_convoyAt x1 (nI 1)) fun v47 => st S 0 250 v47 (nI 0) fun S51 => some S51)
    else
      (cr1 (pX7_who x1 x2 S) fun v15 => cr1 (pX7_carAt v15 (nI 4)) fun v19 => st S 0 250 v19 (nI 2) fun S23 => cr1 (pX7_who x1 x2 S23) fun v28 => cr1 (pX7_carAt v28 (nI 5)) fun v32 => st S23 0 250 v32 (-9) fun S37 => vl (x2 + (nI 1)) fun v38 => ih2 x1 v38 S37)
def pX7_arrive_l2  : Nat → Int32 → Int32 → mM → Option mM
  | 0, _, _, _ => none
  | k + 1, x1, x2, S => pX7_arrive_lb2  (pX7_arrive_l2  k) x1 x2 S
def pX7_arrive  (a2 : Int32) (S : mM) : Option mM :=
  pX7_arrive_l2 fuel a2 (nI 0) S

def pX7_helps_b131  (x1 : Int32) (x2 : Int32) (x3 : Int32) (x4 : Int32) (t0 : Int32) (S : mM) : Option (Int32 × mM) :=
  cr1 (pX7_carAt x4 (nI 3)) fun v137 => ld S 0 250 v137 fun v141 => st S 0 250 v137 (v141 - t0) fun S145 => cr1 (pX7_carAt x3 (nI 3)) fun v149 => ld S145 0 250 v149 fun v153 => st S145 0 250 v149 (v153 + t0) fun S157 => cr1 (pX7_isShort x3 S157) fun v160 => if v160 = 0 then
      (cr1 (pX7_bayAt x2 (nI 3)) fun v171 => cr1 (pX7_bayAt x2 (nI 2)) fun v178 => ld S157 0 250 v178 fun v181 => cr1 (pX7_drop v171 (nI 0) v181 S157) fun S182 => cr1 (pX7_bayAt x2 (nI 2)) fun v188 => ld S182 0 250 v188 fun v192 => st S182 0 250 v188 (v192 - (nI 1)) fun S195 => cr1 (pX7_sizeOf x1 S195) fun v201 => cr1 (pX7_convoyAt x1 ((nI 5) + v201)) fun v205 => st S195 0 250 v205 x3 fun S209 => cr1 (pX7_convoyAt x1 (nI 1)) fun v213 => ld S209 0 250 v213 fun v217 => st S209 0 250 v213 (v217 + (nI 1)) fun S220 => cr1 (pX7_carAt x3 (nI 4)) fun v224 => st S220 0 250 v224 (nI 0) fun S228 => cr1 (pX7_carAt x3 (nI 5)) fun v232 => st S228 0 250 v232 x1 fun S236 => gd (isZ (nI 1)) (some ((nI 1), S236)))
    else
      (gd (isZ (nI 0)) (some ((nI 0), S157)))
def pX7_helps_b98  (x1 : Int32) (x2 : Int32) (x3 : Int32) (x4 : Int32) (t0 : Int32) (S : mM) : Option (Int32 × mM) :=
  cr1 (pX7_carAt x3 (nI 2)) fun v103 => ld S 0 250 v103 fun v106 => cr1 (pX7_carAt x3 (nI 3)) fun v110 => ld S 0 250 v110 fun v113 => vl (v106 - v113) fun v115 => if t0 ≤ v115 then
      (pX7_helps_b131  x1 x2 x3 x4 t0 S)
    else
      (pX7_helps_b131  x1 x2 x3 x4 v115 S)
def pX7_helps_lb19  (ih19 : Int32 → Int32 → Int32 → Int32 → Int32 → mM → Option (Int32 × mM)) (x1 : Int32) (x2 : Int32) (x3 : Int32) (x4 : Int32) (x5 : Int32) (S : mM) : Option (Int32 × mM) :=
  cr1 (pX7_sizeOf x1 S) fun v23 => if v23 ≤ x5 then
      (cr1 (pX7_carAt x4 (nI 3)) fun v76 => ld S 0 250 v76 fun v79 => vl (v79 / (nI 2)) fun v82 => if v82 ≤ (nI 10) then
        (pX7_helps_b98  x1 x2 x3 x4 v82 S)
      else
        (pX7_helps_b98  x1 x2 x3 x4 (nI 10) S))
    else
      (cr1 (pX7_who x1 x5 S) fun v33 => cr1 (pX7_carAt v33 (nI 3)) fun v42 => ld S 0 250 v42 fun v45 => cr1 (pX7_carAt x4 (nI 3)) fun v50 => ld S 0 250 v50 fun v53 => if v45 ≤ v53 then
        (vl (x5 + (nI 1)) fun v66 => ih19 x1 x2 x3 x4 v66 S)
      else
        (vl (x5 + (nI 1)) fun v66 => ih19 x1 x2 x3 v33 v66 S))
def pX7_helps_l19  : Nat → Int32 → Int32 → Int32 → Int32 → Int32 → mM → Option (Int32 × mM)
  | 0, _, _, _, _, _, _ => none
  | k + 1, x1, x2, x3, x4, x5, S => pX7_helps_lb19  (pX7_helps_l19  k) x1 x2 x3 x4 x5 S
def pX7_helps  (a2 : Int32) (a3 : Int32) (S : mM) : Option (Int32 × mM) :=
  cr1 (pX7_bayAt a3 (nI 3)) fun v3 => ld S 0 250 v3 fun v6 => cr1 (pX7_who a2 (nI 0) S) fun v11 => pX7_helps_l19 fuel a2 a3 v6 v11 (nI 1) S

def pX7_isBefore  (a2 : Int32) (a3 : Int32) (S : mM) : Option Int32 :=
  cr1 (pX7_carAt a2 (nI 0)) fun v3 => ld S 0 250 v3 fun v6 => cr1 (pX7_carAt a3 (nI 0)) fun v10 => ld S 0 250 v10 fun v13 => vl (v6 - v13) fun v15 => if v15 < 0 then
    (gd (isZ (nI 1)) (some (nI 1)))
  else
    (if v15 = 0 then
      (if a3 ≤ a2 then
        (gd (isZ (nI 0)) (some (nI 0)))
      else
        (gd (isZ (nI 1)) (some (nI 1))))
    else
      (gd (isZ (nI 0)) (some (nI 0))))

def pX7_order_lb20  (ih8 : Int32 → Int32 → Int32 → mM → Option mM) (ih20 : Int32 → Int32 → Int32 → Int32 → mM → Option mM) (x1 : Int32) (x2 : Int32) (x3 : Int32) (x4 : Int32) (S : mM) : Option mM :=
  if x4 ≤ 0 then
      (vl (x3 + (nI 1)) fun v84 => ih8 x1 x2 v84 S)
    else
      (ld S 0 250 (x2 + x4) fun v31 => ld S 0 250 ((x2 + x4) - (nI 1)) fun v39 => cr1 (pX7_isBefore v31 v39 S) fun v40 => if v40 = 0 then
        (vl (x3 + (nI 1)) fun v84 => ih8 x1 x2 v84 S)
      else
        (ld S 0 250 (x2 + x4) fun v51 => ld S 0 250 ((x2 + x4) - (nI 1)) fun v66 => st S 0 250 (x2 + x4) v66 fun S67 => st S67 0 250 ((x2 + x4) - (nI 1)) v51 fun S77 => vl (x4 + (-1)) fun v78 => ih20 x1 x2 x3 v78 S77))
def pX7_order_l20  (ih8 : Int32 → Int32 → Int32 → mM → Option mM) : Nat → Int32 → Int32 → Int32 → Int32 → mM → Option mM
  | 0, _, _, _, _, _ => none
  | k + 1, x1, x2, x3, x4, S => pX7_order_lb20 ih8 (pX7_order_l20 ih8 k) x1 x2 x3 x4 S
def pX7_order_lb8  (ih8 : Int32 → Int32 → Int32 → mM → Option mM) (x1 : Int32) (x2 : Int32) (x3 : Int32) (S : mM) : Option mM :=
  cr1 (pX7_sizeOf x1 S) fun v11 => if v11 ≤ x3 then
      (some S)
    else
      (pX7_order_l20 ih8 fuel x1 x2 x3 x3 S)
def pX7_order_l8  : Nat → Int32 → Int32 → Int32 → mM → Option mM
  | 0, _, _, _, _ => none
  | k + 1, x1, x2, x3, S => pX7_order_lb8  (pX7_order_l8  k) x1 x2 x3 S
def pX7_order  (a2 : Int32) (S : mM) : Option mM :=
  cr1 (pX7_convoyAt a2 (nI 5)) fun v2 => pX7_order_l8 fuel a2 v2 (nI 1) S

def pX7_rescue_b78  (x1 : Int32) (x3 : Int32) (S : mM) : Option mM :=
  if x3 = 0 then
      (some S)
    else
      (cr1 (pX7_order x1 S) fun S84 => some S84)
def pX7_rescue_lb27  (ih27 : Int32 → Int32 → Int32 → Int32 → mM → Option mM) (x1 : Int32) (x2 : Int32) (x3 : Int32) (x4 : Int32) (S : mM) : Option mM :=
  if x4 = 0 then
      (pX7_rescue_b78  x1 x3 S)
    else
      (cr1 (pX7_bayAt x2 (nI 2)) fun v35 => ld S 0 250 v35 fun v38 => if v38 ≤ 0 then
        (pX7_rescue_b78  x1 x3 S)
      else
        (cr1 (pX7_sizeOf x1 S) fun v44 => if (nI 8) ≤ v44 then
          (pX7_rescue_b78  x1 x3 S)
        else
          (cw2 (pX7_helps x1 x2 S) fun v55 S55 => if x3 = 0 then
            (if v55 = 0 then
              (ih27 x1 x2 (nI 0) v55 S55)
            else
              (ih27 x1 x2 (nI 1) v55 S55))
          else
            (ih27 x1 x2 (nI 1) v55 S55))))
def pX7_rescue_l27  : Nat → Int32 → Int32 → Int32 → Int32 → mM → Option mM
  | 0, _, _, _, _, _ => none
  | k + 1, x1, x2, x3, x4, S => pX7_rescue_lb27  (pX7_rescue_l27  k) x1 x2 x3 x4 S
def pX7_rescue  (a2 : Int32) (S : mM) : Option mM :=
  cr1 (pX7_convoyAt a2 (nI 0)) fun v4 => ld S 0 250 v4 fun v7 => cr1 (pX7_bayOn v7 S) fun v8 => if v8 = (-9) then
    (pX7_rescue_l27 fuel a2 v8 (nI 0) (nI 0) S)
  else
    (pX7_rescue_l27 fuel a2 v8 (nI 0) (nI 1) S)

def pX7_goConvoy_b85 (b1 : Nat) (ih36 : Int32 → Int32 → Int32 → mM → Option mM) (x2 : Int32) (x3 : Int32) (x4 : Int32) (S : mM) : Option mM :=
  cw2 (pX7_sheds b1 x2 S) fun v88 S88 => if v88 = 0 then
      (cr1 (pX7_convoyAt x2 (nI 4)) fun v97 => ld S88 b1 250 v97 fun v101 => st S88 b1 250 v97 (v101 + (nI 1)) fun S104 => some S104)
    else
      (cvs S88 b1 1 (pX7_burn x2 (sB S88 b1)) fun S108 => cr1 (pX7_isThere x2 (sB S108 b1)) fun v113 => if v113 = 0 then
        (cvs S108 b1 1 (pX7_rescue x2 (sB S108 b1)) fun S127 => vl (x4 + (nI 1)) fun v130 => ih36 x2 x3 v130 S127)
      else
        (cvs S108 b1 1 (pX7_arrive x2 (sB S108 b1)) fun S121 => some S121))
def pX7_goConvoy_lb36 (b1 : Nat) (ih36 : Int32 → Int32 → Int32 → mM → Option mM) (x2 : Int32) (x3 : Int32) (x4 : Int32) (S : mM) : Option mM :=
  if x3 ≤ x4 then
      (some S)
    else
      (cr1 (pX7_convoyAt x2 (nI 0)) fun v46 => ld S b1 250 v46 fun v49 => cr1 (pX7_gateOn (v49 + (nI 1)) (sB S b1)) fun v52 => if v52 = (-9) then
        (pX7_goConvoy_b85 b1 ih36 x2 x3 x4 S)
      else
        (cr1 (pX7_isClosed v52 (sB S b1)) fun v67 => if v67 = 0 then
          (pX7_goConvoy_b85 b1 ih36 x2 x3 x4 S)
        else
          (cr1 (pX7_convoyAt x2 (nI 3)) fun v76 => ld S b1 250 v76 fun v80 => st S b1 250 v76 (v80 + (nI 1)) fun S83 => some S83)))
def pX7_goConvoy_l36 (b1 : Nat) : Nat → Int32 → Int32 → Int32 → mM → Option mM
  | 0, _, _, _, _ => none
  | k + 1, x2, x3, x4, S => pX7_goConvoy_lb36 b1 (pX7_goConvoy_l36 b1 k) x2 x3 x4 S
def pX7_goConvoy (b1 : Nat) (a2 : Int32) (S : mM) : Option mM :=
  cr1 (pX7_convoyAt a2 (nI 2)) fun v3 => ld S b1 250 v3 fun v6 => if v6 ≤ 0 then
    (cvs S b1 1 (pX7_fill a2 (sB S b1)) fun S24 => cr1 (pX7_slowest a2 (sB S24 b1)) fun v29 => pX7_goConvoy_l36 b1 fuel a2 v29 (nI 0) S24)
  else
    (cr1 (pX7_convoyAt a2 (nI 2)) fun v13 => ld S b1 250 v13 fun v17 => st S b1 250 v13 (v17 - (nI 1)) fun S20 => some S20)

def pX7_goHour_lb2 (b1 : Nat) (ih2 : Int32 → mM → Option mM) (x2 : Int32) (S : mM) : Option mM :=
  ld S b1 250 (nI 5) fun v5 => if v5 ≤ x2 then
      (ld S b1 250 (nI 1) fun v40 => st S b1 250 (nI 1) (v40 + (nI 1)) fun S43 => some S43)
    else
      (cr1 (pX7_sizeOf x2 (sB S b1)) fun v11 => if v11 ≤ 0 then
        (vl (x2 + (nI 1)) fun v31 => ih2 v31 S)
      else
        (cr1 (pX7_isThere x2 (sB S b1)) fun v19 => if v19 = 0 then
          (cr1 (pX7_goConvoy b1 x2 S) fun S28 => vl (x2 + (nI 1)) fun v31 => ih2 v31 S28)
        else
          (vl (x2 + (nI 1)) fun v31 => ih2 v31 S)))
def pX7_goHour_l2 (b1 : Nat) : Nat → Int32 → mM → Option mM
  | 0, _, _ => none
  | k + 1, x2, S => pX7_goHour_lb2 b1 (pX7_goHour_l2 b1 k) x2 S
def pX7_goHour (b1 : Nat)  (S : mM) : Option mM :=
  pX7_goHour_l2 b1 fuel (nI 0) S

def pX7_countAt_lb4  (ih4 : Int32 → Int32 → Int32 → Option Int32) (S : mM) (x1 : Int32) (x2 : Int32) (x3 : Int32) : Option Int32 :=
  ld S 0 250 (nI 6) fun v8 => if v8 ≤ x3 then
      (some x2)
    else
      (cr1 (pX7_carAt x3 (nI 4)) fun v16 => ld S 0 250 v16 fun v19 => if v19 = x1 then
        (vl (x2 + (nI 1)) fun v30 => vl (x3 + (nI 1)) fun v31 => ih4 x1 v30 v31)
      else
        (vl (x2 + (nI 0)) fun v30 => vl (x3 + (nI 1)) fun v31 => ih4 x1 v30 v31))
def pX7_countAt_l4  (S : mM) : Nat → Int32 → Int32 → Int32 → Option Int32
  | 0, _, _, _ => none
  | k + 1, x1, x2, x3 => pX7_countAt_lb4  (pX7_countAt_l4  S k) S x1 x2 x3
def pX7_countAt  (a2 : Int32) (S : mM) : Option Int32 :=
  pX7_countAt_l4 S fuel a2 (nI 0) (nI 0)

def pX7_goHours_lb9 (b1 : Nat) (ih9 : Int32 → Int32 → Int32 → mM → Option (Int32 × mM)) (x2 : Int32) (x3 : Int32) (x4 : Int32) (S : mM) : Option (Int32 × mM) :=
  if x2 ≤ x4 then
      (cr1 (pX7_countAt (nI 2) (sB S b1)) fun v28 => some ((v28 - x3), S))
    else
      (cr1 (pX7_goHour b1 S) fun S17 => vl (x4 + (nI 1)) fun v20 => ih9 x2 x3 v20 S17)
def pX7_goHours_l9 (b1 : Nat) : Nat → Int32 → Int32 → Int32 → mM → Option (Int32 × mM)
  | 0, _, _, _, _ => none
  | k + 1, x2, x3, x4, S => pX7_goHours_lb9 b1 (pX7_goHours_l9 b1 k) x2 x3 x4 S
def pX7_goHours (b1 : Nat) (a2 : Int32) (S : mM) : Option (Int32 × mM) :=
  cr1 (pX7_countAt (nI 2) (sB S b1)) fun v2 => pX7_goHours_l9 b1 fuel a2 v2 (nI 0) S

def pX7_addGateTo  (a2 : Int32) (a3 : Int32) (a4 : Int32) (a5 : Int32) (S : mM) : Option mM :=
  ld S 0 250 (nI 2) fun v2 => cr1 (pX7_gateAt v2 (nI 0)) fun v9 => st S 0 250 v9 a2 fun S13 => cr1 (pX7_gateAt v2 (nI 1)) fun v18 => st S13 0 250 v18 a3 fun S22 => cr1 (pX7_gateAt v2 (nI 2)) fun v27 => st S22 0 250 v27 a4 fun S31 => cr1 (pX7_gateAt v2 (nI 3)) fun v36 => st S31 0 250 v36 a5 fun S41 => ld S41 0 250 (nI 2) fun v45 => st S41 0 250 (nI 2) (v45 + (nI 1)) fun S48 => some S48

def pX7_addBayTo  (a2 : Int32) (a3 : Int32) (S : mM) : Option mM :=
  ld S 0 250 (nI 3) fun v2 => cr1 (pX7_bayAt v2 (nI 0)) fun v7 => st S 0 250 v7 a2 fun S11 => cr1 (pX7_bayAt v2 (nI 1)) fun v15 => st S11 0 250 v15 a3 fun S19 => cr1 (pX7_bayAt v2 (nI 2)) fun v23 => st S19 0 250 v23 (nI 0) fun S27 => ld S27 0 250 (nI 3) fun v31 => st S27 0 250 (nI 3) (v31 + (nI 1)) fun S34 => some S34

def pX7_addDepotTo  (a2 : Int32) (a3 : Int32) (S : mM) : Option mM :=
  ld S 0 250 (nI 4) fun v2 => cr1 (pX7_depotAt v2 (nI 0)) fun v7 => st S 0 250 v7 a2 fun S11 => cr1 (pX7_depotAt v2 (nI 1)) fun v15 => st S11 0 250 v15 a3 fun S19 => ld S19 0 250 (nI 4) fun v23 => st S19 0 250 (nI 4) (v23 + (nI 1)) fun S26 => some S26

def pX7_addConvoyTo_lb2  (ih2 : Int32 → mM → Option mM) (x1 : Int32) (S : mM) : Option mM :=
  if (nI 13) ≤ x1 then
      (ld S 0 250 (nI 5) fun v27 => st S 0 250 (nI 5) (v27 + (nI 1)) fun S30 => some S30)
    else
      (ld S 0 250 (nI 5) fun v11 => cr1 (pX7_convoyAt v11 x1) fun v13 => st S 0 250 v13 (nI 0) fun S17 => vl (x1 + (nI 1)) fun v18 => ih2 v18 S17)
def pX7_addConvoyTo_l2  : Nat → Int32 → mM → Option mM
  | 0, _, _ => none
  | k + 1, x1, S => pX7_addConvoyTo_lb2  (pX7_addConvoyTo_l2  k) x1 S
def pX7_addConvoyTo   (S : mM) : Option mM :=
  pX7_addConvoyTo_l2 fuel (nI 0) S

def pX7_addCarTo  (a2 : Int32) (a3 : Int32) (a4 : Int32) (a5 : Int32) (a6 : Int32) (S : mM) : Option mM :=
  ld S 0 250 (nI 6) fun v3 => cr1 (pX7_carAt v3 (nI 0)) fun v10 => st S 0 250 v10 a3 fun S14 => cr1 (pX7_carAt v3 (nI 1)) fun v19 => st S14 0 250 v19 a4 fun S23 => cr1 (pX7_carAt v3 (nI 2)) fun v28 => st S23 0 250 v28 a5 fun S33 => cr1 (pX7_carAt v3 (nI 3)) fun v38 => st S33 0 250 v38 a6 fun S43 => cr1 (pX7_carAt v3 (nI 4)) fun v48 => st S43 0 250 v48 (nI 0) fun S52 => cr1 (pX7_carAt v3 (nI 5)) fun v57 => st S52 0 250 v57 a2 fun S61 => cr1 (pX7_carAt v3 (nI 6)) fun v67 => st S61 0 250 v67 (nI 0) fun S71 => cr1 (pX7_sizeOf a2 S71) fun v77 => cr1 (pX7_convoyAt a2 ((nI 5) + v77)) fun v81 => st S71 0 250 v81 v3 fun S86 => cr1 (pX7_convoyAt a2 (nI 1)) fun v90 => ld S86 0 250 v90 fun v94 => st S86 0 250 v90 (v94 + (nI 1)) fun S97 => ld S97 0 250 (nI 6) fun v102 => st S97 0 250 (nI 6) (v102 + (nI 1)) fun S105 => some S105

def pX7_append_b32  (x1 : Int32) (t1 : Int32) (S : mM) : Option (Int32 × mM) :=
  cw2 (pX7_refused t1 S) fun v32 S32 => if v32 = 0 then
      (gf S32 0 2 fun v45 => st S32 1 140 v45 x1 fun S49 => gf S49 0 2 fun v52 => pf S49 0 2 (v52 + (nI 1)) fun S57 => gf S57 0 2 fun v61 => some (v61, S57))
    else
      (some ((nI 0), S32))
def pX7_append  (a1 : Int32) (S : mM) : Option (Int32 × mM) :=
  cr1 (pX7_in (a1.toInt64) (lN 0) (lN 255)) fun v7 => if v7 = 0 then
    (pX7_append_b32  a1 (nI 1) S)
  else
    (gf S 0 2 fun v18 => if v18 = (nI 140) then
      (pX7_append_b32  a1 (nI 2) S)
    else
      (pX7_append_b32  a1 (nI 0) S))

def pX7_clearText   (S : mM) : Option (Int32 × mM) :=
  pf S 0 0 (nI 0) fun S2 => gf S2 0 2 fun v6 => pf S2 0 2 (nI 0) fun S12 => some (v6, S12)

def pX7_isNext  (a1 : Int32) (S : mM) : Option Int32 :=
  gf S 0 3 fun v1 => gf S 0 2 fun v5 => if v5 ≤ v1 then
    (gd (isZ (nI 0)) (some (nI 0)))
  else
    (gf S 0 3 fun v16 => ld S 1 140 v16 fun v19 => if v19 = a1 then
      (gd (isZ (nI 1)) (some (nI 1)))
    else
      (gd (isZ (nI 0)) (some (nI 0))))

def pX7_accept_b17  (t1 : Int32) (S : mM) : Option mM :=
  pz S 0 4 t1 fun S17 => gf S17 0 3 fun v22 => gf S17 0 4 fun v26 => if v26 = 0 then
      (pf S17 0 3 (v22 + (nI 0)) fun S38 => some S38)
    else
      (pf S17 0 3 (v22 + (nI 1)) fun S38 => some S38)
def pX7_accept_b16  (S : mM) : Option mM :=
  pX7_accept_b17  (nI 0) S
def pX7_accept  (a1 : Int32) (S : mM) : Option mM :=
  gf S 0 4 fun v2 => if v2 = 0 then
    (pX7_accept_b16  S)
  else
    (if a1 = 0 then
      (pX7_accept_b16  S)
    else
      (pX7_accept_b17  (nI 1) S))

def pX7_digit_b59  (x1 : Int32) (x3 : Int32) (t1 : Int32) (S : mM) : Option (Int32 × mM) :=
  cr1 (pX7_accept t1 S) fun S59 => gf S59 0 4 fun v63 => if v63 = 0 then
      (some (x1, S59))
    else
      (some (x3, S59))
def pX7_digit_b58  (x1 : Int32) (x3 : Int32) (S : mM) : Option (Int32 × mM) :=
  pX7_digit_b59  x1 x3 (nI 0) S
def pX7_digit_b28  (x1 : Int32) (x2 : Int32) (t0 : Int32) (S : mM) : Option (Int32 × mM) :=
  cr1 (pX7_in (t0.toInt64) (lN 0) (lN 9)) fun v36 => if v36 = 0 then
      (pX7_digit_b58  x1 t0 S)
    else
      (cr1 (pX7_in (t0.toInt64) (x1.toInt64) (x2.toInt64)) fun v48 => if v48 = 0 then
        (pX7_digit_b58  x1 t0 S)
      else
        (pX7_digit_b59  x1 t0 (nI 1) S))
def pX7_digit  (a1 : Int32) (a2 : Int32) (S : mM) : Option (Int32 × mM) :=
  gf S 0 3 fun v1 => gf S 0 2 fun v5 => if v5 ≤ v1 then
    (pX7_digit_b28  a1 a2 (-9) S)
  else
    (gf S 0 3 fun v16 => ld S 1 140 v16 fun v19 => pX7_digit_b28  a1 a2 (v19 - (nI 48)) S)

def pX7_two_b59  (t0 : Int32) (t2 : Int32) (t3 : Int32) (S : mM) : Option (Int32 × mM) :=
  cw2 (pX7_digit t2 t3 S) fun v59 S59 => some ((t0 + v59), S59)
def pX7_two_b45  (x5 : Int32) (t0 : Int32) (t2 : Int32) (S : mM) : Option (Int32 × mM) :=
  if x5 ≤ (nI 9) then
      (pX7_two_b59  t0 t2 x5 S)
    else
      (pX7_two_b59  t0 t2 (nI 9) S)
def pX7_two  (a1 : Int32) (a2 : Int32) (S : mM) : Option (Int32 × mM) :=
  cw2 (pX7_digit (a1 / (nI 10)) (a2 / (nI 10)) S) fun v9 S9 => vl (a1 - ((nI 10) * v9)) fun v19 => vl (a2 - ((nI 10) * v9)) fun v27 => if 0 ≤ v19 then
    (pX7_two_b45  v27 ((nI 10) * v9) v19 S9)
  else
    (pX7_two_b45  v27 ((nI 10) * v9) (nI 0) S9)

def pX7_demand  (a1 : Int32) (S : mM) : Option mM :=
  gf S 0 4 fun v1 => if v1 = 0 then
    (some S)
  else
    (if a1 = 0 then
      (pz S 0 4 (nI 0) fun S13 => gf S13 0 3 fun v18 => pf S13 0 3 (v18 - (nI 1)) fun S23 => some S23)
    else
      (some S))

def pX7_readGate_b52  (x1 : Int32) (t1 : Int32) (S : mM) : Option mM :=
  cr1 (pX7_demand t1 S) fun S52 => cw2 (pX7_two (nI 2) (nI 24) S52) fun v59 S59 => cw2 (pX7_two (nI 0) (v59 - (nI 1)) S59) fun v68 S68 => cw2 (pX7_two (nI 0) (v59 - (nI 1)) S68) fun v77 S77 => gf S77 0 4 fun v83 => if v83 = 0 then
      (some S77)
    else
      (cvs S77 2 1 (pX7_addGateTo x1 v59 v68 v77 (sB S77 2)) fun S98 => some S98)
def pX7_readGate_b16  (t1 : Int32) (S : mM) : Option mM :=
  cr1 (pX7_accept t1 S) fun S16 => ld S16 2 250 (nI 0) fun v26 => cw2 (pX7_two (nI 1) (v26 - (nI 1)) S16) fun v29 S29 => cr1 (pX7_gateOn v29 (sB S29 2)) fun v39 => if v39 = (-9) then
      (pX7_readGate_b52  v29 (nI 1) S29)
    else
      (pX7_readGate_b52  v29 (nI 0) S29)
def pX7_readGate   (S : mM) : Option mM :=
  ld S 2 250 (nI 2) fun v6 => if (nI 4) ≤ v6 then
    (pX7_readGate_b16  (nI 0) S)
  else
    (pX7_readGate_b16  (nI 1) S)

def pX7_readBay_b53  (x1 : Int32) (t1 : Int32) (S : mM) : Option mM :=
  cr1 (pX7_demand t1 S) fun S53 => cw2 (pX7_digit (nI 1) (nI 6) S53) fun v60 S60 => gf S60 0 4 fun v65 => if v65 = 0 then
      (some S60)
    else
      (cvs S60 2 1 (pX7_addBayTo x1 v60 (sB S60 2)) fun S77 => some S77)
def pX7_readBay_b17  (t1 : Int32) (S : mM) : Option mM :=
  cr1 (pX7_accept t1 S) fun S17 => ld S17 2 250 (nI 0) fun v27 => cw2 (pX7_two (nI 1) (v27 - (nI 1)) S17) fun v30 S30 => cr1 (pX7_bayOn v30 (sB S30 2)) fun v40 => if v40 = (-9) then
      (pX7_readBay_b53  v30 (nI 1) S30)
    else
      (pX7_readBay_b53  v30 (nI 0) S30)
def pX7_readBay   (S : mM) : Option mM :=
  ld S 2 250 (nI 3) fun v6 => if (nI 6) ≤ v6 then
    (pX7_readBay_b17  (nI 0) S)
  else
    (pX7_readBay_b17  (nI 1) S)

def pX7_readDepot_b50  (x1 : Int32) (t1 : Int32) (S : mM) : Option mM :=
  cr1 (pX7_demand t1 S) fun S50 => cw2 (pX7_digit (nI 0) (nI 9) S50) fun v57 S57 => cw2 (pX7_two (nI 0) (nI 99) S57) fun v69 S69 => vl (((nI 100) * v57) + v69) fun v73 => gf S69 0 4 fun v75 => if v75 = 0 then
      (some S69)
    else
      (cvs S69 2 1 (pX7_addDepotTo x1 v73 (sB S69 2)) fun S87 => some S87)
def pX7_readDepot_b16  (t1 : Int32) (S : mM) : Option mM :=
  cr1 (pX7_accept t1 S) fun S16 => ld S16 2 250 (nI 0) fun v26 => cw2 (pX7_two (nI 0) v26 S16) fun v27 S27 => cr1 (pX7_depotOn v27 (sB S27 2)) fun v37 => if v37 = (-9) then
      (pX7_readDepot_b50  v27 (nI 1) S27)
    else
      (pX7_readDepot_b50  v27 (nI 0) S27)
def pX7_readDepot   (S : mM) : Option mM :=
  ld S 2 250 (nI 4) fun v6 => if (nI 4) ≤ v6 then
    (pX7_readDepot_b16  (nI 0) S)
  else
    (pX7_readDepot_b16  (nI 1) S)

def pX7_readCar_b61  (x1 : Int32) (t1 : Int32) (S : mM) : Option mM :=
  cr1 (pX7_accept t1 S) fun S61 => cw2 (pX7_digit (nI 1) (nI 9) S61) fun v68 S68 => cw2 (pX7_digit (nI 1) (nI 4) S68) fun v75 S75 => cw2 (pX7_two (nI 20) (nI 99) S75) fun v84 S84 => cw2 (pX7_two (nI 0) v84 S84) fun v93 S93 => gf S93 0 4 fun v99 => if v99 = 0 then
      (some S93)
    else
      (cvs S93 2 1 (pX7_addCarTo x1 v68 v75 v84 v93 (sB S93 2)) fun S116 => some S116)
def pX7_readCar_b60  (x1 : Int32) (S : mM) : Option mM :=
  pX7_readCar_b61  x1 (nI 0) S
def pX7_readCar_b48  (x1 : Int32) (t2 : Int32) (S : mM) : Option mM :=
  cr1 (pX7_sizeOf t2 (sB S 2)) fun v48 => if (nI 8) ≤ v48 then
      (pX7_readCar_b60  x1 S)
    else
      (pX7_readCar_b61  x1 (nI 1) S)
def pX7_readCar   (S : mM) : Option mM :=
  ld S 2 250 (nI 5) fun v5 => vl (v5 - (nI 1)) fun v8 => cr1 (pX7_isNext (nI 118) S) fun v13 => if v13 = 0 then
    (pX7_readCar_b60  v8 S)
  else
    (if v8 < 0 then
      (pX7_readCar_b60  v8 S)
    else
      (ld S 2 250 (nI 6) fun v29 => if (nI 16) ≤ v29 then
        (pX7_readCar_b60  v8 S)
      else
        (if 0 ≤ v8 then
          (pX7_readCar_b48  v8 v8 S)
        else
          (pX7_readCar_b48  v8 (nI 0) S))))

def pX7_readText_b147  (ih56 : mM → Option (Int32 × mM)) (t1 : Int32) (S : mM) : Option (Int32 × mM) :=
  cr1 (pX7_accept t1 S) fun S147 => gf S147 0 4 fun v151 => if v151 = 0 then
      (ih56 S147)
    else
      (cvs S147 2 1 (pX7_addConvoyTo (sB S147 2)) fun S161 => ih56 S161)
def pX7_readText_b174  (S : mM) : Option (Int32 × mM) :=
  gf S 0 4 fun v175 => if v175 = 0 then
      (gf S 0 3 fun v187 => some (v187, S))
    else
      (some ((-9), S))
def pX7_readText_lb56  (ih56 : mM → Option (Int32 × mM)) (S : mM) : Option (Int32 × mM) :=
  gf S 0 4 fun v57 => if v57 = 0 then
      (pX7_readText_b174  S)
    else
      (gf S 0 3 fun v64 => gf S 0 2 fun v68 => if v68 ≤ v64 then
        (pX7_readText_b174  S)
      else
        (cr1 (pX7_isNext (nI 103) S) fun v77 => if v77 = 0 then
          (cr1 (pX7_isNext (nI 98) S) fun v93 => if v93 = 0 then
            (cr1 (pX7_isNext (nI 100) S) fun v109 => if v109 = 0 then
              (cr1 (pX7_isNext (nI 99) S) fun v125 => if v125 = 0 then
                (cr1 (pX7_readCar S) fun S168 => ih56 S168)
              else
                (ld S 2 250 (nI 5) fun v137 => if (nI 4) ≤ v137 then
                  (pX7_readText_b147 ih56 (nI 0) S)
                else
                  (pX7_readText_b147 ih56 (nI 1) S)))
            else
              (cr1 (pX7_readDepot S) fun S116 => ih56 S116))
          else
            (cr1 (pX7_readBay S) fun S100 => ih56 S100))
        else
          (cr1 (pX7_readGate S) fun S84 => ih56 S84)))
def pX7_readText_l56  : Nat → mM → Option (Int32 × mM)
  | 0, _ => none
  | k + 1, S => pX7_readText_lb56  (pX7_readText_l56  k) S
def pX7_readText_lb12  (ih12 : Int32 → mM → Option (Int32 × mM)) (x1 : Int32) (S : mM) : Option (Int32 × mM) :=
  if (nI 250) ≤ x1 then
      (cr1 (pX7_isNext (nI 87) S) fun v36 => cr1 (pX7_accept v36 S) fun S39 => cw2 (pX7_two (nI 10) (nI 60) S39) fun v52 S52 => st S52 2 250 (nI 0) v52 fun S55 => pX7_readText_l56 fuel S55)
    else
      (st S 2 250 x1 (nI 0) fun S25 => vl (x1 + (nI 1)) fun v26 => ih12 v26 S25)
def pX7_readText_l12  : Nat → Int32 → mM → Option (Int32 × mM)
  | 0, _, _ => none
  | k + 1, x1, S => pX7_readText_lb12  (pX7_readText_l12  k) x1 S
def pX7_readText   (S : mM) : Option (Int32 × mM) :=
  pf S 0 3 (nI 0) fun S2 => pz S2 0 4 (nI 1) fun S7 => pX7_readText_l12 fuel (nI 0) S7

def pX7_errorPosition   (S : mM) : Option (Int32 × mM) :=
  pf S 0 0 (nI 0) fun S2 => cw2 (pX7_readText S2) fun v6 S6 => some (v6, S6)

def pX7_load_b15  (t1 : Int32) (S : mM) : Option (Int32 × mM) :=
  cw2 (pX7_refused t1 S) fun v15 S15 => if v15 = 0 then
      (cr1 (pX7_copy 2 250 3 250 (nI 0) (nI 0) (nI 250) S15) fun S36 => pf S36 0 9 (nI 0) fun S41 => st S41 7 2 (nI 0) (vp_nar .boolean (nI 0)) fun S50 => st S50 7 2 (nI 1) (vp_nar .boolean (nI 0)) fun S57 => ld S57 3 250 (nI 6) fun v64 => some (v64, S57))
    else
      (some ((nI 0), S15))
def pX7_load   (S : mM) : Option (Int32 × mM) :=
  cw2 (pX7_readText S) fun v2 S2 => if v2 = (-9) then
    (pX7_load_b15  (nI 0) S2)
  else
    (pX7_load_b15  (nI 1) S2)

def pX7_tanks_lb4  (ih4 : Int32 → Int32 → Option Int32) (S : mM) (x1 : Int32) (x2 : Int32) : Option Int32 :=
  ld S 0 250 (nI 6) fun v8 => if v8 ≤ x2 then
      (some x1)
    else
      (cr1 (pX7_carAt x2 (nI 3)) fun v16 => ld S 0 250 v16 fun v19 => vl (x1 + v19) fun v21 => vl (x2 + (nI 1)) fun v22 => ih4 v21 v22)
def pX7_tanks_l4  (S : mM) : Nat → Int32 → Int32 → Option Int32
  | 0, _, _ => none
  | k + 1, x1, x2 => pX7_tanks_lb4  (pX7_tanks_l4  S k) S x1 x2
def pX7_tanks   (S : mM) : Option Int32 :=
  pX7_tanks_l4 S fuel (nI 0) (nI 0)

def pX7_depots_lb4  (ih4 : Int32 → Int32 → Option Int32) (S : mM) (x1 : Int32) (x2 : Int32) : Option Int32 :=
  ld S 0 250 (nI 4) fun v7 => if v7 ≤ x2 then
      (some x1)
    else
      (cr1 (pX7_depotAt x2 (nI 1)) fun v15 => ld S 0 250 v15 fun v18 => vl (x1 + v18) fun v20 => vl (x2 + (nI 1)) fun v21 => ih4 v20 v21)
def pX7_depots_l4  (S : mM) : Nat → Int32 → Int32 → Option Int32
  | 0, _, _ => none
  | k + 1, x1, x2 => pX7_depots_lb4  (pX7_depots_l4  S k) S x1 x2
def pX7_depots   (S : mM) : Option Int32 :=
  pX7_depots_l4 S fuel (nI 0) (nI 0)

def pX7_about_b18  (x1 : Int32) (t1 : Int32) (S : mM) : Option (Int32 × mM) :=
  cw2 (pX7_refused t1 S) fun v18 S18 => if v18 = 0 then
      (if x1 = (nI 7) then
        (cr1 (pX7_countAt (nI 2) (sB S18 3)) fun v65 => some (v65, S18))
      else if x1 = (nI 8) then
        (cr1 (pX7_countAt (nI 1) (sB S18 3)) fun v74 => some (v74, S18))
      else if x1 = (nI 9) then
        (cr1 (pX7_tanks (sB S18 3)) fun v82 => some (v82, S18))
      else if x1 = (nI 10) then
        (cr1 (pX7_depots (sB S18 3)) fun v90 => some (v90, S18))
      else if x1 = (nI 11) then
        (ld S18 3 250 (nI 7) fun v100 => some (v100, S18))
      else (ld S18 3 250 x1 fun v107 => some (v107, S18)))
    else
      (some ((nI 0), S18))
def pX7_about  (a1 : Int32) (S : mM) : Option (Int32 × mM) :=
  cr1 (pX7_in (a1.toInt64) (lN 0) (lN 11)) fun v7 => if v7 = 0 then
    (pX7_about_b18  a1 (nI 1) S)
  else
    (pX7_about_b18  a1 (nI 0) S)

def pX7_isConvoy  (a1 : Int32) (S : mM) : Option Int32 :=
  ld S 3 250 (nI 5) fun v8 => cr1 (pX7_in (a1.toInt64) (lN 0) ((v8 - (nI 1)).toInt64)) fun v12 => gd (isZ v12) (some v12)

def pX7_litersOf_lb4  (ih4 : Int32 → Int32 → Int32 → Option Int32) (S : mM) (x1 : Int32) (x2 : Int32) (x3 : Int32) : Option Int32 :=
  cr1 (pX7_sizeOf x1 S) fun v7 => if v7 ≤ x3 then
      (some x2)
    else
      (cr1 (pX7_who x1 x3 S) fun v18 => cr1 (pX7_carAt v18 (nI 3)) fun v22 => ld S 0 250 v22 fun v25 => vl (x2 + v25) fun v27 => vl (x3 + (nI 1)) fun v28 => ih4 x1 v27 v28)
def pX7_litersOf_l4  (S : mM) : Nat → Int32 → Int32 → Int32 → Option Int32
  | 0, _, _, _ => none
  | k + 1, x1, x2, x3 => pX7_litersOf_lb4  (pX7_litersOf_l4  S k) S x1 x2 x3
def pX7_litersOf  (a2 : Int32) (S : mM) : Option Int32 :=
  pX7_litersOf_l4 S fuel a2 (nI 0) (nI 0)

def pX7_convoy_b30  (x1 : Int32) (x2 : Int32) (t1 : Int32) (S : mM) : Option (Int32 × mM) :=
  cw2 (pX7_refused t1 S) fun v30 S30 => if v30 = 0 then
      (if x2 = (nI 0) then
        (cr1 (pX7_convoyAt x1 x2) fun v90 => ld S30 3 250 v90 fun v93 => some (v93, S30))
      else if x2 = (nI 1) then
        (cr1 (pX7_convoyAt x1 x2) fun v90 => ld S30 3 250 v90 fun v93 => some (v93, S30))
      else if x2 = (nI 2) then
        (cr1 (pX7_slowest x1 (sB S30 3)) fun v100 => some (v100, S30))
      else if x2 = (nI 3) then
        (cr1 (pX7_convoyAt x1 (x2 - (nI 1))) fun v138 => ld S30 3 250 v138 fun v141 => some (v141, S30))
      else if x2 = (nI 4) then
        (cr1 (pX7_convoyAt x1 (x2 - (nI 1))) fun v138 => ld S30 3 250 v138 fun v141 => some (v141, S30))
      else if x2 = (nI 5) then
        (cr1 (pX7_convoyAt x1 (x2 - (nI 1))) fun v138 => ld S30 3 250 v138 fun v141 => some (v141, S30))
      else if x2 = (nI 6) then
        (cr1 (pX7_litersOf x1 (sB S30 3)) fun v109 => some (v109, S30))
      else if x2 = (nI 7) then
        (cr1 (pX7_isThere x1 (sB S30 3)) fun v118 => if v118 = 0 then
          (some ((nI 0), S30))
        else
          (some ((nI 1), S30)))
      else (cr1 (pX7_convoyAt x1 (x2 - (nI 1))) fun v138 => ld S30 3 250 v138 fun v141 => some (v141, S30)))
    else
      (some ((nI 0), S30))
def pX7_convoy  (a1 : Int32) (a2 : Int32) (S : mM) : Option (Int32 × mM) :=
  cr1 (pX7_isConvoy a1 S) fun v3 => if v3 = 0 then
    (pX7_convoy_b30  a1 a2 (nI 1) S)
  else
    (cr1 (pX7_in (a2.toInt64) (lN 0) (lN 7)) fun v19 => if v19 = 0 then
      (pX7_convoy_b30  a1 a2 (nI 2) S)
    else
      (pX7_convoy_b30  a1 a2 (nI 0) S))

def pX7_member_b22  (x1 : Int32) (x2 : Int32) (t1 : Int32) (S : mM) : Option (Int32 × mM) :=
  cw2 (pX7_refused t1 S) fun v22 S22 => if v22 = 0 then
      (cr1 (pX7_sizeOf x1 (sB S22 3)) fun v36 => if v36 ≤ x2 then
        (some ((-9), S22))
      else
        (cr1 (pX7_who x1 x2 (sB S22 3)) fun v48 => some (v48, S22)))
    else
      (some ((nI 0), S22))
def pX7_member  (a1 : Int32) (a2 : Int32) (S : mM) : Option (Int32 × mM) :=
  cr1 (pX7_isConvoy a1 S) fun v3 => if v3 = 0 then
    (pX7_member_b22  a1 a2 (nI 1) S)
  else
    (if 0 ≤ a2 then
      (pX7_member_b22  a1 a2 (nI 0) S)
    else
      (pX7_member_b22  a1 a2 (nI 2) S))

def pX7_vehicle_b41  (x1 : Int32) (x2 : Int32) (t1 : Int32) (S : mM) : Option (Int32 × mM) :=
  cw2 (pX7_refused t1 S) fun v41 S41 => if v41 = 0 then
      (cr1 (pX7_carAt x1 x2) fun v55 => ld S41 3 250 v55 fun v58 => some (v58, S41))
    else
      (some ((nI 0), S41))
def pX7_vehicle  (a1 : Int32) (a2 : Int32) (S : mM) : Option (Int32 × mM) :=
  ld S 3 250 (nI 6) fun v10 => cr1 (pX7_in (a1.toInt64) (lN 0) ((v10 - (nI 1)).toInt64)) fun v14 => if v14 = 0 then
    (pX7_vehicle_b41  a1 a2 (nI 1) S)
  else
    (cr1 (pX7_in (a2.toInt64) (lN 0) (lN 6)) fun v30 => if v30 = 0 then
      (pX7_vehicle_b41  a1 a2 (nI 2) S)
    else
      (pX7_vehicle_b41  a1 a2 (nI 0) S))

def pX7_closedFor  (a1 : Int32) (S : mM) : Option Int32 :=
  ld S 3 250 (nI 1) fun v5 => cr1 (pX7_gateAt a1 (nI 3)) fun v12 => ld S 3 250 v12 fun v15 => cr1 (pX7_gateAt a1 (nI 1)) fun v23 => ld S 3 250 v23 fun v26 => nz v26 <| vl ((v5 + v15) - (v5 + v15) / v26 * v26) fun v28 => cr1 (pX7_gateAt a1 (nI 2)) fun v36 => ld S 3 250 v36 fun v39 => if v39 ≤ v28 then
    (some (nI 0))
  else
    (cr1 (pX7_gateAt a1 (nI 2)) fun v49 => ld S 3 250 v49 fun v52 => some (v52 - v28))

def pX7_gate_b40  (x1 : Int32) (x2 : Int32) (t1 : Int32) (S : mM) : Option (Int32 × mM) :=
  cw2 (pX7_refused t1 S) fun v40 S40 => if v40 = 0 then
      (if (nI 4) ≤ x2 then
        (if x2 = (nI 5) then
          (cr1 (pX7_closedFor x1 S40) fun v73 => some (v73, S40))
        else
          (cr1 (pX7_isClosed x1 (sB S40 3)) fun v84 => if v84 = 0 then
            (some ((nI 0), S40))
          else
            (some ((nI 1), S40))))
      else
        (cr1 (pX7_gateAt x1 x2) fun v59 => ld S40 3 250 v59 fun v62 => some (v62, S40)))
    else
      (some ((nI 0), S40))
def pX7_gate  (a1 : Int32) (a2 : Int32) (S : mM) : Option (Int32 × mM) :=
  ld S 3 250 (nI 2) fun v9 => cr1 (pX7_in (a1.toInt64) (lN 0) ((v9 - (nI 1)).toInt64)) fun v13 => if v13 = 0 then
    (pX7_gate_b40  a1 a2 (nI 1) S)
  else
    (cr1 (pX7_in (a2.toInt64) (lN 0) (lN 5)) fun v29 => if v29 = 0 then
      (pX7_gate_b40  a1 a2 (nI 2) S)
    else
      (pX7_gate_b40  a1 a2 (nI 0) S))

def pX7_bay_b40  (x1 : Int32) (x2 : Int32) (t1 : Int32) (S : mM) : Option (Int32 × mM) :=
  cw2 (pX7_refused t1 S) fun v40 S40 => if v40 = 0 then
      (if (nI 3) ≤ x2 then
        (cr1 (pX7_bayAt x1 (nI 2)) fun v72 => ld S40 3 250 v72 fun v75 => if v75 = 0 then
          (some ((-9), S40))
        else
          (cr1 (pX7_bayAt x1 (nI 3)) fun v90 => ld S40 3 250 v90 fun v93 => some (v93, S40)))
      else
        (cr1 (pX7_bayAt x1 x2) fun v59 => ld S40 3 250 v59 fun v62 => some (v62, S40)))
    else
      (some ((nI 0), S40))
def pX7_bay  (a1 : Int32) (a2 : Int32) (S : mM) : Option (Int32 × mM) :=
  ld S 3 250 (nI 3) fun v9 => cr1 (pX7_in (a1.toInt64) (lN 0) ((v9 - (nI 1)).toInt64)) fun v13 => if v13 = 0 then
    (pX7_bay_b40  a1 a2 (nI 1) S)
  else
    (cr1 (pX7_in (a2.toInt64) (lN 0) (lN 3)) fun v29 => if v29 = 0 then
      (pX7_bay_b40  a1 a2 (nI 2) S)
    else
      (pX7_bay_b40  a1 a2 (nI 0) S))

def pX7_isDepot  (a1 : Int32) (S : mM) : Option Int32 :=
  ld S 3 250 (nI 4) fun v8 => cr1 (pX7_in (a1.toInt64) (lN 0) ((v8 - (nI 1)).toInt64)) fun v12 => gd (isZ v12) (some v12)

def pX7_depot_b28  (x1 : Int32) (x2 : Int32) (t1 : Int32) (S : mM) : Option (Int32 × mM) :=
  cw2 (pX7_refused t1 S) fun v28 S28 => if v28 = 0 then
      (cr1 (pX7_depotAt x1 x2) fun v44 => ld S28 3 250 v44 fun v47 => some (v47, S28))
    else
      (some ((nI 0), S28))
def pX7_depot  (a1 : Int32) (a2 : Int32) (S : mM) : Option (Int32 × mM) :=
  cr1 (pX7_isDepot a1 S) fun v3 => if v3 = 0 then
    (pX7_depot_b28  a1 a2 (nI 1) S)
  else
    (cr1 (pX7_in (a2.toInt64) (lN 0) (lN 1)) fun v17 => if v17 = 0 then
      (pX7_depot_b28  a1 a2 (nI 2) S)
    else
      (pX7_depot_b28  a1 a2 (nI 0) S))

def pX7_addGate_b104  (x1 : Int32) (x2 : Int32) (x3 : Int32) (x4 : Int32) (t1 : Int32) (S : mM) : Option (Int32 × mM) :=
  cw2 (pX7_refused t1 S) fun v104 S104 => if v104 = 0 then
      (cr1 (pX7_remember S104) fun S113 => cvs S113 3 1 (pX7_addGateTo x1 x2 x3 x4 (sB S113 3)) fun S125 => ld S125 3 250 (nI 2) fun v133 => some ((v133 - (nI 1)), S125))
    else
      (some ((nI 0), S104))
def pX7_addGate_b99  (x1 : Int32) (x2 : Int32) (x3 : Int32) (x4 : Int32) (S : mM) : Option (Int32 × mM) :=
  pX7_addGate_b104  x1 x2 x3 x4 (nI 2) S
def pX7_addGate_b64  (x1 : Int32) (x2 : Int32) (x3 : Int32) (x4 : Int32) (t0 : Int32) (S : mM) : Option (Int32 × mM) :=
  if t0 = 0 then
      (pX7_addGate_b104  x1 x2 x3 x4 (nI 1) S)
    else
      (ld S 3 250 (nI 2) fun v81 => if v81 = (nI 4) then
        (pX7_addGate_b99  x1 x2 x3 x4 S)
      else
        (cr1 (pX7_gateOn x1 (sB S 3)) fun v91 => if v91 = (-9) then
          (pX7_addGate_b104  x1 x2 x3 x4 (nI 0) S)
        else
          (pX7_addGate_b99  x1 x2 x3 x4 S)))
def pX7_addGate_b63  (x1 : Int32) (x2 : Int32) (x3 : Int32) (x4 : Int32) (S : mM) : Option (Int32 × mM) :=
  pX7_addGate_b64  x1 x2 x3 x4 (nI 0) S
def pX7_addGate  (a1 : Int32) (a2 : Int32) (a3 : Int32) (a4 : Int32) (S : mM) : Option (Int32 × mM) :=
  ld S 3 250 (nI 0) fun v8 => cr1 (pX7_in (a1.toInt64) (lN 1) ((v8 - (nI 1)).toInt64)) fun v12 => if v12 = 0 then
    (pX7_addGate_b63  a1 a2 a3 a4 S)
  else
    (cr1 (pX7_in (a2.toInt64) (lN 2) (lN 24)) fun v26 => if v26 = 0 then
      (pX7_addGate_b63  a1 a2 a3 a4 S)
    else
      (cr1 (pX7_in (a3.toInt64) (lN 0) ((a2.toInt64) - (lN 1))) fun v39 => if v39 = 0 then
        (pX7_addGate_b63  a1 a2 a3 a4 S)
      else
        (cr1 (pX7_in (a4.toInt64) (lN 0) ((a2.toInt64) - (lN 1))) fun v53 => if v53 = 0 then
          (pX7_addGate_b63  a1 a2 a3 a4 S)
        else
          (pX7_addGate_b64  a1 a2 a3 a4 (nI 1) S))))

def pX7_addBay_b74  (x1 : Int32) (x2 : Int32) (t1 : Int32) (S : mM) : Option (Int32 × mM) :=
  cw2 (pX7_refused t1 S) fun v74 S74 => if v74 = 0 then
      (cr1 (pX7_remember S74) fun S83 => cvs S83 3 1 (pX7_addBayTo x1 x2 (sB S83 3)) fun S92 => ld S92 3 250 (nI 3) fun v100 => some ((v100 - (nI 1)), S92))
    else
      (some ((nI 0), S74))
def pX7_addBay_b69  (x1 : Int32) (x2 : Int32) (S : mM) : Option (Int32 × mM) :=
  pX7_addBay_b74  x1 x2 (nI 2) S
def pX7_addBay_b35  (x1 : Int32) (x2 : Int32) (t0 : Int32) (S : mM) : Option (Int32 × mM) :=
  if t0 = 0 then
      (pX7_addBay_b74  x1 x2 (nI 1) S)
    else
      (ld S 3 250 (nI 3) fun v50 => if v50 = (nI 6) then
        (pX7_addBay_b69  x1 x2 S)
      else
        (cr1 (pX7_bayOn x1 (sB S 3)) fun v61 => if v61 = (-9) then
          (pX7_addBay_b74  x1 x2 (nI 0) S)
        else
          (pX7_addBay_b69  x1 x2 S)))
def pX7_addBay_b34  (x1 : Int32) (x2 : Int32) (S : mM) : Option (Int32 × mM) :=
  pX7_addBay_b35  x1 x2 (nI 0) S
def pX7_addBay  (a1 : Int32) (a2 : Int32) (S : mM) : Option (Int32 × mM) :=
  ld S 3 250 (nI 0) fun v8 => cr1 (pX7_in (a1.toInt64) (lN 1) ((v8 - (nI 1)).toInt64)) fun v12 => if v12 = 0 then
    (pX7_addBay_b34  a1 a2 S)
  else
    (cr1 (pX7_in (a2.toInt64) (lN 1) (lN 6)) fun v24 => if v24 = 0 then
      (pX7_addBay_b34  a1 a2 S)
    else
      (pX7_addBay_b35  a1 a2 (nI 1) S))

def pX7_addDepot_b71  (x1 : Int32) (x2 : Int32) (t1 : Int32) (S : mM) : Option (Int32 × mM) :=
  cw2 (pX7_refused t1 S) fun v71 S71 => if v71 = 0 then
      (cr1 (pX7_remember S71) fun S80 => cvs S80 3 1 (pX7_addDepotTo x1 x2 (sB S80 3)) fun S89 => ld S89 3 250 (nI 4) fun v97 => some ((v97 - (nI 1)), S89))
    else
      (some ((nI 0), S71))
def pX7_addDepot_b66  (x1 : Int32) (x2 : Int32) (S : mM) : Option (Int32 × mM) :=
  pX7_addDepot_b71  x1 x2 (nI 2) S
def pX7_addDepot_b33  (x1 : Int32) (x2 : Int32) (t0 : Int32) (S : mM) : Option (Int32 × mM) :=
  if t0 = 0 then
      (pX7_addDepot_b71  x1 x2 (nI 1) S)
    else
      (ld S 3 250 (nI 4) fun v48 => if v48 = (nI 4) then
        (pX7_addDepot_b66  x1 x2 S)
      else
        (cr1 (pX7_depotOn x1 (sB S 3)) fun v58 => if v58 = (-9) then
          (pX7_addDepot_b71  x1 x2 (nI 0) S)
        else
          (pX7_addDepot_b66  x1 x2 S)))
def pX7_addDepot_b32  (x1 : Int32) (x2 : Int32) (S : mM) : Option (Int32 × mM) :=
  pX7_addDepot_b33  x1 x2 (nI 0) S
def pX7_addDepot  (a1 : Int32) (a2 : Int32) (S : mM) : Option (Int32 × mM) :=
  ld S 3 250 (nI 0) fun v8 => cr1 (pX7_in (a1.toInt64) (lN 0) (v8.toInt64)) fun v10 => if v10 = 0 then
    (pX7_addDepot_b32  a1 a2 S)
  else
    (cr1 (pX7_in (a2.toInt64) (lN 0) (lN 999)) fun v22 => if v22 = 0 then
      (pX7_addDepot_b32  a1 a2 S)
    else
      (pX7_addDepot_b33  a1 a2 (nI 1) S))

def pX7_addConvoy_b16  (t1 : Int32) (S : mM) : Option (Int32 × mM) :=
  cw2 (pX7_refused t1 S) fun v16 S16 => if v16 = 0 then
      (cr1 (pX7_remember S16) fun S25 => cvs S25 3 1 (pX7_addConvoyTo (sB S25 3)) fun S32 => ld S32 3 250 (nI 5) fun v40 => some ((v40 - (nI 1)), S32))
    else
      (some ((nI 0), S16))
def pX7_addConvoy   (S : mM) : Option (Int32 × mM) :=
  ld S 3 250 (nI 5) fun v6 => if v6 = (nI 4) then
    (pX7_addConvoy_b16  (nI 1) S)
  else
    (pX7_addConvoy_b16  (nI 0) S)

def pX7_addVehicle_b122  (x1 : Int32) (x2 : Int32) (x3 : Int32) (x4 : Int32) (x5 : Int32) (t1 : Int32) (S : mM) : Option (Int32 × mM) :=
  cw2 (pX7_refused t1 S) fun v122 S122 => if v122 = 0 then
      (cr1 (pX7_remember S122) fun S131 => cvs S131 3 1 (pX7_addCarTo x1 x2 x3 x4 x5 (sB S131 3)) fun S145 => ld S145 3 250 (nI 6) fun v154 => some ((v154 - (nI 1)), S145))
    else
      (some ((nI 0), S122))
def pX7_addVehicle_b117  (x1 : Int32) (x2 : Int32) (x3 : Int32) (x4 : Int32) (x5 : Int32) (S : mM) : Option (Int32 × mM) :=
  pX7_addVehicle_b122  x1 x2 x3 x4 x5 (nI 3) S
def pX7_addVehicle_b57  (x1 : Int32) (x2 : Int32) (x3 : Int32) (x4 : Int32) (x5 : Int32) (t0 : Int32) (S : mM) : Option (Int32 × mM) :=
  cr1 (pX7_isConvoy x1 S) fun v62 => if v62 = 0 then
      (pX7_addVehicle_b122  x1 x2 x3 x4 x5 (nI 1) S)
    else
      (if t0 = 0 then
        (pX7_addVehicle_b122  x1 x2 x3 x4 x5 (nI 2) S)
      else
        (ld S 3 250 (nI 6) fun v87 => if v87 = (nI 16) then
          (pX7_addVehicle_b117  x1 x2 x3 x4 x5 S)
        else
          (cr1 (pX7_sizeOf x1 (sB S 3)) fun v98 => if v98 = (nI 8) then
            (pX7_addVehicle_b117  x1 x2 x3 x4 x5 S)
          else
            (cr1 (pX7_isThere x1 (sB S 3)) fun v111 => if v111 = 0 then
              (pX7_addVehicle_b122  x1 x2 x3 x4 x5 (nI 0) S)
            else
              (pX7_addVehicle_b117  x1 x2 x3 x4 x5 S)))))
def pX7_addVehicle_b56  (x1 : Int32) (x2 : Int32) (x3 : Int32) (x4 : Int32) (x5 : Int32) (S : mM) : Option (Int32 × mM) :=
  pX7_addVehicle_b57  x1 x2 x3 x4 x5 (nI 0) S
def pX7_addVehicle  (a1 : Int32) (a2 : Int32) (a3 : Int32) (a4 : Int32) (a5 : Int32) (S : mM) : Option (Int32 × mM) :=
  cr1 (pX7_in (a2.toInt64) (lN 1) (lN 9)) fun v6 => if v6 = 0 then
    (pX7_addVehicle_b56  a1 a2 a3 a4 a5 S)
  else
    (cr1 (pX7_in (a3.toInt64) (lN 1) (lN 4)) fun v18 => if v18 = 0 then
      (pX7_addVehicle_b56  a1 a2 a3 a4 a5 S)
    else
      (cr1 (pX7_in (a4.toInt64) (lN 20) (lN 99)) fun v33 => if v33 = 0 then
        (pX7_addVehicle_b56  a1 a2 a3 a4 a5 S)
      else
        (cr1 (pX7_in (a5.toInt64) (lN 0) (a4.toInt64)) fun v46 => if v46 = 0 then
          (pX7_addVehicle_b56  a1 a2 a3 a4 a5 S)
        else
          (pX7_addVehicle_b57  a1 a2 a3 a4 a5 (nI 1) S))))

def pX7_isHold  (a1 : Int32) : Option Int32 :=
  cr1 (pX7_in (a1.toInt64) (lN 0) (lN 23)) fun v6 => gd (isZ v6) (some v6)

def pX7_hold_b25  (x1 : Int32) (x2 : Int32) (t1 : Int32) (S : mM) : Option (Int32 × mM) :=
  cw2 (pX7_refused t1 S) fun v25 S25 => if v25 = 0 then
      (cr1 (pX7_remember S25) fun S34 => cr1 (pX7_convoyAt x1 (nI 2)) fun v43 => ld S34 3 250 v43 fun v46 => cr1 (pX7_convoyAt x1 (nI 2)) fun v54 => st S34 3 250 v54 x2 fun S58 => some (v46, S58))
    else
      (some ((nI 0), S25))
def pX7_hold  (a1 : Int32) (a2 : Int32) (S : mM) : Option (Int32 × mM) :=
  cr1 (pX7_isConvoy a1 S) fun v3 => if v3 = 0 then
    (pX7_hold_b25  a1 a2 (nI 1) S)
  else
    (cr1 (pX7_isHold a2) fun v14 => if v14 = 0 then
      (pX7_hold_b25  a1 a2 (nI 2) S)
    else
      (pX7_hold_b25  a1 a2 (nI 0) S))

def pX7_supply_b52  (x1 : Int32) (x2 : Int32) (t1 : Int32) (S : mM) : Option (Int32 × mM) :=
  cw2 (pX7_refused t1 S) fun v52 S52 => if v52 = 0 then
      (cr1 (pX7_remember S52) fun S61 => cr1 (pX7_depotAt x1 (nI 1)) fun v70 => ld S61 3 250 v70 fun v74 => st S61 3 250 v70 (v74 + x2) fun S77 => cr1 (pX7_depotAt x1 (nI 1)) fun v84 => ld S77 3 250 v84 fun v87 => some (v87, S77))
    else
      (some ((nI 0), S52))
def pX7_supply  (a1 : Int32) (a2 : Int32) (S : mM) : Option (Int32 × mM) :=
  cr1 (pX7_isDepot a1 S) fun v3 => if v3 = 0 then
    (pX7_supply_b52  a1 a2 (nI 1) S)
  else
    (cr1 (pX7_in (a2.toInt64) (lN 1) (lN 500)) fun v19 => if v19 = 0 then
      (pX7_supply_b52  a1 a2 (nI 2) S)
    else
      (cr1 (pX7_depotAt a1 (nI 1)) fun v35 => ld S 3 250 v35 fun v38 => if (v38 + a2) ≤ (nI 999) then
        (pX7_supply_b52  a1 a2 (nI 0) S)
      else
        (pX7_supply_b52  a1 a2 (nI 3) S)))

def pX7_pass_b18  (x1 : Int32) (t1 : Int32) (S : mM) : Option (Int32 × mM) :=
  cw2 (pX7_refused t1 S) fun v18 S18 => if v18 = 0 then
      (cr1 (pX7_remember S18) fun S27 => cw2 (pX7_goHours 3 x1 S27) fun v36 S36 => some (v36, S36))
    else
      (some ((nI 0), S18))
def pX7_pass  (a1 : Int32) (S : mM) : Option (Int32 × mM) :=
  cr1 (pX7_in (a1.toInt64) (lN 1) (lN 99)) fun v7 => if v7 = 0 then
    (pX7_pass_b18  a1 (nI 1) S)
  else
    (pX7_pass_b18  a1 (nI 0) S)

def pX7_undo_b13  (t1 : Int32) (S : mM) : Option (Int32 × mM) :=
  cw2 (pX7_refused t1 S) fun v13 S13 => if v13 = 0 then
      (gf S13 0 9 fun v23 => pf S13 0 9 (v23 - (nI 1)) fun S28 => gf S28 0 9 fun v39 => cr1 (pX7_copy 5 3500 3 250 ((nI 250) * v39) (nI 0) (nI 250) S28) fun S51 => gf S51 0 9 fun v55 => some (v55, S51))
    else
      (some ((nI 0), S13))
def pX7_undo   (S : mM) : Option (Int32 × mM) :=
  gf S 0 9 fun v2 => if v2 = 0 then
    (pX7_undo_b13  (nI 1) S)
  else
    (pX7_undo_b13  (nI 0) S)

def pX7_arrival_lb2  (ih2 : Int32 → Int32 → mM → Option (Int32 × mM)) (x1 : Int32) (x2 : Int32) (S : mM) : Option (Int32 × mM) :=
  if (nI 300) < x2 then
      (some ((-9), S))
    else
      (cr1 (pX7_isThere x1 (sB S 4)) fun v14 => if v14 = 0 then
        (cr1 (pX7_goHour 4 S) fun S27 => vl (x2 + (nI 1)) fun v30 => ih2 x1 v30 S27)
      else
        (some (x2, S)))
def pX7_arrival_l2  : Nat → Int32 → Int32 → mM → Option (Int32 × mM)
  | 0, _, _, _ => none
  | k + 1, x1, x2, S => pX7_arrival_lb2  (pX7_arrival_l2  k) x1 x2 S
def pX7_arrival  (a1 : Int32) (S : mM) : Option (Int32 × mM) :=
  pX7_arrival_l2 fuel a1 (nI 0) S

def pX7_arrives_b14  (x1 : Int32) (t1 : Int32) (S : mM) : Option (Int32 × mM) :=
  cw2 (pX7_refused t1 S) fun v14 S14 => if v14 = 0 then
      (cr1 (pX7_begin S14) fun S23 => cw2 (pX7_arrival x1 S23) fun v28 S28 => some (v28, S28))
    else
      (some ((nI 0), S14))
def pX7_arrives  (a1 : Int32) (S : mM) : Option (Int32 × mM) :=
  cr1 (pX7_isConvoy a1 S) fun v3 => if v3 = 0 then
    (pX7_arrives_b14  a1 (nI 1) S)
  else
    (pX7_arrives_b14  a1 (nI 0) S)

def pX7_leaves_lb39  (ih39 : Int32 → mM → Option (Int32 × mM)) (x2 : Int32) (S : mM) : Option (Int32 × mM) :=
  if (nI 300) ≤ x2 then
      (pf S 0 12 (-9) fun S72 => gf S72 0 13 fun v76 => some (v76, S72))
    else
      (gf S 0 13 fun v47 => if v47 = (-9) then
        (cr1 (pX7_goHour 4 S) fun S60 => vl (x2 + (nI 1)) fun v63 => ih39 v63 S60)
      else
        (pf S 0 12 (-9) fun S72 => gf S72 0 13 fun v76 => some (v76, S72)))
def pX7_leaves_l39  : Nat → Int32 → mM → Option (Int32 × mM)
  | 0, _, _ => none
  | k + 1, x2, S => pX7_leaves_lb39  (pX7_leaves_l39  k) x2 S
def pX7_leaves_b14  (x1 : Int32) (t1 : Int32) (S : mM) : Option (Int32 × mM) :=
  cw2 (pX7_refused t1 S) fun v14 S14 => if v14 = 0 then
      (cr1 (pX7_begin S14) fun S23 => pf S23 0 12 x1 fun S28 => pf S28 0 13 (-9) fun S34 => pX7_leaves_l39 fuel (nI 0) S34)
    else
      (some ((nI 0), S14))
def pX7_leaves  (a1 : Int32) (S : mM) : Option (Int32 × mM) :=
  cr1 (pX7_isConvoy a1 S) fun v3 => if v3 = 0 then
    (pX7_leaves_b14  a1 (nI 1) S)
  else
    (pX7_leaves_b14  a1 (nI 0) S)

def pX7_bestHold_b95  (ih43 : Int32 → Int32 → Int32 → Int32 → mM → Option (Int32 × mM)) (x1 : Int32) (x4 : Int32) (x5 : Int32) (S : mM) : Option (Int32 × mM) :=
  vl (x5 - x4) fun v103 => vl (x4 + (nI 1)) fun v104 => ih43 x1 x4 v103 v104 S
def pX7_bestHold_lb43  (ih43 : Int32 → Int32 → Int32 → Int32 → mM → Option (Int32 × mM)) (x1 : Int32) (x2 : Int32) (x3 : Int32) (x4 : Int32) (S : mM) : Option (Int32 × mM) :=
  if (nI 24) ≤ x4 then
      (some (x2, S))
    else
      (cr1 (pX7_begin S) fun S51 => cr1 (pX7_convoyAt x1 (nI 2)) fun v60 => st S51 4 250 v60 x4 fun S65 => cw2 (pX7_arrival x1 S65) fun v68 S68 => if v68 = (-9) then
        (vl (x4 + (nI 1)) fun v104 => ih43 x1 x2 x3 v104 S68)
      else
        (if x2 = (-9) then
          (pX7_bestHold_b95 ih43 x1 x4 v68 S68)
        else
          (if x3 ≤ (v68 - x4) then
            (vl (x4 + (nI 1)) fun v104 => ih43 x1 x2 x3 v104 S68)
          else
            (pX7_bestHold_b95 ih43 x1 x4 v68 S68))))
def pX7_bestHold_l43  : Nat → Int32 → Int32 → Int32 → Int32 → mM → Option (Int32 × mM)
  | 0, _, _, _, _, _ => none
  | k + 1, x1, x2, x3, x4, S => pX7_bestHold_lb43  (pX7_bestHold_l43  k) x1 x2 x3 x4 S
def pX7_bestHold_b14  (x1 : Int32) (t1 : Int32) (S : mM) : Option (Int32 × mM) :=
  cw2 (pX7_refused t1 S) fun v14 S14 => if v14 = 0 then
      (cr1 (pX7_isThere x1 (sB S14 3)) fun v27 => if v27 = 0 then
        (pX7_bestHold_l43 fuel x1 (-9) (nI 0) (nI 0) S14)
      else
        (some ((nI 0), S14)))
    else
      (some ((nI 0), S14))
def pX7_bestHold  (a1 : Int32) (S : mM) : Option (Int32 × mM) :=
  cr1 (pX7_isConvoy a1 S) fun v3 => if v3 = 0 then
    (pX7_bestHold_b14  a1 (nI 1) S)
  else
    (pX7_bestHold_b14  a1 (nI 0) S)

def pX7_allArrive_lb2  (ih2 : Int32 → mM → Option (Int32 × mM)) (x1 : Int32) (S : mM) : Option (Int32 × mM) :=
  if (nI 300) < x1 then
      (gd (isZ (nI 0)) (some ((nI 0), S)))
    else
      (cr1 (pX7_countAt (nI 2) (sB S 4)) fun v14 => ld S 4 250 (nI 6) fun v23 => if v14 = v23 then
        (gd (isZ (nI 1)) (some ((nI 1), S)))
      else
        (cr1 (pX7_goHour 4 S) fun S34 => vl (x1 + (nI 1)) fun v37 => ih2 v37 S34))
def pX7_allArrive_l2  : Nat → Int32 → mM → Option (Int32 × mM)
  | 0, _, _ => none
  | k + 1, x1, S => pX7_allArrive_lb2  (pX7_allArrive_l2  k) x1 S
def pX7_allArrive   (S : mM) : Option (Int32 × mM) :=
  pX7_allArrive_l2 fuel (nI 0) S

def pX7_lacks_lb24  (ih24 : Int32 → Int32 → mM → Option (Int32 × mM)) (x1 : Int32) (x2 : Int32) (S : mM) : Option (Int32 × mM) :=
  if (nI 40) < x2 then
      (some ((-9), S))
    else
      (cr1 (pX7_begin S) fun S31 => cr1 (pX7_depotAt x1 (nI 1)) fun v40 => ld S31 4 250 v40 fun v44 => st S31 4 250 v40 (v44 + x2) fun S47 => cw2 (pX7_allArrive S47) fun v49 S49 => if v49 = 0 then
        (vl (x2 + (nI 1)) fun v57 => ih24 x1 v57 S49)
      else
        (some (x2, S49)))
def pX7_lacks_l24  : Nat → Int32 → Int32 → mM → Option (Int32 × mM)
  | 0, _, _, _ => none
  | k + 1, x1, x2, S => pX7_lacks_lb24  (pX7_lacks_l24  k) x1 x2 S
def pX7_lacks_b14  (x1 : Int32) (t1 : Int32) (S : mM) : Option (Int32 × mM) :=
  cw2 (pX7_refused t1 S) fun v14 S14 => if v14 = 0 then
      (pX7_lacks_l24 fuel x1 (nI 0) S14)
    else
      (some ((nI 0), S14))
def pX7_lacks  (a1 : Int32) (S : mM) : Option (Int32 × mM) :=
  cr1 (pX7_isDepot a1 S) fun v3 => if v3 = 0 then
    (pX7_lacks_b14  a1 (nI 1) S)
  else
    (pX7_lacks_b14  a1 (nI 0) S)

def pX7_does_b367  (t0 : Int32) (t1 : Int32) (S : mM) : Option (Int32 × mM) :=
  if t0 = t1 then
      (gd (isZ (nI 1)) (some ((nI 1), S)))
    else
      (gd (isZ (nI 0)) (some ((nI 0), S)))
def pX7_does  (a1 : Int32) (S : mM) : Option (Int32 × mM) :=
  vl (a1 / (nI 10000)) fun v5 => vl ((a1 / (nI 1000)) - (a1 / (nI 1000)) / (nI 10) * (nI 10)) fun v14 => vl ((a1 / (nI 100)) - (a1 / (nI 100)) / (nI 10) * (nI 10)) fun v22 => vl (a1 - a1 / (nI 100) * (nI 100)) fun v28 => vl ((a1 / (nI 100)) - (a1 / (nI 100)) / (nI 100) * (nI 100)) fun v37 => vl (a1 - a1 / (nI 1000) * (nI 1000)) fun v44 => if v5 = (nI 1) then
    (if v37 = 0 then
      (if v28 = 0 then
        (gd (isZ (nI 0)) (some ((nI 0), S)))
      else
        (cw2 (pX7_goHours 4 v28 S) fun v115 S115 => gd (isZ (nI 1)) (some ((nI 1), S115))))
    else
      (gd (isZ (nI 0)) (some ((nI 0), S))))
  else if v5 = (nI 2) then
    (ld S 4 250 (nI 5) fun v127 => if v127 ≤ v14 then
      (gd (isZ (nI 0)) (some ((nI 0), S)))
    else
      (if v22 = 0 then
        (cr1 (pX7_isHold v28) fun v138 => if v138 = 0 then
          (gd (isZ (nI 0)) (some ((nI 0), S)))
        else
          (cr1 (pX7_convoyAt v14 (nI 2)) fun v152 => st S 4 250 v152 v28 fun S157 => gd (isZ (nI 1)) (some ((nI 1), S157))))
      else
        (gd (isZ (nI 0)) (some ((nI 0), S)))))
  else if v5 = (nI 3) then
    (ld S 4 250 (nI 4) fun v166 => if v166 ≤ v14 then
      (gd (isZ (nI 0)) (some ((nI 0), S)))
    else
      (cr1 (pX7_in (v44.toInt64) (lN 1) (lN 500)) fun v177 => if v177 = 0 then
        (gd (isZ (nI 0)) (some ((nI 0), S)))
      else
        (cr1 (pX7_depotAt v14 (nI 1)) fun v189 => ld S 4 250 v189 fun v192 => if (v192 + v44) ≤ (nI 999) then
          (cr1 (pX7_depotAt v14 (nI 1)) fun v210 => ld S 4 250 v210 fun v214 => st S 4 250 v210 (v214 + v44) fun S218 => gd (isZ (nI 1)) (some ((nI 1), S218)))
        else
          (gd (isZ (nI 0)) (some ((nI 0), S))))))
  else if v5 = (nI 4) then
    (ld S 4 250 (nI 5) fun v227 => if v227 ≤ v14 then
      (gd (isZ (nI 0)) (some ((nI 0), S)))
    else
      (if v22 = 0 then
        (cr1 (pX7_convoyAt v14 (nI 0)) fun v242 => ld S 4 250 v242 fun v245 => if v245 < v28 then
          (gd (isZ (nI 0)) (some ((nI 0), S)))
        else
          (gd (isZ (nI 1)) (some ((nI 1), S))))
      else
        (gd (isZ (nI 0)) (some ((nI 0), S)))))
  else if v5 = (nI 5) then
    (ld S 4 250 (nI 6) fun v265 => if v265 ≤ v37 then
      (gd (isZ (nI 0)) (some ((nI 0), S)))
    else
      (cr1 (pX7_carAt v37 (nI 3)) fun v276 => ld S 4 250 v276 fun v279 => if v279 < v28 then
        (gd (isZ (nI 0)) (some ((nI 0), S)))
      else
        (gd (isZ (nI 1)) (some ((nI 1), S)))))
  else if v5 = (nI 6) then
    (ld S 4 250 (nI 6) fun v299 => if v299 ≤ v37 then
      (gd (isZ (nI 0)) (some ((nI 0), S)))
    else
      (if (nI 10) ≤ v28 then
        (gd (isZ (nI 0)) (some ((nI 0), S)))
      else
        (cr1 (pX7_carAt v37 (nI 4)) fun v317 => ld S 4 250 v317 fun v320 => if v320 = v28 then
          (gd (isZ (nI 1)) (some ((nI 1), S)))
        else
          (gd (isZ (nI 0)) (some ((nI 0), S))))))
  else if v5 = (nI 7) then
    (ld S 4 250 (nI 2) fun v338 => if v338 ≤ v14 then
      (gd (isZ (nI 0)) (some ((nI 0), S)))
    else
      (if (nI 2) ≤ v44 then
        (gd (isZ (nI 0)) (some ((nI 0), S)))
      else
        (cr1 (pX7_isClosed v14 (sB S 4)) fun v353 => if v44 = (nI 1) then
          (pX7_does_b367  v353 (nI 1) S)
        else
          (pX7_does_b367  v353 (nI 0) S))))
  else if v5 = (nI 8) then
    (ld S 4 250 (nI 3) fun v382 => if v382 ≤ v14 then
      (gd (isZ (nI 0)) (some ((nI 0), S)))
    else
      (if (nI 10) ≤ v44 then
        (gd (isZ (nI 0)) (some ((nI 0), S)))
      else
        (cr1 (pX7_bayAt v14 (nI 2)) fun v399 => ld S 4 250 v399 fun v402 => if v402 < v44 then
          (gd (isZ (nI 0)) (some ((nI 0), S)))
        else
          (gd (isZ (nI 1)) (some ((nI 1), S))))))
  else if v5 = (nI 9) then
    (if v37 = 0 then
      (cr1 (pX7_countAt (nI 2) (sB S 4)) fun v424 => if v424 < v28 then
        (gd (isZ (nI 0)) (some ((nI 0), S)))
      else
        (gd (isZ (nI 1)) (some ((nI 1), S))))
    else
      (gd (isZ (nI 0)) (some ((nI 0), S))))
  else (gd (isZ (nI 0)) (some ((nI 0), S)))

def pX7_runScript_lb62  (ih62 : Int32 → Int64 → Int32 → mM → Option (Int32 × mM)) (x1 : Int32) (x2 : Int64) (x5 : Int32) (S : mM) : Option (Int32 × mM) :=
  if x1 ≤ x5 then
      (some ((-9), S))
    else
      (cr1 (pX7_tenTo ((nI 5) * ((x1 - (nI 1)) - x5))) fun v78 => nzL v78 <| cw2 (pX7_does (((x2 / v78) - (x2 / v78) / (lN 100000) * (lN 100000)).toInt32) S) fun v87 S87 => if v87 = 0 then
        (some (x5, S87))
      else
        (vl (x5 + (nI 1)) fun v96 => ih62 x1 x2 v96 S87))
def pX7_runScript_l62  : Nat → Int32 → Int64 → Int32 → mM → Option (Int32 × mM)
  | 0, _, _, _, _ => none
  | k + 1, x1, x2, x5, S => pX7_runScript_lb62  (pX7_runScript_l62  k) x1 x2 x5 S
def pX7_runScript_b47  (x1 : Int32) (x2 : Int64) (t1 : Int32) (S : mM) : Option (Int32 × mM) :=
  cw2 (pX7_refused t1 S) fun v47 S47 => if v47 = 0 then
      (cr1 (pX7_begin S47) fun S56 => pX7_runScript_l62 fuel x1 x2 (nI 0) S56)
    else
      (some ((nI 0), S47))
def pX7_runScript_b46  (x1 : Int32) (x2 : Int64) (S : mM) : Option (Int32 × mM) :=
  pX7_runScript_b47  x1 x2 (nI 1) S
def pX7_runScript_b31  (x1 : Int32) (x2 : Int64) (t1 : Int64) (t2 : Int64) (t3 : Int32) (S : mM) : Option (Int32 × mM) :=
  cr1 (pX7_tenTo t3) fun v31 => cr1 (pX7_in t1 t2 (v31 - (lN 1))) fun v36 => if v36 = 0 then
      (pX7_runScript_b46  x1 x2 S)
    else
      (pX7_runScript_b47  x1 x2 (nI 0) S)
def pX7_runScript  (a1 : Int32) (a2 : Int64) (S : mM) : Option (Int32 × mM) :=
  cr1 (pX7_in (a1.toInt64) (lN 1) (lN 3)) fun v6 => if v6 = 0 then
    (pX7_runScript_b46  a1 a2 S)
  else
    (if v6 = 0 then
      (pX7_runScript_b31  a1 a2 a2 (lN 0) (nI 0) S)
    else
      (pX7_runScript_b31  a1 a2 a2 (lN 0) ((nI 5) * a1) S))

def pX7_stir_b42  (x1 : Int32) (S : mM) : Option mM :=
  if (x1 - x1 / (nI 5) * (nI 5)) = (nI 1) then
      (ld S 4 250 (nI 4) fun v54 => if v54 ≤ 0 then
        (some S)
      else
        (ld S 4 250 (nI 4) fun v67 => nz v67 <| cr1 (pX7_depotAt ((x1 / (nI 8)) - (x1 / (nI 8)) / v67 * v67) (nI 1)) fun v70 => ld S 4 250 v70 fun v79 => vl (v79 + ((x1 / (nI 64)) - (x1 / (nI 64)) / (nI 30) * (nI 30))) fun v88 => if v88 ≤ (nI 999) then
          (st S 4 250 v70 v88 fun S108 => some S108)
        else
          (st S 4 250 v70 (nI 999) fun S108 => some S108)))
    else
      (some S)
def pX7_stir  (a1 : Int32) (S : mM) : Option mM :=
  if (a1 - a1 / (nI 5) * (nI 5)) = 0 then
    (ld S 4 250 (nI 5) fun v11 => if v11 ≤ 0 then
      (pX7_stir_b42  a1 S)
    else
      (ld S 4 250 (nI 5) fun v28 => nz v28 <| cr1 (pX7_convoyAt ((a1 / (nI 8)) - (a1 / (nI 8)) / v28 * v28) (nI 2)) fun v31 => st S 4 250 v31 ((a1 / (nI 64)) - (a1 / (nI 64)) / (nI 6) * (nI 6)) fun S41 => pX7_stir_b42  a1 S41))
  else
    (pX7_stir_b42  a1 S)

def pX7_simulate_lb36  (ih36 : Int32 → Int64 → Int32 → mM → Option (Int32 × mM)) (x3 : Int32) (x4 : Int64) (x6 : Int32) (S : mM) : Option (Int32 × mM) :=
  if x3 ≤ x6 then
      (cr1 (pX7_countAt (nI 2) (sB S 4)) fun v86 => cr1 (pX7_countAt (nI 2) (sB S 3)) fun v94 => ld S 4 250 (nI 7) fun v105 => ld S 3 250 (nI 7) fun v113 => some (((((nI 10000) * (v86 - v94)) + v105) - v113), S))
    else
      (vl ((x4 * 6364136223846793005) + 1442695040888963407) fun v52 => cr1 (pX7_stir (((v52.toUInt64 >>> (((nI 33).toInt64).toUInt64 &&& Int64.toUInt64 63)).toInt64).toInt32) S) fun S61 => cr1 (pX7_goHour 4 S61) fun S69 => vl (x6 + (nI 1)) fun v72 => ih36 x3 v52 v72 S69)
def pX7_simulate_l36  : Nat → Int32 → Int64 → Int32 → mM → Option (Int32 × mM)
  | 0, _, _, _, _ => none
  | k + 1, x3, x4, x6, S => pX7_simulate_lb36  (pX7_simulate_l36  k) x3 x4 x6 S
def pX7_simulate_b18  (x1 : Int64) (x3 : Int32) (t1 : Int32) (S : mM) : Option (Int32 × mM) :=
  cw2 (pX7_refused t1 S) fun v18 S18 => if v18 = 0 then
      (cr1 (pX7_begin S18) fun S27 => pX7_simulate_l36 fuel x3 x1 (nI 0) S27)
    else
      (some ((nI 0), S18))
def pX7_simulate  (a1 : Int64) (a2 : Int32) (S : mM) : Option (Int32 × mM) :=
  cr1 (pX7_in (a2.toInt64) (lN 1) (lN 99)) fun v7 => if v7 = 0 then
    (pX7_simulate_b18  a1 a2 (nI 1) S)
  else
    (pX7_simulate_b18  a1 a2 (nI 0) S)

def pX7_save_b16  (x1 : Int32) (t1 : Int32) (S : mM) : Option (Int32 × mM) :=
  cw2 (pX7_refused t1 S) fun v16 S16 => if v16 = 0 then
      (cr1 (pX7_copy 3 250 6 500 (nI 0) ((nI 250) * x1) (nI 250) S16) fun S41 => st S41 7 2 x1 (vp_nar .boolean (nI 1)) fun S50 => ld S50 3 250 (nI 1) fun v56 => some (v56, S50))
    else
      (some ((nI 0), S16))
def pX7_save  (a1 : Int32) (S : mM) : Option (Int32 × mM) :=
  cr1 (pX7_in (a1.toInt64) (lN 0) (lN 1)) fun v5 => if v5 = 0 then
    (pX7_save_b16  a1 (nI 1) S)
  else
    (pX7_save_b16  a1 (nI 0) S)

def pX7_restore_b29  (x1 : Int32) (t1 : Int32) (S : mM) : Option (Int32 × mM) :=
  cw2 (pX7_refused t1 S) fun v29 S29 => if v29 = 0 then
      (cr1 (pX7_copy 6 500 3 250 ((nI 250) * x1) (nI 0) (nI 250) S29) fun S54 => pf S54 0 9 (nI 0) fun S59 => ld S59 3 250 (nI 1) fun v67 => some (v67, S59))
    else
      (some ((nI 0), S29))
def pX7_restore  (a1 : Int32) (S : mM) : Option (Int32 × mM) :=
  cr1 (pX7_in (a1.toInt64) (lN 0) (lN 1)) fun v5 => if v5 = 0 then
    (pX7_restore_b29  a1 (nI 1) S)
  else
    (ld S 7 2 a1 fun v20 => if v20 = 0 then
      (pX7_restore_b29  a1 (nI 2) S)
    else
      (pX7_restore_b29  a1 (nI 0) S))
