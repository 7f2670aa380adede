/-! ===== the printed functions: what each method of the class and of the reference does to the world ===== -/
def X0_dropLine (r0 : Nat) (v1 : Int32) (g : zG) : Option (Int32 × zG) :=
    (if v1 < 0 then
      (some (0, g))
    else
      ((if v1 < (nI 16) then
        (zi v1 16 (zw g 22 r0 v1.toNatClampNeg (-2) (fun g1 =>
        zi v1 16 (zw g1 23 r0 v1.toNatClampNeg (nI 0) (fun g2 =>
        zi v1 16 (zw g2 24 r0 v1.toNatClampNeg (nI 0) (fun g3 =>
        zi v1 16 (zw g3 25 r0 v1.toNatClampNeg (nI 0) (fun g4 =>
        zi v1 16 (zw g4 26 r0 v1.toNatClampNeg (-2) (fun g5 =>
        some (0, g5))))))))))))
      else
        (some (0, g)))))

def X0_clear_l2  : Nat → Nat → Int32 → zG → Option (Int32 × zG)
  | 0, _, _, _ => none
  | n + 1, r0, v1, g =>
    (if v1 < (nI 16) then
      (zc (X0_dropLine r0 v1 g) (fun x1 g2 =>
      X0_clear_l2  n r0 (v1 + (nI 1)) g2))
    else
      (some (0, g)))

def X0_clear (r0 : Nat) (g : zG) : Option (Int32 × zG) :=
    X0_clear_l2  zfuel r0 (nI 0) g

def X0_copyFrom_l62  : Nat → Nat → Nat → Int32 → zG → Option (Int32 × zG)
  | 0, _, _, _, _ => none
  | n + 1, r0, r1, v2, g =>
    (if v2 < (nI 16) then
      (zi v2 16 (
      zi v2 16 (zw g 24 r0 v2.toNatClampNeg (vp_nar .boolean (g 24 r1 v2.toNatClampNeg)) (fun g1 =>
      zi v2 16 (
      zi v2 16 (zw g1 25 r0 v2.toNatClampNeg (vp_nar .boolean (g1 25 r1 v2.toNatClampNeg)) (fun g2 =>
      X0_copyFrom_l62  n r0 r1 (v2 + (nI 1)) g2)))))))
    else
      (some (0, g)))

def X0_copyFrom (r0 : Nat) (r1 : Nat) (g : zG) : Option (Int32 × zG) :=
    zcq g 22 r0 22 r1 16 (fun g1 =>
    zcq g1 23 r0 23 r1 16 (fun g2 =>
    zcq g2 26 r0 26 r1 16 (fun g3 =>
    zcq g3 27 r0 27 r1 64 (fun g4 =>
    X0_copyFrom_l62  zfuel r0 r1 (nI 0) g4))))

def X0_find_l2  : Nat → Nat → Int32 → Int32 → zG → Option (Int32 × zG)
  | 0, _, _, _, _ => none
  | n + 1, r0, v1, v2, g =>
    (if v2 < (nI 16) then
      (zi v2 16 (
      (if (g 22 r0 v2.toNatClampNeg) = v1 then
        (some (v2, g))
      else
        (X0_find_l2  n r0 v1 (v2 + (nI 1)) g))))
    else
      (some ((-1), g)))

def X0_find (r0 : Nat) (v1 : Int32) (g : zG) : Option (Int32 × zG) :=
    X0_find_l2  zfuel r0 v1 (nI 0) g

def X2_setOf (r0 : Nat) (v1 : Int32) (g : zG) : Option (Int32 × zG) :=
    (if 0 < (g 1001 r0 0) then
      (if (g 1001 r0 0) = 0 then none else some ((v1 - v1 / (g 1001 r0 0) * (g 1001 r0 0)), g))
    else
      (some ((nI 0), g)))

def X0_findRoom_b110 (k22 : Nat → Int32 → Int32 → Int32 → zG → Option (Int32 × zG)) (r0 : Nat) (v2 : Int32) (v3 : Int32) (v4 : Int32) (g : zG) : Option (Int32 × zG) :=
    k22 r0 v2 v3 (v4 + (nI 1)) g

def X0_findRoom_b107 (k22 : Nat → Int32 → Int32 → Int32 → zG → Option (Int32 × zG)) (r0 : Nat) (v2 : Int32) (v4 : Int32) (g : zG) : Option (Int32 × zG) :=
    X0_findRoom_b110 k22 r0 v2 v4 v4 g

def X0_findRoom_l22  : Nat → Nat → Int32 → Int32 → Int32 → zG → Option (Int32 × zG)
  | 0, _, _, _, _, _ => none
  | n + 1, r0, v2, v3, v4, g =>
    (if v4 < (v2 + (g 2001 0 0)) then
      ((if v4 < (nI 16) then
        ((if v4 < 0 then
          (X0_findRoom_b110 (X0_findRoom_l22  n) r0 v2 v3 v4 g)
        else
          (zi v4 16 (
          (if (g 22 r0 v4.toNatClampNeg) = (-2) then
            (some (v4, g))
          else
            (zi v4 16 (
            (if (g 24 r0 v4.toNatClampNeg) = 0 then
              (zi v4 16 (
              (if (g 25 r0 v4.toNatClampNeg) = 0 then
                ((if v3 = (-1) then
                  (X0_findRoom_b107 (X0_findRoom_l22  n) r0 v2 v4 g)
                else
                  (zi v4 16 (
                  zi v3 16 (
                  (if (g 26 r0 v4.toNatClampNeg) < (g 26 r0 v3.toNatClampNeg) then
                    (X0_findRoom_b107 (X0_findRoom_l22  n) r0 v2 v4 g)
                  else
                    (X0_findRoom_b110 (X0_findRoom_l22  n) r0 v2 v3 v4 g)))))))
              else
                (X0_findRoom_b110 (X0_findRoom_l22  n) r0 v2 v3 v4 g))))
            else
              (X0_findRoom_b110 (X0_findRoom_l22  n) r0 v2 v3 v4 g)))))))))
      else
        (some (v3, g))))
    else
      (some (v3, g)))

def X0_findRoom (r0 : Nat) (v1 : Int32) (g : zG) : Option (Int32 × zG) :=
    zc (X2_setOf 0 v1 g) (fun x1 g2 =>
    X0_findRoom_l22  zfuel r0 (x1 * (g2 2001 0 0)) (-1) (x1 * (g2 2001 0 0)) g2)

def X0_markedLines_b55 (k4 : Nat → Int32 → Int32 → Int32 → zG → Option (Int32 × zG)) (r0 : Nat) (v1 : Int32) (v2 : Int32) (v3 : Int32) (g : zG) : Option (Int32 × zG) :=
    k4 r0 v1 v2 (v3 + (nI 1)) g

def X0_markedLines_b44 (k4 : Nat → Int32 → Int32 → Int32 → zG → Option (Int32 × zG)) (r0 : Nat) (v1 : Int32) (v2 : Int32) (v3 : Int32) (g : zG) : Option (Int32 × zG) :=
    zi v3 16 (
    X0_markedLines_b55 k4 r0 v1 (v2 ||| ((nI 1) <<< ((g 22 r0 v3.toNatClampNeg) &&& 31))) v3 g)

def X0_markedLines_l4  : Nat → Nat → Int32 → Int32 → Int32 → zG → Option (Int32 × zG)
  | 0, _, _, _, _, _ => none
  | n + 1, r0, v1, v2, v3, g =>
    (if v3 < (nI 16) then
      (zi v3 16 (
      (if (g 22 r0 v3.toNatClampNeg) < 0 then
        (X0_markedLines_b55 (X0_markedLines_l4  n) r0 v1 v2 v3 g)
      else
        ((if v1 = 0 then
          (zi v3 16 (
          (if (g 24 r0 v3.toNatClampNeg) = 0 then
            (X0_markedLines_b55 (X0_markedLines_l4  n) r0 v1 v2 v3 g)
          else
            (X0_markedLines_b44 (X0_markedLines_l4  n) r0 v1 v2 v3 g))))
        else
          (zi v3 16 (
          (if (g 25 r0 v3.toNatClampNeg) = 0 then
            (X0_markedLines_b55 (X0_markedLines_l4  n) r0 v1 v2 v3 g)
          else
            (X0_markedLines_b44 (X0_markedLines_l4  n) r0 v1 v2 v3 g)))))))))
    else
      (some (v2, g)))

def X0_markedLines (r0 : Nat) (v1 : Int32) (g : zG) : Option (Int32 × zG) :=
    X0_markedLines_l4  zfuel r0 v1 (nI 0) (nI 0) g

def X0_unmark_b44 (k2 : Nat → Int32 → Int32 → zG → Option (Int32 × zG)) (r0 : Nat) (v1 : Int32) (v2 : Int32) (g : zG) : Option (Int32 × zG) :=
    zi v2 16 (zw g 24 r0 v2.toNatClampNeg (nI 0) (fun g1 =>
    zi v2 16 (zw g1 25 r0 v2.toNatClampNeg (nI 0) (fun g2 =>
    k2 r0 v1 (v2 + (nI 1)) g2))))

def X0_unmark_l2  : Nat → Nat → Int32 → Int32 → zG → Option (Int32 × zG)
  | 0, _, _, _, _ => none
  | n + 1, r0, v1, v2, g =>
    (if v2 < (nI 16) then
      ((if v1 = 0 then
        (X0_unmark_b44 (X0_unmark_l2  n) r0 v1 v2 g)
      else
        (zi v2 16 (
        (if (g 25 r0 v2.toNatClampNeg) = 0 then
          (X0_unmark_b44 (X0_unmark_l2  n) r0 v1 v2 g)
        else
          (zi v2 16 (zw g 22 r0 v2.toNatClampNeg (-2) (fun g1 =>
          zi v2 16 (zw g1 23 r0 v2.toNatClampNeg (nI 0) (fun g2 =>
          zi v2 16 (zw g2 26 r0 v2.toNatClampNeg (-2) (fun g3 =>
          X0_unmark_b44 (X0_unmark_l2  n) r0 v1 v2 g3))))))))))))
    else
      (some (0, g)))

def X0_unmark (r0 : Nat) (v1 : Int32) (g : zG) : Option (Int32 × zG) :=
    X0_unmark_l2  zfuel r0 v1 (nI 0) g

def X0_wordIn (r0 : Nat) (v1 : Int32) (v2 : Int32) (g : zG) : Option (Int32 × zG) :=
    (if ((v1 * (nI 4)) + v2) < 0 then
      (some ((nI 0), g))
    else
      ((if ((v1 * (nI 4)) + v2) < (nI 64) then
        (zi ((v1 * (nI 4)) + v2) 64 (
        some ((g 27 r0 ((v1 * (nI 4)) + v2).toNatClampNeg), g)))
      else
        (some ((nI 0), g)))))

def X0_setWord (r0 : Nat) (v1 : Int32) (v2 : Int32) (v3 : Int32) (g : zG) : Option (Int32 × zG) :=
    (if ((v1 * (nI 4)) + v2) < 0 then
      (some (0, g))
    else
      ((if ((v1 * (nI 4)) + v2) < (nI 64) then
        (zi ((v1 * (nI 4)) + v2) 64 (zw g 27 r0 ((v1 * (nI 4)) + v2).toNatClampNeg v3 (fun g1 =>
        some (0, g1))))
      else
        (some (0, g)))))

def X1_clear_l38  : Nat → Nat → Int32 → zG → Option (Int32 × zG)
  | 0, _, _, _ => none
  | n + 1, r0, v1, g =>
    (if v1 < (nI 7) then
      (zi v1 7 (zw g 28 r0 v1.toNatClampNeg (nI 0) (fun g1 =>
      X1_clear_l38  n r0 (v1 + (nI 1)) g1)))
    else
      (some (0, g)))

def X1_clear (r0 : Nat) (g : zG) : Option (Int32 × zG) :=
    zw g 1005 r0 0 (nI 0) (fun g1 =>
    zw g1 2005 r0 0 (nI 0) (fun g2 =>
    zw g2 3005 r0 0 (nI 0) (fun g3 =>
    zw g3 4005 r0 0 (nI 0) (fun g4 =>
    zw g4 5005 r0 0 (nI 0) (fun g5 =>
    zw g5 6005 r0 0 (nI 0) (fun g6 =>
    zw g6 7005 r0 0 (-2) (fun g7 =>
    X1_clear_l38  zfuel r0 (nI 0) g7)))))))

def X1_copyFrom (r0 : Nat) (r1 : Nat) (g : zG) : Option (Int32 × zG) :=
    zw g 1005 r0 0 (g 1005 r1 0) (fun g1 =>
    zw g1 2005 r0 0 (g1 2005 r1 0) (fun g2 =>
    zw g2 3005 r0 0 (g2 3005 r1 0) (fun g3 =>
    zw g3 4005 r0 0 (g3 4005 r1 0) (fun g4 =>
    zw g4 5005 r0 0 (g4 5005 r1 0) (fun g5 =>
    zw g5 6005 r0 0 (g5 6005 r1 0) (fun g6 =>
    zw g6 7005 r0 0 (g6 7005 r1 0) (fun g7 =>
    zcq g7 28 r0 28 r1 7 (fun g8 =>
    some (0, g8)))))))))

def X2_clear_l37 (k57 : Nat → Int32 → zG → Option (Int32 × zG)) : Nat → Nat → Int32 → zG → Option (Int32 × zG)
  | 0, _, _, _ => none
  | n + 1, r0, v1, g =>
    (if v1 < (nI 4) then
      (zi v1 4 (zw g 11 r0 v1.toNatClampNeg (nI 0) (fun g1 =>
      X2_clear_l37 k57 n r0 (v1 + (nI 1)) g1)))
    else
      (k57 r0 (nI 0) g))

def X2_clear_l57  : Nat → Nat → Int32 → zG → Option (Int32 × zG)
  | 0, _, _, _ => none
  | n + 1, r0, v1, g =>
    (if v1 < (nI 64) then
      (zi v1 64 (zw g 15 r0 v1.toNatClampNeg (nI 0) (fun g1 =>
      X2_clear_l57  n r0 (v1 + (nI 1)) g1)))
    else
      (some (0, g)))

def X2_clear (r0 : Nat) (g : zG) : Option (Int32 × zG) :=
    zw g 1001 r0 0 (nI 0) (fun g1 =>
    zw g1 2001 r0 0 (nI 0) (fun g2 =>
    zw g2 3001 r0 0 (nI 0) (fun g3 =>
    zw g3 4001 r0 0 (nI 0) (fun g4 =>
    zw g4 5001 r0 0 (nI 0) (fun g5 =>
    zw g5 6001 r0 0 (nI 0) (fun g6 =>
    zw g6 7001 r0 0 (nI 0) (fun g7 =>
    X2_clear_l37 (fun (r0 : Nat) (v1 : Int32) g => X2_clear_l57  zfuel r0 v1 g) zfuel r0 (nI 0) g7)))))))

def X2_copyFrom_l117  : Nat → Nat → Nat → Int32 → zG → Option (Int32 × zG)
  | 0, _, _, _, _ => none
  | n + 1, r0, r1, v2, g =>
    (if v2 < (nI 96) then
      (zi v2 96 (
      zi v2 96 (zw g 14 r0 v2.toNatClampNeg (vp_nar .boolean (g 14 r1 v2.toNatClampNeg)) (fun g1 =>
      X2_copyFrom_l117  n r0 r1 (v2 + (nI 1)) g1))))
    else
      (some (0, g)))

def X2_copyFrom (r0 : Nat) (r1 : Nat) (g : zG) : Option (Int32 × zG) :=
    zw g 1001 r0 0 (g 1001 r1 0) (fun g1 =>
    zw g1 2001 r0 0 (g1 2001 r1 0) (fun g2 =>
    zw g2 3001 r0 0 (g2 3001 r1 0) (fun g3 =>
    zw g3 4001 r0 0 (g3 4001 r1 0) (fun g4 =>
    zw g4 5001 r0 0 (g4 5001 r1 0) (fun g5 =>
    zw g5 6001 r0 0 (g5 6001 r1 0) (fun g6 =>
    zw g6 7001 r0 0 (g6 7001 r1 0) (fun g7 =>
    zcq g7 11 r0 11 r1 4 (fun g8 =>
    zcq g8 12 r0 12 r1 96 (fun g9 =>
    zcq g9 13 r0 13 r1 96 (fun g10 =>
    zcq g10 15 r0 15 r1 64 (fun g11 =>
    X2_copyFrom_l117  zfuel r0 r1 (nI 0) g11)))))))))))

def X2_addresses (r0 : Nat) (g : zG) : Option (Int32 × zG) :=
    some (((nI 16) * (g 3001 r0 0)), g)

def X2_hasCore (r0 : Nat) (v1 : Int32) (g : zG) : Option (Int32 × zG) :=
    (if v1 < 0 then
      (some ((nI 0), g))
    else
      ((if v1 < (g 6001 r0 0) then
        ((if v1 < (nI 4) then
          (some ((nI 1), g))
        else
          (some ((nI 0), g))))
      else
        (some ((nI 0), g)))))

def X2_hasAddress (r0 : Nat) (v1 : Int32) (g : zG) : Option (Int32 × zG) :=
    (if v1 < 0 then
      (some ((nI 0), g))
    else
      (zc (X2_addresses r0 g) (fun x1 g2 =>
      (if v1 < x1 then
        ((if v1 < (nI 64) then
          (some ((nI 1), g2))
        else
          (some ((nI 0), g2))))
      else
        (some ((nI 0), g2))))))

def X2_hasDeed (r0 : Nat) (v1 : Int32) (v2 : Int32) (g : zG) : Option (Int32 × zG) :=
    (if v1 < 0 then
      (some ((nI 0), g))
    else
      ((if v1 < (g 6001 r0 0) then
        ((if v1 < (nI 4) then
          ((if v2 < 0 then
            (some ((nI 0), g))
          else
            (zi v1 4 (
            (if v2 < (g 11 r0 v1.toNatClampNeg) then
              ((if v2 < (nI 24) then
                (some ((nI 1), g))
              else
                (some ((nI 0), g))))
            else
              (some ((nI 0), g)))))))
        else
          (some ((nI 0), g))))
      else
        (some ((nI 0), g)))))

def X2_sortOf (r0 : Nat) (v1 : Int32) (v2 : Int32) (g : zG) : Option (Int32 × zG) :=
    zc (X2_hasDeed r0 v1 v2 g) (fun x1 g2 =>
    (if x1 = 0 then
      (some ((-1), g2))
    else
      (zi ((v1 * (nI 24)) + v2) 96 (
      some ((g2 12 r0 ((v1 * (nI 24)) + v2).toNatClampNeg), g2)))))

def X2_wholeOf (r0 : Nat) (v1 : Int32) (v2 : Int32) (g : zG) : Option (Int32 × zG) :=
    zc (X2_hasDeed r0 v1 v2 g) (fun x1 g2 =>
    (if x1 = 0 then
      (some ((-2), g2))
    else
      (zi ((v1 * (nI 24)) + v2) 96 (
      some ((g2 13 r0 ((v1 * (nI 24)) + v2).toNatClampNeg), g2)))))

def X2_isIndexed (r0 : Nat) (v1 : Int32) (v2 : Int32) (g : zG) : Option (Int32 × zG) :=
    zc (X2_hasDeed r0 v1 v2 g) (fun x1 g2 =>
    (if x1 = 0 then
      (some ((nI 0), g2))
    else
      (zi ((v1 * (nI 24)) + v2) 96 (
      (if (g2 14 r0 ((v1 * (nI 24)) + v2).toNatClampNeg) = 0 then
        (some ((nI 0), g2))
      else
        (some ((nI 1), g2)))))))

def X2_deedsInAll_l4  : Nat → Nat → Int32 → Int32 → zG → Option (Int32 × zG)
  | 0, _, _, _, _ => none
  | n + 1, r0, v1, v2, g =>
    (if v2 < (nI 4) then
      (zi v2 4 (
      X2_deedsInAll_l4  n r0 (v1 + (g 11 r0 v2.toNatClampNeg)) (v2 + (nI 1)) g))
    else
      (some (v1, g)))

def X2_deedsInAll (r0 : Nat) (g : zG) : Option (Int32 × zG) :=
    X2_deedsInAll_l4  zfuel r0 (nI 0) (nI 0) g

def J9_floorMod_7cf53 (v0 : Int32) (v1 : Int32) (g : zG) : Option (Int32 × zG) :=
    if v1 = 0 then none else (if (v0 ^^^ v1) < 0 then
      ((if (v0 - v0 / v1 * v1) = 0 then
        (some ((v0 - v0 / v1 * v1), g))
      else
        (some (((v0 - v0 / v1 * v1) + v1), g))))
    else
      (some ((v0 - v0 / v1 * v1), g)))

def X2_addressOf_b39  (r0 : Nat) (v4 : Int32) (g : zG) : Option (Int32 × zG) :=
    zc (X2_hasAddress r0 v4 g) (fun x1 g2 =>
    (if x1 = 0 then
      (some ((nI 0), g2))
    else
      (some (v4, g2))))

def X2_addressOf (r0 : Nat) (v1 : Int32) (v2 : Int32) (v3 : Int32) (g : zG) : Option (Int32 × zG) :=
    zc (X2_wholeOf r0 v1 v2 g) (fun x1 g2 =>
    zc (X2_addresses r0 g2) (fun x4 g5 =>
    zc (X2_isIndexed r0 v1 v2 g5) (fun x7 g8 =>
    (if x7 = 0 then
      (X2_addressOf_b39  r0 x1 g8)
    else
      ((if 0 < x4 then
        (zc (J9_floorMod_7cf53 (x1 + v3) x4 g8) (fun x10 g11 =>
        X2_addressOf_b39  r0 x10 g11))
      else
        (X2_addressOf_b39  r0 x1 g8)))))))

def X2_lineOf (r0 : Nat) (v1 : Int32) (g : zG) : Option (Int32 × zG) :=
    (if 0 < (g 3001 r0 0) then
      (if (g 3001 r0 0) = 0 then none else some ((v1 / (g 3001 r0 0)), g))
    else
      (some ((nI 0), g)))

def X2_offsetOf (r0 : Nat) (v1 : Int32) (g : zG) : Option (Int32 × zG) :=
    (if 0 < (g 3001 r0 0) then
      (if (g 3001 r0 0) = 0 then none else some ((v1 - v1 / (g 3001 r0 0) * (g 3001 r0 0)), g))
    else
      (some ((nI 0), g)))

def X2_addWord (r0 : Nat) (v1 : Int32) (v2 : Int32) (g : zG) : Option (Int32 × zG) :=
    zc (X2_hasAddress r0 v1 g) (fun x1 g2 =>
    (if x1 = 0 then
      (some (0, g2))
    else
      (zi v1 64 (zw g2 15 r0 v1.toNatClampNeg v2 (fun g4 =>
      zw g4 7001 r0 0 ((g4 7001 r0 0) + (nI 1)) (fun g5 =>
      some (0, g5)))))))

def X2_addDeed (r0 : Nat) (v1 : Int32) (v2 : Int32) (v3 : Int32) (g : zG) : Option (Int32 × zG) :=
    zc (X2_hasCore r0 ((g 6001 r0 0) - (nI 1)) g) (fun x1 g2 =>
    (if x1 = 0 then
      (some (0, g2))
    else
      (zi ((g 6001 r0 0) - (nI 1)) 4 (
      (if (g2 11 r0 ((g 6001 r0 0) - (nI 1)).toNatClampNeg) < (nI 24) then
        (zi ((g 6001 r0 0) - (nI 1)) 4 (
        zi ((((g 6001 r0 0) - (nI 1)) * (nI 24)) + (g2 11 r0 ((g 6001 r0 0) - (nI 1)).toNatClampNeg)) 96 (zw g2 12 r0 ((((g 6001 r0 0) - (nI 1)) * (nI 24)) + (g2 11 r0 ((g 6001 r0 0) - (nI 1)).toNatClampNeg)).toNatClampNeg v1 (fun g4 =>
        zi ((((g 6001 r0 0) - (nI 1)) * (nI 24)) + (g2 11 r0 ((g 6001 r0 0) - (nI 1)).toNatClampNeg)) 96 (zw g4 13 r0 ((((g 6001 r0 0) - (nI 1)) * (nI 24)) + (g2 11 r0 ((g 6001 r0 0) - (nI 1)).toNatClampNeg)).toNatClampNeg v2 (fun g5 =>
        zi ((((g 6001 r0 0) - (nI 1)) * (nI 24)) + (g2 11 r0 ((g 6001 r0 0) - (nI 1)).toNatClampNeg)) 96 (zw g5 14 r0 ((((g 6001 r0 0) - (nI 1)) * (nI 24)) + (g2 11 r0 ((g 6001 r0 0) - (nI 1)).toNatClampNeg)).toNatClampNeg (vp_nar .boolean v3) (fun g6 =>
        zi ((g 6001 r0 0) - (nI 1)) 4 (
        zi ((g 6001 r0 0) - (nI 1)) 4 (zw g6 11 r0 ((g 6001 r0 0) - (nI 1)).toNatClampNeg ((g6 11 r0 ((g 6001 r0 0) - (nI 1)).toNatClampNeg) + (nI 1)) (fun g7 =>
        some (0, g7))))))))))))
      else
        (some (0, g2)))))))

def X3_startOver_b63 (k33 : Nat → Int32 → zG → Option (Int32 × zG)) (r0 : Nat) (v3 : Int32) (q0 : Nat) (s1 : Int32) (s2 : Int32) (g : zG) : Option (Int32 × zG) :=
    zi s1 68 (zw g 17 q0 s1.toNatClampNeg s2 (fun g1 =>
    k33 r0 (v3 + (nI 1)) g1))

def X3_startOver_l33 (k72 : Nat → Int32 → zG → Option (Int32 × zG)) : Nat → Nat → Int32 → zG → Option (Int32 × zG)
  | 0, _, _, _ => none
  | n + 1, r0, v3, g =>
    (if v3 < (nI 68) then
      ((if v3 < (nI 64) then
        (zi v3 64 (
        X3_startOver_b63 (X3_startOver_l33 k72 n) r0 v3 r0 v3 (g 15 0 v3.toNatClampNeg) g))
      else
        (X3_startOver_b63 (X3_startOver_l33 k72 n) r0 v3 r0 v3 (nI 0) g)))
    else
      (k72 r0 (nI 0) g))

def X3_startOver_l72 (k92 : Nat → Int32 → zG → Option (Int32 × zG)) : Nat → Nat → Int32 → zG → Option (Int32 × zG)
  | 0, _, _, _ => none
  | n + 1, r0, v3, g =>
    (if v3 < (nI 3) then
      (zi v3 3 (zw g 20 r0 v3.toNatClampNeg (nI 0) (fun g1 =>
      X3_startOver_l72 k92 n r0 (v3 + (nI 1)) g1)))
    else
      (k92 r0 (nI 0) g))

def X3_startOver_l92  : Nat → Nat → Int32 → zG → Option (Int32 × zG)
  | 0, _, _, _ => none
  | n + 1, r0, v3, g =>
    (if v3 < (nI 4) then
      (zi v3 4 (
      zc (X0_clear (4 * r0 + v3.toNatClampNeg) g) (fun x3 g4 =>
      zi v3 4 (
      zc (X1_clear (4 * r0 + v3.toNatClampNeg) g4) (fun x8 g9 =>
      X3_startOver_l92  n r0 (v3 + (nI 1)) g9)))))
    else
      (some (0, g)))

def X3_startOver (r0 : Nat) (v1 : Int32) (v2 : Int32) (g : zG) : Option (Int32 × zG) :=
    zw g 8003 r0 0 v1 (fun g1 =>
    zw g1 9003 r0 0 v2 (fun g2 =>
    zw g2 7003 r0 0 (nI 0) (fun g3 =>
    zw g3 10003 r0 0 (nI 0) (fun g4 =>
    zw g4 11003 r0 0 (-2) (fun g5 =>
    zw g5 12003 r0 0 (nI 0) (fun g6 =>
    X3_startOver_l33 (fun (r0 : Nat) (v3 : Int32) g => X3_startOver_l72 (fun (r0 : Nat) (v3 : Int32) g => X3_startOver_l92  zfuel r0 v3 g) zfuel r0 v3 g) zfuel r0 (nI 0) g6))))))

def X3_copyFrom_l95  : Nat → Nat → Nat → Int32 → zG → Option (Int32 × zG)
  | 0, _, _, _, _ => none
  | n + 1, r0, r1, v2, g =>
    (if v2 < (nI 4) then
      (zi v2 4 (
      zi v2 4 (
      zc (X0_copyFrom (4 * r0 + v2.toNatClampNeg) (4 * r1 + v2.toNatClampNeg) g) (fun x5 g6 =>
      zi v2 4 (
      zi v2 4 (
      zc (X1_copyFrom (4 * r0 + v2.toNatClampNeg) (4 * r1 + v2.toNatClampNeg) g6) (fun x12 g13 =>
      X3_copyFrom_l95  n r0 r1 (v2 + (nI 1)) g13)))))))
    else
      (some (0, g)))

def X3_copyFrom (r0 : Nat) (r1 : Nat) (g : zG) : Option (Int32 × zG) :=
    zw g 8003 r0 0 (g 8003 r1 0) (fun g1 =>
    zw g1 9003 r0 0 (g1 9003 r1 0) (fun g2 =>
    zw g2 7003 r0 0 (g2 7003 r1 0) (fun g3 =>
    zw g3 10003 r0 0 (g3 10003 r1 0) (fun g4 =>
    zw g4 11003 r0 0 (g4 11003 r1 0) (fun g5 =>
    zw g5 12003 r0 0 (g5 12003 r1 0) (fun g6 =>
    zcq g6 17 r0 17 r1 68 (fun g7 =>
    zcq g7 20 r0 20 r1 3 (fun g8 =>
    zcq g8 21 r0 21 r1 192 (fun g9 =>
    X3_copyFrom_l95  zfuel r0 r1 (nI 0) g9)))))))))

def X3_hasDeedsLeft (r0 : Nat) (v1 : Int32) (g : zG) : Option (Int32 × zG) :=
    zc (X2_hasCore 0 v1 g) (fun x1 g2 =>
    (if x1 = 0 then
      (some ((nI 0), g2))
    else
      (zi v1 4 (
      zi v1 4 (
      (if (g2 1005 (4 * r0 + v1.toNatClampNeg) 0) < (g2 11 0 v1.toNatClampNeg) then
        (some ((nI 1), g2))
      else
        (some ((nI 0), g2))))))))

def X3_isAllDone_l2  : Nat → Nat → Int32 → zG → Option (Int32 × zG)
  | 0, _, _, _ => none
  | n + 1, r0, v1, g =>
    (if v1 < (nI 4) then
      (zc (X3_hasDeedsLeft r0 v1 g) (fun x1 g2 =>
      (if x1 = 0 then
        (X3_isAllDone_l2  n r0 (v1 + (nI 1)) g2)
      else
        (some ((nI 0), g2)))))
    else
      (some ((nI 1), g)))

def X3_isAllDone (r0 : Nat) (g : zG) : Option (Int32 × zG) :=
    X3_isAllDone_l2  zfuel r0 (nI 0) g

def X3_marking_b86 (k6 : Nat → Int32 → Int32 → Int32 → Int32 → Int32 → zG → Option (Int32 × zG)) (r0 : Nat) (v1 : Int32) (v2 : Int32) (v3 : Int32) (v4 : Int32) (v5 : Int32) (g : zG) : Option (Int32 × zG) :=
    k6 r0 v1 v2 v3 v4 (v5 + (nI 1)) g

def X3_marking_b77 (k6 : Nat → Int32 → Int32 → Int32 → Int32 → Int32 → zG → Option (Int32 × zG)) (r0 : Nat) (v1 : Int32) (v2 : Int32) (v3 : Int32) (v4 : Int32) (v5 : Int32) (g : zG) : Option (Int32 × zG) :=
    X3_marking_b86 k6 r0 v1 v2 v3 (v4 ||| ((nI 1) <<< (v5 &&& 31))) v5 g

def X3_marking_b33 (k6 : Nat → Int32 → Int32 → Int32 → Int32 → Int32 → zG → Option (Int32 × zG)) (r0 : Nat) (v1 : Int32) (v2 : Int32) (v3 : Int32) (v4 : Int32) (v5 : Int32) (s0 : Int32) (g : zG) : Option (Int32 × zG) :=
    (if s0 = (-1) then
      (X3_marking_b86 k6 r0 v1 v2 v3 v4 v5 g)
    else
      (zi v5 4 (
      zi s0 16 (
      (if (g 25 (4 * r0 + v5.toNatClampNeg) s0.toNatClampNeg) = 0 then
        ((if v3 = 0 then
          (zi v5 4 (
          zi s0 16 (
          (if (g 24 (4 * r0 + v5.toNatClampNeg) s0.toNatClampNeg) = 0 then
            (X3_marking_b86 k6 r0 v1 v2 v3 v4 v5 g)
          else
            (X3_marking_b77 k6 r0 v1 v2 v3 v4 v5 g)))))
        else
          (X3_marking_b86 k6 r0 v1 v2 v3 v4 v5 g)))
      else
        (X3_marking_b77 k6 r0 v1 v2 v3 v4 v5 g))))))

def X3_marking_l6  : Nat → Nat → Int32 → Int32 → Int32 → Int32 → Int32 → zG → Option (Int32 × zG)
  | 0, _, _, _, _, _, _, _ => none
  | n + 1, r0, v1, v2, v3, v4, v5, g =>
    (if v5 < (nI 4) then
      ((if v5 = v1 then
        (X3_marking_b33 (X3_marking_l6  n) r0 v1 v2 v3 v4 v5 (-1) g)
      else
        (zi v5 4 (
        zc (X0_find (4 * r0 + v5.toNatClampNeg) v2 g) (fun x3 g4 =>
        X3_marking_b33 (X3_marking_l6  n) r0 v1 v2 v3 v4 v5 x3 g4)))))
    else
      (some (v4, g)))

def X3_marking (r0 : Nat) (v1 : Int32) (v2 : Int32) (v3 : Int32) (g : zG) : Option (Int32 × zG) :=
    X3_marking_l6  zfuel r0 v1 v2 v3 (nI 0) (nI 0) g

def X3_lostAfter (r0 : Nat) (v1 : Int32) (v2 : Int32) (g : zG) : Option (Int32 × zG) :=
    (if v2 = (nI 1) then
      (some ((g 9003 r0 0), g))
    else
      ((if v2 = 0 then
        (zi v1 4 (
        some (((g 6005 (4 * r0 + v1.toNatClampNeg) 0) + (nI 1)), g)))
      else
        (zi v1 4 (
        some ((g 6005 (4 * r0 + v1.toNatClampNeg) 0), g))))))

def X3_endTries_b84 (k2 : Nat → Int32 → Int32 → Int32 → zG → Option (Int32 × zG)) (r0 : Nat) (v1 : Int32) (v2 : Int32) (v3 : Int32) (g : zG) : Option (Int32 × zG) :=
    k2 r0 v1 v2 (v3 + (nI 1)) g

def X3_endTries_l2  : Nat → Nat → Int32 → Int32 → Int32 → zG → Option (Int32 × zG)
  | 0, _, _, _, _, _ => none
  | n + 1, r0, v1, v2, v3, g =>
    (if v3 < (nI 4) then
      ((if ((v1 >>> (v3 &&& 31)) &&& (nI 1)) = (nI 1) then
        (zi v3 4 (
        zi v3 4 (
        zc (X0_unmark (4 * r0 + v3.toNatClampNeg) (nI 1) g) (fun x6 g7 =>
        zw g7 3005 (4 * r0 + v3.toNatClampNeg) 0 (nI 0) (fun g9 =>
        zw g9 4005 (4 * r0 + v3.toNatClampNeg) 0 (nI 0) (fun g10 =>
        zw g10 1005 (4 * r0 + v3.toNatClampNeg) 0 (g10 2005 (4 * r0 + v3.toNatClampNeg) 0) (fun g11 =>
        zw g11 5005 (4 * r0 + v3.toNatClampNeg) 0 (nI 0) (fun g12 =>
        zc (X3_lostAfter r0 v3 v2 g12) (fun x13 g14 =>
        zw g14 6005 (4 * r0 + v3.toNatClampNeg) 0 x13 (fun g16 =>
        zi v2 7 (
        zi v2 7 (zw g16 28 (4 * r0 + v3.toNatClampNeg) v2.toNatClampNeg ((g16 28 (4 * r0 + v3.toNatClampNeg) v2.toNatClampNeg) + (nI 1)) (fun g17 =>
        X3_endTries_b84 (X3_endTries_l2  n) r0 v1 v2 v3 g17)))))))))))))
      else
        (X3_endTries_b84 (X3_endTries_l2  n) r0 v1 v2 v3 g)))
    else
      (zw g 12003 r0 0 ((g 12003 r0 0) ||| v1) (fun g1 =>
      some (0, g1))))

def X3_endTries (r0 : Nat) (v1 : Int32) (v2 : Int32) (g : zG) : Option (Int32 × zG) :=
    X3_endTries_l2  zfuel r0 v1 v2 (nI 0) g

def X3_ask_b100  (r0 : Nat) (v4 : Int32) (g : zG) : Option (Int32 × zG) :=
    zc (X3_endTries r0 v4 (nI 0) g) (fun x1 g2 =>
    some ((nI 1), g2))

def X3_ask_b94 (k53 : Nat → Int32 → Int32 → Int32 → zG → Option (Int32 × zG)) (r0 : Nat) (v1 : Int32) (v4 : Int32) (v5 : Int32) (g : zG) : Option (Int32 × zG) :=
    k53 r0 v1 v4 (v5 + (nI 1)) g

def X3_ask_l53 (k100 : Nat → Int32 → zG → Option (Int32 × zG)) : Nat → Nat → Int32 → Int32 → Int32 → zG → Option (Int32 × zG)
  | 0, _, _, _, _, _ => none
  | n + 1, r0, v1, v4, v5, g =>
    (if v5 < (nI 4) then
      ((if ((v4 >>> (v5 &&& 31)) &&& (nI 1)) = (nI 1) then
        (zi v5 4 (
        zi v1 4 (
        (if (g 7005 (4 * r0 + v1.toNatClampNeg) 0) < (g 7005 (4 * r0 + v5.toNatClampNeg) 0) then
          (X3_ask_b94 (X3_ask_l53 k100 n) r0 v1 v4 v5 g)
        else
          (some ((nI 2), g))))))
      else
        (X3_ask_b94 (X3_ask_l53 k100 n) r0 v1 v4 v5 g)))
    else
      (k100 r0 v4 g))

def X3_ask_b12  (r0 : Nat) (v1 : Int32) (q0 : Nat) (s1 : Int32) (s2 : Int32) (s3 : Int32) (g : zG) : Option (Int32 × zG) :=
    zc (X3_marking q0 s1 s2 s3 g) (fun x1 g2 =>
    (if x1 = 0 then
      (some ((nI 1), g2))
    else
      ((if (g2 8003 r0 0) = (nI 2) then
        (zc (X3_endTries r0 ((nI 1) <<< (v1 &&& 31)) (nI 0) g2) (fun x4 g5 =>
        some ((nI 3), g5)))
      else
        ((if (g2 8003 r0 0) = (nI 1) then
          (X3_ask_l53 (fun (r0 : Nat) (v4 : Int32) g => X3_ask_b100  r0 v4 g) zfuel r0 v1 x1 (nI 0) g2)
        else
          (X3_ask_b100  r0 x1 g2)))))))

def X3_ask (r0 : Nat) (v1 : Int32) (v2 : Int32) (v3 : Int32) (g : zG) : Option (Int32 × zG) :=
    (if v3 = 0 then
      (X3_ask_b12  r0 v1 r0 v1 v2 (nI 1) g)
    else
      (X3_ask_b12  r0 v1 r0 v1 v2 (nI 0) g))

def X3_writeBack_b67 (k13 : Nat → Nat → Int32 → Int32 → zG → Option (Int32 × zG)) (r0 : Nat) (r1 : Nat) (v2 : Int32) (v3 : Int32) (g : zG) : Option (Int32 × zG) :=
    k13 r0 r1 v2 (v3 + (nI 1)) g

def X3_writeBack_l13  : Nat → Nat → Nat → Int32 → Int32 → zG → Option (Int32 × zG)
  | 0, _, _, _, _, _ => none
  | n + 1, r0, r1, v2, v3, g =>
    (if v3 < (g 3001 0 0) then
      (zi v2 16 (
      (if (((g 22 r1 v2.toNatClampNeg) * (g 3001 0 0)) + v3) < 0 then
        (X3_writeBack_b67 (X3_writeBack_l13  n) r0 r1 v2 v3 g)
      else
        ((if (((g 22 r1 v2.toNatClampNeg) * (g 3001 0 0)) + v3) < (nI 68) then
          (zc (X0_wordIn r1 v2 v3 g) (fun x2 g3 =>
          zi (((g 22 r1 v2.toNatClampNeg) * (g 3001 0 0)) + v3) 68 (zw g3 17 r0 (((g 22 r1 v2.toNatClampNeg) * (g 3001 0 0)) + v3).toNatClampNeg x2 (fun g5 =>
          X3_writeBack_b67 (X3_writeBack_l13  n) r0 r1 v2 v3 g5))))
        else
          (X3_writeBack_b67 (X3_writeBack_l13  n) r0 r1 v2 v3 g))))))
    else
      (zi (nI 1) 3 (
      zi (nI 1) 3 (zw g 20 r0 (nI 1).toNatClampNeg ((g 20 r0 (nI 1).toNatClampNeg) + (nI 1)) (fun g1 =>
      some (0, g1))))))

def X3_writeBack (r0 : Nat) (r1 : Nat) (v2 : Int32) (g : zG) : Option (Int32 × zG) :=
    (if v2 < 0 then
      (some (0, g))
    else
      ((if v2 < (nI 16) then
        (X3_writeBack_l13  zfuel r0 r1 v2 (nI 0) g)
      else
        (some (0, g)))))

def X3_changeOthers_b120 (k6 : Nat → Int32 → Int32 → Int32 → Int32 → Int32 → zG → Option (Int32 × zG)) (r0 : Nat) (v1 : Int32) (v2 : Int32) (v3 : Int32) (v4 : Int32) (v5 : Int32) (g : zG) : Option (Int32 × zG) :=
    k6 r0 v1 v2 v3 v4 (v5 + (nI 1)) g

def X3_changeOthers_b74 (k6 : Nat → Int32 → Int32 → Int32 → Int32 → Int32 → zG → Option (Int32 × zG)) (r0 : Nat) (v1 : Int32) (v2 : Int32) (v3 : Int32) (v4 : Int32) (v5 : Int32) (v6 : Int32) (g : zG) : Option (Int32 × zG) :=
    (if v3 = 0 then
      (zi v5 4 (
      zi v6 16 (zw g 23 (4 * r0 + v5.toNatClampNeg) v6.toNatClampNeg (nI 1) (fun g3 =>
      X3_changeOthers_b120 k6 r0 v1 v2 v3 (nI 1) v5 g3))))
    else
      (zi v5 4 (
      zc (X0_dropLine (4 * r0 + v5.toNatClampNeg) v6 g) (fun x6 g7 =>
      zi (nI 2) 3 (
      zi (nI 2) 3 (zw g7 20 r0 (nI 2).toNatClampNeg ((g7 20 r0 (nI 2).toNatClampNeg) + (nI 1)) (fun g9 =>
      X3_changeOthers_b120 k6 r0 v1 v2 v3 v4 v5 g9)))))))

def X3_changeOthers_b33 (k6 : Nat → Int32 → Int32 → Int32 → Int32 → Int32 → zG → Option (Int32 × zG)) (r0 : Nat) (v1 : Int32) (v2 : Int32) (v3 : Int32) (v4 : Int32) (v5 : Int32) (s0 : Int32) (g : zG) : Option (Int32 × zG) :=
    (if s0 = (-1) then
      (X3_changeOthers_b120 k6 r0 v1 v2 v3 v4 v5 g)
    else
      (zi v5 4 (
      zi s0 16 (
      (if (g 23 (4 * r0 + v5.toNatClampNeg) s0.toNatClampNeg) = (nI 3) then
        (zi v5 4 (
        zc (X3_writeBack r0 (4 * r0 + v5.toNatClampNeg) s0 g) (fun x5 g6 =>
        X3_changeOthers_b74 k6 r0 v1 v2 v3 v4 v5 s0 g6)))
      else
        (X3_changeOthers_b74 k6 r0 v1 v2 v3 v4 v5 s0 g))))))

def X3_changeOthers_l6  : Nat → Nat → Int32 → Int32 → Int32 → Int32 → Int32 → zG → Option (Int32 × zG)
  | 0, _, _, _, _, _, _, _ => none
  | n + 1, r0, v1, v2, v3, v4, v5, g =>
    (if v5 < (nI 4) then
      ((if v5 = v1 then
        (X3_changeOthers_b33 (X3_changeOthers_l6  n) r0 v1 v2 v3 v4 v5 (-1) g)
      else
        (zi v5 4 (
        zc (X0_find (4 * r0 + v5.toNatClampNeg) v2 g) (fun x3 g4 =>
        X3_changeOthers_b33 (X3_changeOthers_l6  n) r0 v1 v2 v3 v4 v5 x3 g4)))))
    else
      (zbo v4 (some (v4, g))))

def X3_changeOthers (r0 : Nat) (v1 : Int32) (v2 : Int32) (v3 : Int32) (g : zG) : Option (Int32 × zG) :=
    X3_changeOthers_l6  zfuel r0 v1 v2 v3 (nI 0) (nI 0) g

def X3_bringLine_b63 (k10 : Nat → Nat → Int32 → Int32 → Int32 → zG → Option (Int32 × zG)) (r0 : Nat) (r1 : Nat) (v2 : Int32) (v3 : Int32) (v4 : Int32) (q0 : Nat) (s1 : Int32) (s2 : Int32) (s3 : Int32) (g : zG) : Option (Int32 × zG) :=
    zc (X0_setWord q0 s1 s2 s3 g) (fun x1 g2 =>
    k10 r0 r1 v2 v3 (v4 + (nI 1)) g2)

def X3_bringLine_b62 (k10 : Nat → Nat → Int32 → Int32 → Int32 → zG → Option (Int32 × zG)) (r0 : Nat) (r1 : Nat) (v2 : Int32) (v3 : Int32) (v4 : Int32) (q0 : Nat) (s1 : Int32) (s2 : Int32) (g : zG) : Option (Int32 × zG) :=
    X3_bringLine_b63 k10 r0 r1 v2 v3 v4 q0 s1 s2 (nI 0) g

def X3_bringLine_l10  : Nat → Nat → Nat → Int32 → Int32 → Int32 → zG → Option (Int32 × zG)
  | 0, _, _, _, _, _, _ => none
  | n + 1, r0, r1, v2, v3, v4, g =>
    (if v4 < (g 3001 0 0) then
      ((if ((v3 * (g 3001 0 0)) + v4) < 0 then
        (X3_bringLine_b62 (X3_bringLine_l10  n) r0 r1 v2 v3 v4 r1 v2 v4 g)
      else
        ((if ((v3 * (g 3001 0 0)) + v4) < (nI 68) then
          (zi ((v3 * (g 3001 0 0)) + v4) 68 (
          X3_bringLine_b63 (X3_bringLine_l10  n) r0 r1 v2 v3 v4 r1 v2 v4 (g 17 r0 ((v3 * (g 3001 0 0)) + v4).toNatClampNeg) g))
        else
          (X3_bringLine_b62 (X3_bringLine_l10  n) r0 r1 v2 v3 v4 r1 v2 v4 g)))))
    else
      (zi (nI 0) 3 (
      zi (nI 0) 3 (zw g 20 r0 (nI 0).toNatClampNeg ((g 20 r0 (nI 0).toNatClampNeg) + (nI 1)) (fun g1 =>
      some (0, g1))))))

def X3_bringLine (r0 : Nat) (r1 : Nat) (v2 : Int32) (v3 : Int32) (g : zG) : Option (Int32 × zG) :=
    zi v2 16 (zw g 22 r1 v2.toNatClampNeg v3 (fun g1 =>
    X3_bringLine_l10  zfuel r0 r1 v2 v3 (nI 0) g1))

def X3_reach_b157  (r0 : Nat) (r5 : Nat) (v6 : Int32) (g : zG) : Option (Int32 × zG) :=
    zi v6 16 (zw g 26 r5 v6.toNatClampNeg (g 10003 r0 0) (fun g1 =>
    some ((nI 1), g1)))

def X3_reach_b144  (r0 : Nat) (v3 : Int32) (r5 : Nat) (v6 : Int32) (g : zG) : Option (Int32 × zG) :=
    (if v3 = 0 then
      (X3_reach_b157  r0 r5 v6 g)
    else
      (zi v6 16 (zw g 23 r5 v6.toNatClampNeg (nI 3) (fun g1 =>
      X3_reach_b157  r0 r5 v6 g1))))

def X3_reach_b143  (r0 : Nat) (v3 : Int32) (r5 : Nat) (v6 : Int32) (q0 : Nat) (s1 : Int32) (s2 : Int32) (g : zG) : Option (Int32 × zG) :=
    zi s1 16 (zw g 23 q0 s1.toNatClampNeg s2 (fun g1 =>
    X3_reach_b144  r0 v3 r5 v6 g1))

def X3_reach_b103  (r0 : Nat) (v1 : Int32) (v2 : Int32) (v3 : Int32) (r5 : Nat) (v6 : Int32) (v7 : Int32) (g : zG) : Option (Int32 × zG) :=
    zc (X3_changeOthers r0 v1 v2 v3 g) (fun x1 g2 =>
    (if v7 = 0 then
      (X3_reach_b144  r0 v3 r5 v6 g2)
    else
      (zc (X3_bringLine r0 r5 v6 v2 g2) (fun x4 g5 =>
      (if x1 = 0 then
        (X3_reach_b143  r0 v3 r5 v6 r5 v6 (nI 2) g5)
      else
        (X3_reach_b143  r0 v3 r5 v6 r5 v6 (nI 1) g5))))))

def X3_reach_b96  (r0 : Nat) (v1 : Int32) (v2 : Int32) (v3 : Int32) (r5 : Nat) (v6 : Int32) (v7 : Int32) (g : zG) : Option (Int32 × zG) :=
    zc (X0_dropLine r5 v6 g) (fun x1 g2 =>
    X3_reach_b103  r0 v1 v2 v3 r5 v6 v7 g2)

def X3_reach_b45  (r0 : Nat) (v1 : Int32) (v2 : Int32) (v3 : Int32) (r5 : Nat) (v6 : Int32) (s0 : Int32) (g : zG) : Option (Int32 × zG) :=
    (if s0 = 0 then
      (X3_reach_b103  r0 v1 v2 v3 r5 v6 s0 g)
    else
      (zc (X0_findRoom r5 v2 g) (fun x1 g2 =>
      (if x1 = (-1) then
        (zc (X3_endTries r0 ((nI 1) <<< (v1 &&& 31)) (nI 1) g2) (fun x7 g8 =>
        some ((nI 3), g8)))
      else
        (zi x1 16 (
        (if (g2 23 r5 x1.toNatClampNeg) = (nI 3) then
          (zc (X3_writeBack r0 r5 x1 g2) (fun x4 g5 =>
          X3_reach_b96  r0 v1 v2 v3 r5 x1 s0 g5))
        else
          (X3_reach_b96  r0 v1 v2 v3 r5 x1 s0 g2))))))))

def X3_reach (r0 : Nat) (v1 : Int32) (v2 : Int32) (v3 : Int32) (g : zG) : Option (Int32 × zG) :=
    zc (X3_ask r0 v1 v2 v3 g) (fun x1 g2 =>
    (if x1 = (nI 1) then
      (zi v1 4 (
      zc (X0_find (4 * r0 + v1.toNatClampNeg) v2 g2) (fun x6 g7 =>
      (if x6 = (-1) then
        (X3_reach_b45  r0 v1 v2 v3 (4 * r0 + v1.toNatClampNeg) x6 (nI 1) g7)
      else
        (X3_reach_b45  r0 v1 v2 v3 (4 * r0 + v1.toNatClampNeg) x6 (nI 0) g7)))))
    else
      (some (x1, g2))))

def X3_markLine (r0 : Nat) (v1 : Int32) (v2 : Int32) (v3 : Int32) (g : zG) : Option (Int32 × zG) :=
    zi v1 4 (
    zc (X0_find (4 * r0 + v1.toNatClampNeg) v2 g) (fun x3 g4 =>
    (if x3 = (-1) then
      (some (0, g4))
    else
      ((if v3 = 0 then
        (zi v1 4 (
        zi x3 16 (zw g4 24 (4 * r0 + v1.toNatClampNeg) x3.toNatClampNeg (nI 1) (fun g8 =>
        some (0, g8)))))
      else
        (zi v1 4 (
        zi x3 16 (zw g4 25 (4 * r0 + v1.toNatClampNeg) x3.toNatClampNeg (nI 1) (fun g11 =>
        some (0, g11))))))))))

def X3_doBegin_b93  (r0 : Nat) (r2 : Nat) (g : zG) : Option (Int32 × zG) :=
    zw g 3005 r2 0 (nI 0) (fun g1 =>
    zw g1 4005 r2 0 (nI 0) (fun g2 =>
    zw g2 2005 r2 0 (g2 1005 r2 0) (fun g3 =>
    (if (g3 7005 r2 0) = (-2) then
      (zw g3 7005 r2 0 (g3 10003 r0 0) (fun g4 =>
      some ((nI 1), g4)))
    else
      (some ((nI 1), g3))))))

def X3_doBegin (r0 : Nat) (v1 : Int32) (r2 : Nat) (g : zG) : Option (Int32 × zG) :=
    (if (g 11003 r0 0) = (-2) then
      ((if (g 6005 r2 0) < (g 9003 r0 0) then
        (zc (X3_reach r0 v1 (nI 16) (nI 0) g) (fun x12 g13 =>
        (if x12 = (nI 1) then
          (zc (X3_markLine r0 v1 (nI 16) (nI 0) g13) (fun x15 g16 =>
          zw g16 5005 r2 0 (nI 1) (fun g18 =>
          X3_doBegin_b93  r0 r2 g18)))
        else
          (some (x12, g13)))))
      else
        (zc (X3_marking r0 v1 (nI 16) (nI 0) g) (fun x1 g2 =>
        zc (X3_endTries r0 x1 (nI 3) g2) (fun x4 g5 =>
        zc (X3_reach r0 v1 (nI 16) (nI 1) g5) (fun x7 g8 =>
        (if x7 = (nI 1) then
          (zw g8 11003 r0 0 v1 (fun g10 =>
          zw g10 5005 r2 0 (nI 2) (fun g11 =>
          X3_doBegin_b93  r0 r2 g11)))
        else
          (some (x7, g8)))))))))
    else
      (some ((nI 2), g)))

def X3_doEnd_b136  (r2 : Nat) (g : zG) : Option (Int32 × zG) :=
    zw g 6005 r2 0 (nI 0) (fun g1 =>
    zw g1 7005 r2 0 (-2) (fun g2 =>
    zw g2 5005 r2 0 (nI 0) (fun g3 =>
    some (0, g3))))

def X3_doEnd_b125  (r0 : Nat) (r2 : Nat) (q0 : Nat) (s1 : Int32) (s2 : Int32) (g : zG) : Option (Int32 × zG) :=
    zi s1 192 (zw g 21 q0 s1.toNatClampNeg s2 (fun g1 =>
    zw g1 7003 r0 0 ((g1 7003 r0 0) + (nI 1)) (fun g2 =>
    X3_doEnd_b136  r2 g2)))

def X3_doEnd_b47  (r0 : Nat) (v1 : Int32) (r2 : Nat) (v3 : Int32) (g : zG) : Option (Int32 × zG) :=
    zi (nI 4) 7 (
    zi (nI 4) 7 (zw g 28 r2 (nI 4).toNatClampNeg ((g 28 r2 (nI 4).toNatClampNeg) + (nI 1)) (fun g1 =>
    (if (g1 7003 r0 0) < (nI 48) then
      (zi ((g1 7003 r0 0) * (nI 4)) 192 (zw g1 21 r0 ((g1 7003 r0 0) * (nI 4)).toNatClampNeg v1 (fun g2 =>
      zi (((g1 7003 r0 0) * (nI 4)) + (nI 1)) 192 (zw g2 21 r0 (((g1 7003 r0 0) * (nI 4)) + (nI 1)).toNatClampNeg (g2 2005 r2 0) (fun g3 =>
      zi (((g1 7003 r0 0) * (nI 4)) + (nI 2)) 192 (zw g3 21 r0 (((g1 7003 r0 0) * (nI 4)) + (nI 2)).toNatClampNeg (g3 10003 r0 0) (fun g4 =>
      (if v3 = 0 then
        (X3_doEnd_b125  r0 r2 r0 (((g1 7003 r0 0) * (nI 4)) + (nI 3)) (nI 0) g4)
      else
        (X3_doEnd_b125  r0 r2 r0 (((g1 7003 r0 0) * (nI 4)) + (nI 3)) (nI 1) g4)))))))))
    else
      (X3_doEnd_b136  r2 g1)))))

def X3_doEnd_b13  (r0 : Nat) (v1 : Int32) (r2 : Nat) (s0 : Int32) (g : zG) : Option (Int32 × zG) :=
    (if s0 = 0 then
      (zi v1 4 (
      zc (X0_unmark (4 * r0 + v1.toNatClampNeg) (nI 0) g) (fun x3 g4 =>
      X3_doEnd_b47  r0 v1 r2 s0 g4)))
    else
      (zw g 11003 r0 0 (-2) (fun g6 =>
      zi (nI 5) 7 (
      zi (nI 5) 7 (zw g6 28 r2 (nI 5).toNatClampNeg ((g6 28 r2 (nI 5).toNatClampNeg) + (nI 1)) (fun g7 =>
      X3_doEnd_b47  r0 v1 r2 s0 g7))))))

def X3_doEnd (r0 : Nat) (v1 : Int32) (r2 : Nat) (g : zG) : Option (Int32 × zG) :=
    (if (g 5005 r2 0) = (nI 2) then
      (X3_doEnd_b13  r0 v1 r2 (nI 1) g)
    else
      (X3_doEnd_b13  r0 v1 r2 (nI 0) g))

def X3_doGet_b62  (r0 : Nat) (v1 : Int32) (r2 : Nat) (v3 : Int32) (v4 : Int32) (g : zG) : Option (Int32 × zG) :=
    zi v1 4 (
    zi v1 4 (
    zc (X0_find (4 * r0 + v1.toNatClampNeg) v4 g) (fun x5 g6 =>
    zc (X2_offsetOf 0 v3 g6) (fun x8 g9 =>
    zc (X0_wordIn (4 * r0 + v1.toNatClampNeg) x5 x8 g9) (fun x11 g12 =>
    zw g12 3005 r2 0 x11 (fun g14 =>
    some ((nI 1), g14)))))))

def X3_doGet (r0 : Nat) (v1 : Int32) (r2 : Nat) (g : zG) : Option (Int32 × zG) :=
    zc (X2_addressOf 0 v1 (g 1005 r2 0) (g 4005 r2 0) g) (fun x1 g2 =>
    zc (X2_lineOf 0 x1 g2) (fun x4 g5 =>
    zc (X3_reach r0 v1 x4 (nI 0) g5) (fun x7 g8 =>
    (if x7 = (nI 1) then
      ((if (g8 5005 r2 0) = (nI 1) then
        (zc (X3_markLine r0 v1 x4 (nI 0) g8) (fun x10 g11 =>
        X3_doGet_b62  r0 v1 r2 x1 x4 g11))
      else
        (X3_doGet_b62  r0 v1 r2 x1 x4 g8)))
    else
      (some (x7, g8))))))

def X3_doPut_b133  (r0 : Nat) (r2 : Nat) (r3 : Nat) (v4 : Int32) (v9 : Int32) (g : zG) : Option (Int32 × zG) :=
    zc (X2_offsetOf 0 v4 g) (fun x1 g2 =>
    zc (X0_setWord r3 v9 x1 (g2 3005 r2 0) g2) (fun x4 g5 =>
    some ((nI 1), g5)))

def X3_doPut_b125  (r0 : Nat) (v1 : Int32) (r2 : Nat) (r3 : Nat) (v4 : Int32) (v5 : Int32) (v9 : Int32) (g : zG) : Option (Int32 × zG) :=
    zc (X3_markLine r0 v1 v5 (nI 1) g) (fun x1 g2 =>
    X3_doPut_b133  r0 r2 r3 v4 v9 g2)

def X3_doPut_b76  (r0 : Nat) (v1 : Int32) (r2 : Nat) (r3 : Nat) (v4 : Int32) (v5 : Int32) (s0 : Int32) (g : zG) : Option (Int32 × zG) :=
    zc (X3_reach r0 v1 v5 (nI 1) g) (fun x1 g2 =>
    (if x1 = (nI 1) then
      (zc (X0_find r3 v5 g2) (fun x4 g5 =>
      (if (g5 5005 r2 0) = (nI 1) then
        ((if s0 = 0 then
          (X3_doPut_b125  r0 v1 r2 r3 v4 v5 x4 g5)
        else
          (zc (X3_writeBack r0 r3 x4 g5) (fun x7 g8 =>
          X3_doPut_b125  r0 v1 r2 r3 v4 v5 x4 g8))))
      else
        (X3_doPut_b133  r0 r2 r3 v4 x4 g5))))
    else
      (some (x1, g2))))

def X3_doPut_b75  (r0 : Nat) (v1 : Int32) (r2 : Nat) (r3 : Nat) (v4 : Int32) (v5 : Int32) (g : zG) : Option (Int32 × zG) :=
    X3_doPut_b76  r0 v1 r2 r3 v4 v5 (nI 0) g

def X3_doPut (r0 : Nat) (v1 : Int32) (r2 : Nat) (g : zG) : Option (Int32 × zG) :=
    zi v1 4 (
    zc (X2_addressOf 0 v1 (g 1005 r2 0) (g 4005 r2 0) g) (fun x3 g4 =>
    zc (X2_lineOf 0 x3 g4) (fun x6 g7 =>
    zc (X0_find (4 * r0 + v1.toNatClampNeg) x6 g7) (fun x9 g10 =>
    (if x9 = (-1) then
      (X3_doPut_b75  r0 v1 r2 (4 * r0 + v1.toNatClampNeg) x3 x6 g10)
    else
      (zi x9 16 (
      (if (g10 23 (4 * r0 + v1.toNatClampNeg) x9.toNatClampNeg) = (nI 3) then
        (zi x9 16 (
        (if (g10 25 (4 * r0 + v1.toNatClampNeg) x9.toNatClampNeg) = 0 then
          (X3_doPut_b76  r0 v1 r2 (4 * r0 + v1.toNatClampNeg) x3 x6 (nI 1) g10)
        else
          (X3_doPut_b75  r0 v1 r2 (4 * r0 + v1.toNatClampNeg) x3 x6 g10))))
      else
        (X3_doPut_b75  r0 v1 r2 (4 * r0 + v1.toNatClampNeg) x3 x6 g10)))))))))

def X3_takeStep_b188  (r2 : Nat) (v4 : Int32) (g : zG) : Option (Int32 × zG) :=
    (if v4 = (nI 1) then
      (zw g 1005 r2 0 ((g 1005 r2 0) + (nI 1)) (fun g2 =>
      some (v4, g2)))
    else
      ((if v4 = (nI 2) then
        (zi (nI 6) 7 (
        zi (nI 6) 7 (zw g 28 r2 (nI 6).toNatClampNeg ((g 28 r2 (nI 6).toNatClampNeg) + (nI 1)) (fun g1 =>
        some (v4, g1)))))
      else
        (some (v4, g)))))

def X3_takeStep (r0 : Nat) (v1 : Int32) (g : zG) : Option (Int32 × zG) :=
    zw g 12003 r0 0 (nI 0) (fun g1 =>
    zc (X3_hasDeedsLeft r0 v1 g1) (fun x2 g3 =>
    (if x2 = 0 then
      (some ((nI 0), g3))
    else
      (zw g3 10003 r0 0 ((g3 10003 r0 0) + (nI 1)) (fun g5 =>
      zi v1 4 (
      zc (X2_wholeOf 0 v1 (g5 1005 (4 * r0 + v1.toNatClampNeg) 0) g5) (fun x8 g9 =>
      zc (X2_sortOf 0 v1 (g9 1005 (4 * r0 + v1.toNatClampNeg) 0) g9) (fun x11 g12 =>
      (if x11 = (nI 0) then
        (zc (X3_doBegin r0 v1 (4 * r0 + v1.toNatClampNeg) g12) (fun x14 g15 =>
        X3_takeStep_b188  (4 * r0 + v1.toNatClampNeg) x14 g15))
      else (if x11 = (nI 1) then
        (zc (X3_doEnd r0 v1 (4 * r0 + v1.toNatClampNeg) g12) (fun x17 g18 =>
        X3_takeStep_b188  (4 * r0 + v1.toNatClampNeg) (nI 1) g18))
      else (if x11 = (nI 2) then
        (zw g12 4005 (4 * r0 + v1.toNatClampNeg) 0 (g12 3005 (4 * r0 + v1.toNatClampNeg) 0) (fun g20 =>
        X3_takeStep_b188  (4 * r0 + v1.toNatClampNeg) (nI 1) g20))
      else (if x11 = (nI 3) then
        (zc (X3_doGet r0 v1 (4 * r0 + v1.toNatClampNeg) g12) (fun x21 g22 =>
        X3_takeStep_b188  (4 * r0 + v1.toNatClampNeg) x21 g22))
      else (if x11 = (nI 4) then
        (zc (X3_doPut r0 v1 (4 * r0 + v1.toNatClampNeg) g12) (fun x24 g25 =>
        X3_takeStep_b188  (4 * r0 + v1.toNatClampNeg) x24 g25))
      else (if x11 = (nI 5) then
        (zc (J9_floorMod_7cf53 ((g12 3005 (4 * r0 + v1.toNatClampNeg) 0) + x8) (nI 1000) g12) (fun x27 g28 =>
        zw g28 3005 (4 * r0 + v1.toNatClampNeg) 0 x27 (fun g30 =>
        X3_takeStep_b188  (4 * r0 + v1.toNatClampNeg) (nI 1) g30)))
      else (zc (J9_floorMod_7cf53 ((g12 3005 (4 * r0 + v1.toNatClampNeg) 0) - x8) (nI 1000) g12) (fun x31 g32 =>
        zw g32 3005 (4 * r0 + v1.toNatClampNeg) 0 x31 (fun g34 =>
        X3_takeStep_b188  (4 * r0 + v1.toNatClampNeg) (nI 1) g34)))))))))))))))))

def X3_takeRounds_b30 (k12 : Nat → Int32 → Int32 → Int32 → Int32 → zG → Option (Int32 × zG)) (r0 : Nat) (v1 : Int32) (v2 : Int32) (v3 : Int32) (v4 : Int32) (g : zG) : Option (Int32 × zG) :=
    k12 r0 v1 v2 v3 (v4 + (nI 1)) g

def X3_takeRounds_l12 (k4 : Nat → Int32 → Int32 → Int32 → zG → Option (Int32 × zG)) : Nat → Nat → Int32 → Int32 → Int32 → Int32 → zG → Option (Int32 × zG)
  | 0, _, _, _, _, _, _ => none
  | n + 1, r0, v1, v2, v3, v4, g =>
    (if v4 < (nI 4) then
      (zc (X3_takeStep r0 v4 g) (fun x1 g2 =>
      (if x1 = 0 then
        (X3_takeRounds_b30 (X3_takeRounds_l12 k4 n) r0 v1 v2 v3 v4 g2)
      else
        (X3_takeRounds_b30 (X3_takeRounds_l12 k4 n) r0 v1 (v2 + (nI 1)) v3 v4 g2))))
    else
      (k4 r0 v1 v2 (v3 + (nI 1)) g))

def X3_takeRounds_l4  : Nat → Nat → Int32 → Int32 → Int32 → zG → Option (Int32 × zG)
  | 0, _, _, _, _, _ => none
  | n + 1, r0, v1, v2, v3, g =>
    (if v3 < v1 then
      (X3_takeRounds_l12 (X3_takeRounds_l4  n) zfuel r0 v1 v2 v3 (nI 0) g)
    else
      (some (v2, g)))

def X3_takeRounds (r0 : Nat) (v1 : Int32) (g : zG) : Option (Int32 × zG) :=
    X3_takeRounds_l4  zfuel r0 v1 (nI 0) (nI 0) g

def X3_takeDraws_b70 (k8 : Nat → Int32 → Int32 → Int32 → Int32 → zG → Option (Int32 × zG)) (r0 : Nat) (v1 : Int32) (v3 : Int32) (v4 : Int32) (v5 : Int32) (g : zG) : Option (Int32 × zG) :=
    k8 r0 v1 v3 v4 (v5 + (nI 1)) g

def X3_takeDraws_l8  : Nat → Nat → Int32 → Int32 → Int32 → Int32 → zG → Option (Int32 × zG)
  | 0, _, _, _, _, _, _ => none
  | n + 1, r0, v1, v3, v4, v5, g =>
    (if v5 < v1 then
      ((if 0 < (g 6001 0 0) then
        (zc (X3_isAllDone r0 g) (fun x1 g2 =>
        (if x1 = 0 then
          (if (g2 6001 0 0) = 0 then none else zc (X3_takeStep r0 ((((((nI 25173) * v4) + (nI 13849)) - (((nI 25173) * v4) + (nI 13849)) / (nI 65536) * (nI 65536)) / (nI 256)) - (((((nI 25173) * v4) + (nI 13849)) - (((nI 25173) * v4) + (nI 13849)) / (nI 65536) * (nI 65536)) / (nI 256)) / (g2 6001 0 0) * (g2 6001 0 0)) g2) (fun x4 g5 =>
          (if x4 = 0 then
            (X3_takeDraws_b70 (X3_takeDraws_l8  n) r0 v1 v3 ((((nI 25173) * v4) + (nI 13849)) - (((nI 25173) * v4) + (nI 13849)) / (nI 65536) * (nI 65536)) v5 g5)
          else
            (X3_takeDraws_b70 (X3_takeDraws_l8  n) r0 v1 (v3 + (nI 1)) ((((nI 25173) * v4) + (nI 13849)) - (((nI 25173) * v4) + (nI 13849)) / (nI 65536) * (nI 65536)) v5 g5))))
        else
          (some (v3, g2)))))
      else
        (some (v3, g))))
    else
      (some (v3, g)))

def X3_takeDraws (r0 : Nat) (v1 : Int32) (v2 : Int32) (g : zG) : Option (Int32 × zG) :=
    X3_takeDraws_l8  zfuel r0 v1 (nI 0) v2 (nI 0) g

def X3_wordAt_b85 (k11 : Nat → Int32 → Int32 → Int32 → zG → Option (Int32 × zG)) (r0 : Nat) (v1 : Int32) (v2 : Int32) (v3 : Int32) (g : zG) : Option (Int32 × zG) :=
    k11 r0 v1 v2 (v3 + (nI 1)) g

def X3_wordAt_l11  : Nat → Nat → Int32 → Int32 → Int32 → zG → Option (Int32 × zG)
  | 0, _, _, _, _, _ => none
  | n + 1, r0, v1, v2, v3, g =>
    (if v3 < (nI 4) then
      (zi v3 4 (
      zc (X0_find (4 * r0 + v3.toNatClampNeg) v2 g) (fun x3 g4 =>
      (if x3 = (-1) then
        (X3_wordAt_b85 (X3_wordAt_l11  n) r0 v1 v2 v3 g4)
      else
        (zi v3 4 (
        zi x3 16 (
        (if (g4 23 (4 * r0 + v3.toNatClampNeg) x3.toNatClampNeg) = (nI 3) then
          (zi v3 4 (
          zi x3 16 (
          (if (g4 25 (4 * r0 + v3.toNatClampNeg) x3.toNatClampNeg) = 0 then
            (zi v3 4 (
            zc (X2_offsetOf 0 v1 g4) (fun x12 g13 =>
            zc (X0_wordIn (4 * r0 + v3.toNatClampNeg) x3 x12 g13) (fun x15 g16 =>
            some (x15, g16)))))
          else
            (X3_wordAt_b85 (X3_wordAt_l11  n) r0 v1 v2 v3 g4)))))
        else
          (X3_wordAt_b85 (X3_wordAt_l11  n) r0 v1 v2 v3 g4)))))))))
    else
      ((if v1 < 0 then
        (some ((nI 0), g))
      else
        ((if v1 < (nI 68) then
          (zi v1 68 (
          some ((g 17 r0 v1.toNatClampNeg), g)))
        else
          (some ((nI 0), g)))))))

def X3_wordAt (r0 : Nat) (v1 : Int32) (g : zG) : Option (Int32 × zG) :=
    zc (X2_lineOf 0 v1 g) (fun x1 g2 =>
    X3_wordAt_l11  zfuel r0 v1 x1 (nI 0) g2)

def X3_countInAll_b33 (k4 : Nat → Int32 → Int32 → Int32 → zG → Option (Int32 × zG)) (r0 : Nat) (v1 : Int32) (v2 : Int32) (v3 : Int32) (g : zG) : Option (Int32 × zG) :=
    k4 r0 v1 v2 (v3 + (nI 1)) g

def X3_countInAll_l4  : Nat → Nat → Int32 → Int32 → Int32 → zG → Option (Int32 × zG)
  | 0, _, _, _, _, _ => none
  | n + 1, r0, v1, v2, v3, g =>
    (if v3 < (nI 4) then
      ((if v1 < 0 then
        (X3_countInAll_b33 (X3_countInAll_l4  n) r0 v1 v2 v3 g)
      else
        ((if v1 < (nI 7) then
          (zi v3 4 (
          zi v1 7 (
          X3_countInAll_b33 (X3_countInAll_l4  n) r0 v1 (v2 + (g 28 (4 * r0 + v3.toNatClampNeg) v1.toNatClampNeg)) v3 g)))
        else
          (X3_countInAll_b33 (X3_countInAll_l4  n) r0 v1 v2 v3 g)))))
    else
      (some (v2, g)))

def X3_countInAll (r0 : Nat) (v1 : Int32) (g : zG) : Option (Int32 × zG) :=
    X3_countInAll_l4  zfuel r0 v1 (nI 0) (nI 0) g

def X4_startOver  (g : zG) : Option (Int32 × zG) :=
    zcq g 29 0 15 0 64 (fun g1 =>
    zw g1 3006 0 0 (nI 0) (fun g2 =>
    zw g2 4006 0 0 (nI 0) (fun g3 =>
    zw g3 5006 0 0 (nI 0) (fun g4 =>
    zw g4 6006 0 0 (nI 1) (fun g5 =>
    some (0, g5))))))

def J9_max_7cf53 (v0 : Int32) (v1 : Int32) (g : zG) : Option (Int32 × zG) :=
    (if v0 < v1 then
      (some (v1, g))
    else
      (some (v0, g)))

def X4_widen_b50 (k17 : Int32 → Int32 → Int32 → zG → Option (Int32 × zG)) (v1 : Int32) (v2 : Int32) (v3 : Int32) (g : zG) : Option (Int32 × zG) :=
    k17 v1 v2 (v3 + (nI 1)) g

def X4_widen_l17 (k2 : Int32 → zG → Option (Int32 × zG)) : Nat → Int32 → Int32 → Int32 → zG → Option (Int32 × zG)
  | 0, _, _, _, _ => none
  | n + 1, v1, v2, v3, g =>
    (if (nI 16) < v3 then
      (zc (J9_max_7cf53 (g 6006 0 0) v2 g) (fun x1 g2 =>
      zw g2 6006 0 0 x1 (fun g4 =>
      k2 (v1 + (nI 1)) g4)))
    else
      (zc (X2_setOf 0 v3 g) (fun x5 g6 =>
      (if x5 = v1 then
        ((if (((g6 5006 0 0) >>> (v3 &&& 31)) &&& (nI 1)) = (nI 1) then
          (X4_widen_b50 (X4_widen_l17 k2 n) v1 (v2 + (nI 1)) v3 g6)
        else
          (X4_widen_b50 (X4_widen_l17 k2 n) v1 v2 v3 g6)))
      else
        (X4_widen_b50 (X4_widen_l17 k2 n) v1 v2 v3 g6)))))

def X4_widen_l2  : Nat → Int32 → zG → Option (Int32 × zG)
  | 0, _, _ => none
  | n + 1, v1, g =>
    (if v1 < (g 1001 0 0) then
      (X4_widen_l17 (X4_widen_l2  n) zfuel v1 (nI 0) (nI 0) g)
    else
      (some (0, g)))

def X4_widen  (g : zG) : Option (Int32 × zG) :=
    X4_widen_l2  zfuel (nI 0) g

def X4_touch (v1 : Int32) (v2 : Int32) (g : zG) : Option (Int32 × zG) :=
    zc (X2_addressOf 0 v1 v2 (g 4006 0 0) g) (fun x1 g2 =>
    zc (X2_lineOf 0 x1 g2) (fun x4 g5 =>
    zw g5 5006 0 0 ((g2 5006 0 0) ||| ((nI 1) <<< (x4 &&& 31))) (fun g7 =>
    some (x1, g7))))

def X4_playDeed (v1 : Int32) (v2 : Int32) (g : zG) : Option (Int32 × zG) :=
    zc (X2_wholeOf 0 v1 v2 g) (fun x1 g2 =>
    zc (X2_sortOf 0 v1 v2 g2) (fun x4 g5 =>
    (if x4 = (nI 0) then
      (zw g5 3006 0 0 (nI 0) (fun g7 =>
      zw g7 4006 0 0 (nI 0) (fun g8 =>
      zw g8 5006 0 0 (nI 65536) (fun g9 =>
      some (0, g9)))))
    else (if x4 = (nI 1) then
      (zc (X4_widen  g5) (fun x10 g11 =>
      some (0, g11)))
    else (if x4 = (nI 2) then
      (zw g5 4006 0 0 (g5 3006 0 0) (fun g13 =>
      some (0, g13)))
    else (if x4 = (nI 3) then
      (zc (X4_touch v1 v2 g5) (fun x14 g15 =>
      zi x14 64 (
      zw g15 3006 0 0 (g15 29 0 x14.toNatClampNeg) (fun g17 =>
      some (0, g17)))))
    else (if x4 = (nI 4) then
      (zc (X4_touch v1 v2 g5) (fun x18 g19 =>
      zi x18 64 (zw g19 29 0 x18.toNatClampNeg (g19 3006 0 0) (fun g21 =>
      some (0, g21)))))
    else (if x4 = (nI 5) then
      (zc (J9_floorMod_7cf53 ((g5 3006 0 0) + x1) (nI 1000) g5) (fun x22 g23 =>
      zw g23 3006 0 0 x22 (fun g25 =>
      some (0, g25))))
    else (zc (J9_floorMod_7cf53 ((g5 3006 0 0) - x1) (nI 1000) g5) (fun x26 g27 =>
      zw g27 3006 0 0 x26 (fun g29 =>
      some (0, g29))))))))))))

def X4_play_b49 (k3 : Int32 → Int32 → Int32 → zG → Option (Int32 × zG)) (v1 : Int32) (v3 : Int32) (v4 : Int32) (g : zG) : Option (Int32 × zG) :=
    k3 v1 v3 (v4 + (nI 1)) g

def X4_play_l3  : Nat → Int32 → Int32 → Int32 → zG → Option (Int32 × zG)
  | 0, _, _, _, _ => none
  | n + 1, v1, v3, v4, g =>
    (if v4 < (nI 24) then
      (zc (X2_hasDeed 0 v1 v4 g) (fun x1 g2 =>
      (if x1 = 0 then
        (some (0, g2))
      else
        (zc (X4_playDeed v1 v4 g2) (fun x4 g5 =>
        (if v3 = 0 then
          (X4_play_b49 (X4_play_l3  n) v1 v3 v4 g5)
        else
          (zc (X2_sortOf 0 v1 v4 g5) (fun x7 g8 =>
          (if x7 = (nI 1) then
            (some (0, g8))
          else
            (X4_play_b49 (X4_play_l3  n) v1 v3 v4 g8))))))))))
    else
      (some (0, g)))

def X4_play (v1 : Int32) (v2 : Int32) (v3 : Int32) (g : zG) : Option (Int32 × zG) :=
    X4_play_l3  zfuel v1 v3 v2 g

def J9_min_7cf53 (v0 : Int32) (v1 : Int32) (g : zG) : Option (Int32 × zG) :=
    (if v1 < v0 then
      (some (v1, g))
    else
      (some (v0, g)))

def X5_kindOf_b28  (v0 : Int32) (g : zG) : Option (Int32 × zG) :=
    (if v0 = (nI 59) then
      (some ((nI 3), g))
    else
      (some ((nI 4), g)))

def X5_kindOf_b14  (v0 : Int32) (g : zG) : Option (Int32 × zG) :=
    (if v0 < (nI 48) then
      (X5_kindOf_b28  v0 g)
    else
      ((if (nI 57) < v0 then
        (X5_kindOf_b28  v0 g)
      else
        (some ((nI 2), g)))))

def X5_kindOf (v0 : Int32) (g : zG) : Option (Int32 × zG) :=
    (if v0 < (nI 97) then
      (X5_kindOf_b14  v0 g)
    else
      ((if (nI 122) < v0 then
        (X5_kindOf_b14  v0 g)
      else
        (some ((nI 1), g)))))

def X5_advance_l8 (k46 : zG → Option (Int32 × zG)) : Nat → zG → Option (Int32 × zG)
  | 0, _ => none
  | n + 1, g =>
    (if (g 6002 0 0) < (g 4002 0 0) then
      (zi (g 6002 0 0) 900 (
      (if (g 10 0 (g 6002 0 0).toNatClampNeg) = (nI 32) then
        (zw g 6002 0 0 ((g 6002 0 0) + (nI 1)) (fun g1 =>
        X5_advance_l8 k46 n  g1))
      else
        (k46  g))))
    else
      (k46  g))

def X5_advance_l114 (k157 : zG → Option (Int32 × zG)) : Nat → zG → Option (Int32 × zG)
  | 0, _ => none
  | n + 1, g =>
    (if (g 7002 0 0) < (g 4002 0 0) then
      (zi (g 7002 0 0) 900 (
      zc (X5_kindOf (g 10 0 (g 7002 0 0).toNatClampNeg) g) (fun x1 g2 =>
      (if x1 = (g2 5002 0 0) then
        (zw g2 7002 0 0 ((g2 7002 0 0) + (nI 1)) (fun g4 =>
        X5_advance_l114 k157 n  g4))
      else
        (k157  g2)))))
    else
      (k157  g))

def X5_advance_l209  : Nat → Int32 → zG → Option (Int32 × zG)
  | 0, _, _ => none
  | n + 1, v1, g =>
    (if v1 < (g 7002 0 0) then
      (zi v1 900 (
      zw g 8002 0 0 ((((g 8002 0 0) * (nI 10)) + (g 10 0 v1.toNatClampNeg)) - (nI 48)) (fun g1 =>
      X5_advance_l209  n (v1 + (nI 1)) g1)))
    else
      (some (0, g)))

def X5_advance_b180  (s0 : Int32) (s1 : Int32) (g : zG) : Option (Int32 × zG) :=
    (if s1 < s0 then
      (zw g 5002 0 0 (nI 4) (fun g2 =>
      some (0, g2)))
    else
      ((if (g 5002 0 0) = (nI 2) then
        (zw g 8002 0 0 (nI 0) (fun g1 =>
        X5_advance_l209  zfuel (g1 6002 0 0) g1))
      else
        (some (0, g)))))

def X5_advance_b157   (g : zG) : Option (Int32 × zG) :=
    (if (g 5002 0 0) = (nI 1) then
      (X5_advance_b180  ((g 7002 0 0) - (g 6002 0 0)) (nI 7) g)
    else
      (X5_advance_b180  ((g 7002 0 0) - (g 6002 0 0)) (nI 3) g))

def X5_advance_b46   (g : zG) : Option (Int32 × zG) :=
    zw g 7002 0 0 (g 6002 0 0) (fun g1 =>
    (if (g1 6002 0 0) < (g1 4002 0 0) then
      (zi (g1 6002 0 0) 900 (
      zc (X5_kindOf (g1 10 0 (g1 6002 0 0).toNatClampNeg) g1) (fun x2 g3 =>
      zw g3 5002 0 0 x2 (fun g5 =>
      zw g5 7002 0 0 ((g5 7002 0 0) + (nI 1)) (fun g6 =>
      (if (g6 5002 0 0) = (nI 1) then
        (X5_advance_l114 (fun  g => X5_advance_b157   g) zfuel  g6)
      else
        ((if (g6 5002 0 0) = (nI 2) then
          (X5_advance_l114 (fun  g => X5_advance_b157   g) zfuel  g6)
        else
          (some (0, g6))))))))))
    else
      (zw g1 5002 0 0 (nI 0) (fun g7 =>
      some (0, g7)))))

def X5_advance  (g : zG) : Option (Int32 × zG) :=
    zw g 6002 0 0 (g 7002 0 0) (fun g1 =>
    X5_advance_l8 (fun  g => X5_advance_b46   g) zfuel  g1)

def X5_isName_l28  : Nat → Nat → Int32 → zG → Option (Int32 × zG)
  | 0, _, _, _ => none
  | n + 1, v1, v2, g =>
    (if v2 < (nI (zslen v1)) then
      ((if ((g 6002 0 0) + v2) < (nI 900) then
        (zi ((g 6002 0 0) + v2) 900 (
        zi v2 (zslen v1) (
        (if (g 10 0 ((g 6002 0 0) + v2).toNatClampNeg) = (zsch v1 v2.toNatClampNeg) then
          (X5_isName_l28  n v1 (v2 + (nI 1)) g)
        else
          (some ((nI 0), g))))))
      else
        (some ((nI 0), g))))
    else
      (some ((nI 1), g)))

def X5_isName (v1 : Nat) (g : zG) : Option (Int32 × zG) :=
    (if (g 5002 0 0) = (nI 1) then
      ((if ((g 7002 0 0) - (g 6002 0 0)) = (nI (zslen v1)) then
        (X5_isName_l28  zfuel v1 (nI 0) g)
      else
        (some ((nI 0), g))))
    else
      (some ((nI 0), g)))

def X5_sortHere  (g : zG) : Option (Int32 × zG) :=
    zc (X5_isName 0 g) (fun x1 g2 =>
    (if x1 = 0 then
      (zc (X5_isName 1 g2) (fun x4 g5 =>
      (if x4 = 0 then
        (zc (X5_isName 2 g5) (fun x7 g8 =>
        (if x7 = 0 then
          (zc (X5_isName 3 g8) (fun x10 g11 =>
          (if x10 = 0 then
            (zc (X5_isName 4 g11) (fun x13 g14 =>
            (if x13 = 0 then
              (zc (X5_isName 5 g14) (fun x16 g17 =>
              (if x16 = 0 then
                (zc (X5_isName 6 g17) (fun x19 g20 =>
                (if x19 = 0 then
                  (zc (X5_isName 7 g20) (fun x22 g23 =>
                  (if x22 = 0 then
                    (zc (X5_isName 8 g23) (fun x25 g26 =>
                    (if x25 = 0 then
                      (zc (X5_isName 9 g26) (fun x28 g29 =>
                      (if x28 = 0 then
                        (some ((-1), g29))
                      else
                        (some ((nI 9), g29)))))
                    else
                      (some ((nI 8), g26)))))
                  else
                    (some ((nI 7), g23)))))
                else
                  (some ((nI 6), g20)))))
              else
                (some ((nI 5), g17)))))
            else
              (some ((nI 4), g14)))))
          else
            (some ((nI 3), g11)))))
        else
          (some ((nI 2), g8)))))
      else
        (some ((nI 1), g5)))))
    else
      (some ((nI 0), g2))))

def X5_fail (v1 : Int32) (v2 : Int32) (g : zG) : Option (Int32 × zG) :=
    zw g 11002 0 0 v1 (fun g1 =>
    zw g1 12002 0 0 v2 (fun g2 =>
    some ((nI 0), g2)))

def X5_takeName (v1 : Nat) (g : zG) : Option (Int32 × zG) :=
    zc (X5_isName v1 g) (fun x1 g2 =>
    (if x1 = 0 then
      (zc (X5_fail (nI 1) (g2 6002 0 0) g2) (fun x7 g8 =>
      zbo x7 (some (x7, g8))))
    else
      (zc (X5_advance  g2) (fun x4 g5 =>
      some ((nI 1), g5)))))

def X5_takeWhole_b34   (g : zG) : Option (Int32 × zG) :=
    zc (X5_fail (nI 2) (g 6002 0 0) g) (fun x1 g2 =>
    zbo x1 (some (x1, g2)))

def X5_takeWhole (v1 : Int32) (v2 : Int32) (g : zG) : Option (Int32 × zG) :=
    (if (g 5002 0 0) = (nI 2) then
      ((if (g 8002 0 0) < v1 then
        (X5_takeWhole_b34   g)
      else
        ((if v2 < (g 8002 0 0) then
          (X5_takeWhole_b34   g)
        else
          (zc (X5_advance  g) (fun x1 g2 =>
          some ((nI 1), g2)))))))
    else
      (zc (X5_fail (nI 1) (g 6002 0 0) g) (fun x4 g5 =>
      zbo x4 (some (x4, g5)))))

def X5_takeSetting_b46  (v2 : Int32) (v4 : Int32) (g : zG) : Option (Int32 × zG) :=
    zc (X5_takeWhole (nI 1) v2 g) (fun x1 g2 =>
    (if x1 = 0 then
      (some ((-1), g2))
    else
      (some (v4, g2))))

def X5_takeSetting (v1 : Nat) (v2 : Int32) (v3 : Int32) (g : zG) : Option (Int32 × zG) :=
    zc (X5_takeName v1 g) (fun x1 g2 =>
    (if x1 = 0 then
      (some ((-1), g2))
    else
      ((if (g2 5002 0 0) = (nI 2) then
        ((if v3 = 0 then
          (X5_takeSetting_b46  v2 (g2 8002 0 0) g2)
        else
          ((if (g2 8002 0 0) = (nI 3) then
            (zc (X5_fail (nI 2) (g2 6002 0 0) g2) (fun x4 g5 =>
            some ((-1), g5)))
          else
            (X5_takeSetting_b46  v2 (g2 8002 0 0) g2)))))
      else
        (X5_takeSetting_b46  v2 (g2 8002 0 0) g2)))))

def X5_readRule_b70   (g : zG) : Option (Int32 × zG) :=
    zc (X5_advance  g) (fun x1 g2 =>
    some ((nI 1), g2))

def X5_readRule  (g : zG) : Option (Int32 × zG) :=
    zc (X5_isName 14 g) (fun x1 g2 =>
    (if x1 = 0 then
      (zc (X5_isName 15 g2) (fun x4 g5 =>
      (if x4 = 0 then
        (zc (X5_isName 16 g5) (fun x7 g8 =>
        (if x7 = 0 then
          (zc (X5_fail (nI 1) (g8 6002 0 0) g8) (fun x10 g11 =>
          zbo x10 (some (x10, g11))))
        else
          (zw g8 4001 1 0 (nI 2) (fun g13 =>
          X5_readRule_b70   g13)))))
      else
        (zw g5 4001 1 0 (nI 1) (fun g14 =>
        X5_readRule_b70   g14)))))
    else
      (zw g2 4001 1 0 (nI 0) (fun g15 =>
      X5_readRule_b70   g15))))

def X5_readMachine  (g : zG) : Option (Int32 × zG) :=
    (if (g 9002 0 0) = 0 then
      (zw g 9002 0 0 (nI 1) (fun g1 =>
      zc (X5_advance  g1) (fun x2 g3 =>
      zc (X5_takeSetting 10 (nI 4) (nI 1) g3) (fun x5 g6 =>
      zw g6 1001 1 0 x5 (fun g8 =>
      (if (g8 1001 1 0) = (-1) then
        (some ((nI 0), g8))
      else
        (zc (X5_takeSetting 11 (nI 4) (nI 0) g8) (fun x9 g10 =>
        zw g10 2001 1 0 x9 (fun g12 =>
        (if (g12 2001 1 0) = (-1) then
          (some ((nI 0), g12))
        else
          (zc (X5_takeSetting 12 (nI 4) (nI 1) g12) (fun x13 g14 =>
          zw g14 3001 1 0 x13 (fun g16 =>
          (if (g16 3001 1 0) = (-1) then
            (some ((nI 0), g16))
          else
            (zc (X5_takeName 13 g16) (fun x17 g18 =>
            (if x17 = 0 then
              (some ((nI 0), g18))
            else
              (zc (X5_readRule  g18) (fun x20 g21 =>
              (if x20 = 0 then
                (some ((nI 0), g21))
              else
                (zc (X5_takeSetting 17 (nI 9) (nI 0) g21) (fun x23 g24 =>
                zw g24 5001 1 0 x23 (fun g26 =>
                (if (g26 5001 1 0) = (-1) then
                  (some ((nI 0), g26))
                else
                  (some ((nI 1), g26))))))))))))))))))))))))))
    else
      (zc (X5_fail (nI 3) (g 6002 0 0) g) (fun x27 g28 =>
      zbo x27 (some (x27, g28)))))

def X5_readWord_b75  (v2 : Int32) (g : zG) : Option (Int32 × zG) :=
    zc (X5_fail (nI 3) v2 g) (fun x1 g2 =>
    zbo x1 (some (x1, g2)))

def X5_readWord  (g : zG) : Option (Int32 × zG) :=
    (if (g 7001 1 0) < (nI 12) then
      (zc (X5_advance  g) (fun x1 g2 =>
      zc (X2_addresses 1 g2) (fun x4 g5 =>
      zc (X5_takeWhole (nI 0) (x4 - (nI 1)) g5) (fun x7 g8 =>
      (if x7 = 0 then
        (some ((nI 0), g8))
      else
        (zc (X2_hasAddress 1 (g2 8002 0 0) g8) (fun x10 g11 =>
        (if x10 = 0 then
          (X5_readWord_b75  (g2 6002 0 0) g11)
        else
          (zi (g2 8002 0 0) 64 (
          (if (g11 16 1 (g2 8002 0 0).toNatClampNeg) = 0 then
            (zc (X5_takeWhole (nI 0) (nI 999) g11) (fun x13 g14 =>
            (if x13 = 0 then
              (some ((nI 0), g14))
            else
              (zi (g2 8002 0 0) 64 (zw g14 16 1 (g2 8002 0 0).toNatClampNeg (nI 1) (fun g16 =>
              zc (X2_addWord 1 (g2 8002 0 0) (g11 8002 0 0) g16) (fun x17 g18 =>
              some ((nI 1), g18))))))))
          else
            (X5_readWord_b75  (g2 6002 0 0) g11))))))))))))
    else
      (zc (X5_fail (nI 4) (g 6002 0 0) g) (fun x20 g21 =>
      zbo x20 (some (x20, g21)))))

def X5_readCore  (g : zG) : Option (Int32 × zG) :=
    (if (g 6001 1 0) < (nI 4) then
      ((if (g 10002 0 0) = 0 then
        (zw g 6001 1 0 ((g 6001 1 0) + (nI 1)) (fun g1 =>
        zc (X5_advance  g1) (fun x2 g3 =>
        some ((nI 1), g3))))
      else
        (zc (X5_fail (nI 6) (g 6002 0 0) g) (fun x5 g6 =>
        zbo x5 (some (x5, g6))))))
    else
      (zc (X5_fail (nI 4) (g 6002 0 0) g) (fun x8 g9 =>
      zbo x8 (some (x8, g9)))))

def X5_readRest_b107  (v1 : Int32) (v3 : Int32) (v4 : Int32) (g : zG) : Option (Int32 × zG) :=
    zc (X2_addDeed 1 v1 v3 v4 g) (fun x1 g2 =>
    some ((nI 1), g2))

def X5_readRest_b96  (v1 : Int32) (v3 : Int32) (s0 : Int32) (g : zG) : Option (Int32 × zG) :=
    (if s0 = 0 then
      (X5_readRest_b107  v1 v3 s0 g)
    else
      (zc (X5_advance  g) (fun x1 g2 =>
      X5_readRest_b107  v1 v3 s0 g2)))

def X5_readRest_b95  (v1 : Int32) (v3 : Int32) (g : zG) : Option (Int32 × zG) :=
    X5_readRest_b96  v1 v3 (nI 0) g

def X5_readRest_b70  (v1 : Int32) (v2 : Int32) (v3 : Int32) (s1 : Int32) (s2 : Int32) (g : zG) : Option (Int32 × zG) :=
    zc (X5_takeWhole s1 s2 g) (fun x1 g2 =>
    (if x1 = 0 then
      (some ((nI 0), g2))
    else
      ((if v2 = 0 then
        (X5_readRest_b95  v1 v3 g2)
      else
        (zc (X5_isName 18 g2) (fun x4 g5 =>
        (if x4 = 0 then
          (X5_readRest_b95  v1 v3 g5)
        else
          (X5_readRest_b96  v1 v3 (nI 1) g5))))))))

def X5_readRest_b44  (v1 : Int32) (v2 : Int32) (g : zG) : Option (Int32 × zG) :=
    (if v2 = 0 then
      (X5_readRest_b70  v1 v2 (g 8002 0 0) (nI 0) (nI 999) g)
    else
      (zc (X2_addresses 1 g) (fun x1 g2 =>
      X5_readRest_b70  v1 v2 (g 8002 0 0) (nI 0) (x1 - (nI 1)) g2)))

def X5_readRest_b15  (v1 : Int32) (s0 : Int32) (g : zG) : Option (Int32 × zG) :=
    (if s0 = 0 then
      ((if v1 = (nI 5) then
        (X5_readRest_b44  v1 s0 g)
      else
        ((if v1 = (nI 6) then
          (X5_readRest_b44  v1 s0 g)
        else
          (zc (X2_addDeed 1 v1 (-2) (nI 0) g) (fun x1 g2 =>
          some ((nI 1), g2)))))))
    else
      (X5_readRest_b44  v1 s0 g))

def X5_readRest_b10  (v1 : Int32) (g : zG) : Option (Int32 × zG) :=
    X5_readRest_b15  v1 (nI 1) g

def X5_readRest (v1 : Int32) (g : zG) : Option (Int32 × zG) :=
    (if v1 = (nI 3) then
      (X5_readRest_b10  v1 g)
    else
      ((if v1 = (nI 4) then
        (X5_readRest_b10  v1 g)
      else
        (X5_readRest_b15  v1 (nI 0) g))))

def X5_readDeed_b142  (v1 : Int32) (g : zG) : Option (Int32 × zG) :=
    zc (X5_advance  g) (fun x1 g2 =>
    zc (X5_readRest v1 g2) (fun x4 g5 =>
    zbo x4 (some (x4, g5))))

def X5_readDeed_b139  (v1 : Int32) (s1 : Int32) (g : zG) : Option (Int32 × zG) :=
    zbo s1 (
    zw g 10002 0 0 s1 (fun g1 =>
    X5_readDeed_b142  v1 g1))

def X5_readDeed_b129  (v1 : Int32) (g : zG) : Option (Int32 × zG) :=
    (if v1 = 0 then
      (X5_readDeed_b139  v1 (nI 1) g)
    else
      (X5_readDeed_b139  v1 (nI 0) g))

def X5_readDeed_b120  (v1 : Int32) (g : zG) : Option (Int32 × zG) :=
    (if v1 = 0 then
      (X5_readDeed_b129  v1 g)
    else
      ((if v1 = (nI 1) then
        (X5_readDeed_b129  v1 g)
      else
        (X5_readDeed_b142  v1 g))))

def X5_readDeed_b109   (g : zG) : Option (Int32 × zG) :=
    zc (X5_fail (nI 6) (g 6002 0 0) g) (fun x1 g2 =>
    zbo x1 (some (x1, g2)))

def X5_readDeed_b98  (v1 : Int32) (v3 : Int32) (g : zG) : Option (Int32 × zG) :=
    (if v3 = 0 then
      (X5_readDeed_b120  v1 g)
    else
      ((if (g 10002 0 0) = 0 then
        (X5_readDeed_b109   g)
      else
        (X5_readDeed_b120  v1 g))))

def X5_readDeed_b86  (v1 : Int32) (s0 : Int32) (g : zG) : Option (Int32 × zG) :=
    (if v1 = 0 then
      ((if (g 10002 0 0) = 0 then
        (X5_readDeed_b98  v1 s0 g)
      else
        (X5_readDeed_b109   g)))
    else
      (X5_readDeed_b98  v1 s0 g))

def X5_readDeed_b81  (v1 : Int32) (g : zG) : Option (Int32 × zG) :=
    X5_readDeed_b86  v1 (nI 1) g

def X5_readDeed_b45  (v1 : Int32) (v2 : Int32) (g : zG) : Option (Int32 × zG) :=
    zc (X2_hasCore 1 v2 g) (fun x1 g2 =>
    (if x1 = 0 then
      (zc (X5_fail (nI 5) (g2 6002 0 0) g2) (fun x4 g5 =>
      zbo x4 (some (x4, g5))))
    else
      ((if v1 = (nI 1) then
        (X5_readDeed_b81  v1 g2)
      else
        ((if v1 = (nI 3) then
          (X5_readDeed_b81  v1 g2)
        else
          ((if v1 = (nI 4) then
            (X5_readDeed_b81  v1 g2)
          else
            (X5_readDeed_b86  v1 (nI 0) g2)))))))))

def X5_readDeed (v1 : Int32) (g : zG) : Option (Int32 × zG) :=
    zc (X2_hasCore 1 ((g 6001 1 0) - (nI 1)) g) (fun x1 g2 =>
    (if x1 = 0 then
      (X5_readDeed_b45  v1 ((g 6001 1 0) - (nI 1)) g2)
    else
      (zi ((g 6001 1 0) - (nI 1)) 4 (
      (if (g2 11 1 ((g 6001 1 0) - (nI 1)).toNatClampNeg) < (nI 24) then
        (X5_readDeed_b45  v1 ((g 6001 1 0) - (nI 1)) g2)
      else
        (zc (X5_fail (nI 4) (g2 6002 0 0) g2) (fun x4 g5 =>
        zbo x4 (some (x4, g5)))))))))

def X5_readLine  (g : zG) : Option (Int32 × zG) :=
    zc (X5_sortHere  g) (fun x1 g2 =>
    (if x1 = (-1) then
      (zc (X5_fail (nI 1) (g2 6002 0 0) g2) (fun x19 g20 =>
      zbo x19 (some (x19, g20))))
    else
      ((if x1 = (nI 7) then
        (zc (X5_readMachine  g2) (fun x16 g17 =>
        zbo x16 (some (x16, g17))))
      else
        ((if (g2 9002 0 0) = 0 then
          (zc (X5_fail (nI 5) (g2 6002 0 0) g2) (fun x13 g14 =>
          zbo x13 (some (x13, g14))))
        else
          ((if x1 = (nI 8) then
            (zc (X5_readWord  g2) (fun x10 g11 =>
            zbo x10 (some (x10, g11))))
          else
            ((if x1 = (nI 9) then
              (zc (X5_readCore  g2) (fun x7 g8 =>
              zbo x7 (some (x7, g8))))
            else
              (zc (X5_readDeed x1 g2) (fun x4 g5 =>
              zbo x4 (some (x4, g5))))))))))))))

def X5_readEnd  (g : zG) : Option (Int32 × zG) :=
    (if (g 6001 1 0) = 0 then
      (zc (X5_fail (nI 5) (g 4002 0 0) g) (fun x4 g5 =>
      zbo x4 (some (x4, g5))))
    else
      ((if (g 10002 0 0) = 0 then
        (some ((nI 1), g))
      else
        (zc (X5_fail (nI 6) (g 4002 0 0) g) (fun x1 g2 =>
        zbo x1 (some (x1, g2)))))))

def X5_readText_l51 (k76 : Int32 → zG → Option (Int32 × zG)) : Nat → Int32 → zG → Option (Int32 × zG)
  | 0, _, _ => none
  | n + 1, v2, g =>
    (if v2 < (nI 64) then
      (zi v2 64 (zw g 16 1 v2.toNatClampNeg (nI 0) (fun g4 =>
      X5_readText_l51 k76 n (v2 + (nI 1)) g4)))
    else
      (zc (X5_advance  g) (fun x1 g2 =>
      k76 (nI 0) g2)))

def X5_readText_l76  : Nat → Int32 → zG → Option (Int32 × zG)
  | 0, _, _ => none
  | n + 1, v2, g =>
    (if (nI 900) < v2 then
      (zc (X5_fail (nI 1) (g 6002 0 0) g) (fun x1 g2 =>
      zbo x1 (some (x1, g2))))
    else
      (zc (X5_readLine  g) (fun x4 g5 =>
      (if x4 = 0 then
        (some ((nI 0), g5))
      else
        ((if (g5 5002 0 0) = 0 then
          (zc (X5_readEnd  g5) (fun x13 g14 =>
          zbo x13 (some (x13, g14))))
        else
          ((if (g5 5002 0 0) = (nI 3) then
            (zc (X5_advance  g5) (fun x7 g8 =>
            X5_readText_l76  n (v2 + (nI 1)) g8))
          else
            (zc (X5_fail (nI 1) (g5 6002 0 0) g5) (fun x10 g11 =>
            zbo x10 (some (x10, g11))))))))))))

def X5_readText (v1 : Int32) (g : zG) : Option (Int32 × zG) :=
    zc (X2_clear 1 g) (fun x1 g2 =>
    zc (J9_min_7cf53 v1 (nI 900) g2) (fun x4 g5 =>
    zc (J9_max_7cf53 (nI 0) x4 g5) (fun x7 g8 =>
    zw g8 4002 0 0 x7 (fun g10 =>
    zw g10 7002 0 0 (nI 0) (fun g11 =>
    zw g11 9002 0 0 (nI 0) (fun g12 =>
    zw g12 10002 0 0 (nI 0) (fun g13 =>
    zw g13 11002 0 0 (nI 0) (fun g14 =>
    zw g14 12002 0 0 (nI 0) (fun g15 =>
    X5_readText_l51 (fun (v2 : Int32) g => X5_readText_l76  zfuel v2 g) zfuel (nI 0) g15)))))))))

def X6_refuse (v1 : Int32) (g : zG) : Option (Int32 × zG) :=
    zw g 13000 0 0 v1 (fun g1 =>
    some ((-1), g1))

def X6_answer (v1 : Int32) (g : zG) : Option (Int32 × zG) :=
    zw g 13000 0 0 (nI 0) (fun g1 =>
    some (v1, g1))

def X6_asBit (v0 : Int32) (g : zG) : Option (Int32 × zG) :=
    (if v0 = 0 then
      (some ((nI 0), g))
    else
      (some ((nI 1), g)))

def X6_isWithin (v0 : Int32) (v1 : Int32) (v2 : Int32) (g : zG) : Option (Int32 × zG) :=
    (if v0 < v1 then
      (some ((nI 0), g))
    else
      ((if v2 < v0 then
        (some ((nI 0), g))
      else
        (some ((nI 1), g)))))

def X6_putBytes_b43 (k3 : Int32 → Int32 → zG → Option (Int32 × zG)) (v1 : Int32) (v2 : Int32) (g : zG) : Option (Int32 × zG) :=
    k3 v1 (v2 + (-8)) g

def X6_putBytes_l3  : Nat → Int32 → Int32 → zG → Option (Int32 × zG)
  | 0, _, _, _ => none
  | n + 1, v1, v2, g =>
    (if v2 < 0 then
      (some (0, g))
    else
      ((if (g 2000 0 0) < (nI 900) then
        (zi (g 2000 0 0) 900 (zw g 10 0 (g 2000 0 0).toNatClampNeg ((v1 >>> (v2 &&& 31)) &&& (nI 255)) (fun g1 =>
        zw g1 2000 0 0 ((g1 2000 0 0) + (nI 1)) (fun g2 =>
        X6_putBytes_b43 (X6_putBytes_l3  n) v1 v2 g2))))
      else
        (X6_putBytes_b43 (X6_putBytes_l3  n) v1 v2 g))))

def X6_putBytes (v1 : Int32) (g : zG) : Option (Int32 × zG) :=
    X6_putBytes_l3  zfuel v1 (nI 24) g

def X6_feed (v1 : Int32) (v2 : Int32) (v3 : Int32) (v4 : Int32) (v5 : Int32) (g : zG) : Option (Int32 × zG) :=
    (if (nI 900) < ((g 2000 0 0) + (nI 20)) then
      (some ((-1), g))
    else
      (zc (X6_putBytes v1 g) (fun x1 g2 =>
      zc (X6_putBytes v2 g2) (fun x4 g5 =>
      zc (X6_putBytes v3 g5) (fun x7 g8 =>
      zc (X6_putBytes v4 g8) (fun x10 g11 =>
      zc (X6_putBytes v5 g11) (fun x13 g14 =>
      some ((g14 2000 0 0), g14))))))))

def X6_machine (v1 : Int32) (g : zG) : Option (Int32 × zG) :=
    zc (X6_isWithin v1 (nI 0) (g 2000 0 0) g) (fun x1 g2 =>
    (if x1 = 0 then
      (zc (X6_refuse (nI 2) g2) (fun x24 g25 =>
      some (x24, g25)))
    else
      (zw g2 2000 0 0 (nI 0) (fun g4 =>
      zc (X5_readText v1 g4) (fun x5 g6 =>
      (if x5 = 0 then
        (zw g6 12000 0 0 (g6 11002 0 0) (fun g20 =>
        zc (X6_refuse (nI 4) g20) (fun x21 g22 =>
        some (x21, g22))))
      else
        (zw g6 12000 0 0 (nI 0) (fun g8 =>
        zc (X2_copyFrom 0 1 g8) (fun x9 g10 =>
        zc (X3_startOver 0 (g10 4001 0 0) (g10 5001 0 0) g10) (fun x12 g13 =>
        zw g13 10000 0 0 (nI 1) (fun g15 =>
        zw g15 11000 0 0 (nI 0) (fun g16 =>
        zc (X6_answer (g16 6001 0 0) g16) (fun x17 g18 =>
        some (x17, g18))))))))))))))

def X6_fault  (g : zG) : Option (Int32 × zG) :=
    some ((g 12000 0 0), g)

def X6_where  (g : zG) : Option (Int32 × zG) :=
    (if (g 13000 0 0) = (nI 4) then
      (some ((g 12002 0 0), g))
    else
      (some ((-1), g)))

def X6_about (v1 : Int32) (g : zG) : Option (Int32 × zG) :=
    (if (g 10000 0 0) = 0 then
      (zc (X6_refuse (nI 1) g) (fun x34 g35 =>
      some (x34, g35)))
    else
      ((if v1 = (nI 0) then
        (zc (X6_answer (g 1001 0 0) g) (fun x1 g2 =>
        some (x1, g2)))
      else (if v1 = (nI 1) then
        (zc (X6_answer (g 2001 0 0) g) (fun x4 g5 =>
        some (x4, g5)))
      else (if v1 = (nI 2) then
        (zc (X6_answer (g 3001 0 0) g) (fun x7 g8 =>
        some (x7, g8)))
      else (if v1 = (nI 3) then
        (zc (X6_answer (g 4001 0 0) g) (fun x10 g11 =>
        some (x10, g11)))
      else (if v1 = (nI 4) then
        (zc (X6_answer (g 5001 0 0) g) (fun x13 g14 =>
        some (x13, g14)))
      else (if v1 = (nI 5) then
        (zc (X6_answer (g 6001 0 0) g) (fun x16 g17 =>
        some (x16, g17)))
      else (if v1 = (nI 6) then
        (zc (X2_addresses 0 g) (fun x19 g20 =>
        zc (X6_answer x19 g20) (fun x22 g23 =>
        some (x22, g23))))
      else (if v1 = (nI 7) then
        (zc (X6_answer (g 10003 0 0) g) (fun x25 g26 =>
        some (x25, g26)))
      else (if v1 = (nI 8) then
        (zc (X6_answer (g 7003 0 0) g) (fun x28 g29 =>
        some (x28, g29)))
      else (zc (X6_refuse (nI 1) g) (fun x31 g32 =>
        some (x31, g32))))))))))))))

def X6_deed_b21   (g : zG) : Option (Int32 × zG) :=
    zc (X6_refuse (nI 1) g) (fun x1 g2 =>
    some (x1, g2))

def X6_deed_b75  (s1 : Int32) (g : zG) : Option (Int32 × zG) :=
    zc (X6_answer s1 g) (fun x1 g2 =>
    some (x1, g2))

def X6_deed (v1 : Int32) (v2 : Int32) (v3 : Int32) (g : zG) : Option (Int32 × zG) :=
    zc (X2_hasDeed 0 v1 v2 g) (fun x1 g2 =>
    (if x1 = 0 then
      (X6_deed_b21   g2)
    else
      (zc (X6_isWithin v3 (nI 0) (nI 2) g2) (fun x4 g5 =>
      (if x4 = 0 then
        (X6_deed_b21   g5)
      else
        ((if v3 = 0 then
          (zc (X2_sortOf 0 v1 v2 g5) (fun x16 g17 =>
          zc (X6_answer x16 g17) (fun x19 g20 =>
          some (x19, g20))))
        else
          ((if v3 = (nI 1) then
            (zc (X2_wholeOf 0 v1 v2 g5) (fun x13 g14 =>
            X6_deed_b75  x13 g14))
          else
            (zc (X2_isIndexed 0 v1 v2 g5) (fun x7 g8 =>
            zc (X6_asBit x7 g8) (fun x10 g11 =>
            X6_deed_b75  x10 g11))))))))))))

def X6_word (v1 : Int32) (g : zG) : Option (Int32 × zG) :=
    zc (X2_hasAddress 0 v1 g) (fun x1 g2 =>
    (if x1 = 0 then
      (zc (X6_refuse (nI 1) g2) (fun x10 g11 =>
      some (x10, g11)))
    else
      (zc (X3_wordAt 0 v1 g2) (fun x4 g5 =>
      zc (X6_answer x4 g5) (fun x7 g8 =>
      some (x7, g8))))))

def X6_memory (v1 : Int32) (g : zG) : Option (Int32 × zG) :=
    zc (X2_hasAddress 0 v1 g) (fun x1 g2 =>
    (if x1 = 0 then
      (zc (X6_refuse (nI 1) g2) (fun x7 g8 =>
      some (x7, g8)))
    else
      (zi v1 68 (
      zc (X6_answer (g2 17 0 v1.toNatClampNeg) g2) (fun x4 g5 =>
      some (x4, g5))))))

def X6_playCommits_l9  : Nat → Int32 → zG → Option (Int32 × zG)
  | 0, _, _ => none
  | n + 1, v1, g =>
    (if v1 < (g 7003 0 0) then
      ((if v1 < (nI 48) then
        (zi (v1 * (nI 4)) 192 (
        zi ((v1 * (nI 4)) + (nI 1)) 192 (
        zc (X4_play (g 21 0 (v1 * (nI 4)).toNatClampNeg) (g 21 0 ((v1 * (nI 4)) + (nI 1)).toNatClampNeg) (nI 1) g) (fun x1 g2 =>
        X6_playCommits_l9  n (v1 + (nI 1)) g2))))
      else
        (some (0, g))))
    else
      (some (0, g)))

def X6_playCommits  (g : zG) : Option (Int32 × zG) :=
    zc (X4_startOver  g) (fun x1 g2 =>
    X6_playCommits_l9  zfuel (nI 0) g2)

def X6_serial (v1 : Int32) (g : zG) : Option (Int32 × zG) :=
    zc (X2_hasAddress 0 v1 g) (fun x1 g2 =>
    (if x1 = 0 then
      (zc (X6_refuse (nI 1) g2) (fun x10 g11 =>
      some (x10, g11)))
    else
      (zc (X6_playCommits  g2) (fun x4 g5 =>
      zi v1 64 (
      zc (X6_answer (g5 29 0 v1.toNatClampNeg) g5) (fun x7 g8 =>
      some (x7, g8)))))))

def X6_agrees_l19 (k68 : zG → Option (Int32 × zG)) : Nat → Int32 → zG → Option (Int32 × zG)
  | 0, _, _ => none
  | n + 1, v1, g =>
    (if v1 < (nI 64) then
      (zc (X2_hasAddress 0 v1 g) (fun x1 g2 =>
      (if x1 = 0 then
        (k68  g2)
      else
        (zi v1 64 (
        zc (X3_wordAt 0 v1 g2) (fun x4 g5 =>
        (if (g2 29 0 v1.toNatClampNeg) = x4 then
          (X6_agrees_l19 k68 n (v1 + (nI 1)) g5)
        else
          (zc (X6_answer (nI 0) g5) (fun x7 g8 =>
          some (x7, g8))))))))))
    else
      (k68  g))

def X6_agrees_b68   (g : zG) : Option (Int32 × zG) :=
    zc (X6_answer (nI 1) g) (fun x1 g2 =>
    some (x1, g2))

def X6_agrees  (g : zG) : Option (Int32 × zG) :=
    (if (g 10000 0 0) = 0 then
      (zc (X6_refuse (nI 1) g) (fun x4 g5 =>
      some (x4, g5)))
    else
      (zc (X6_playCommits  g) (fun x1 g2 =>
      X6_agrees_l19 (fun  g => X6_agrees_b68   g) zfuel (nI 0) g2)))

def X6_lock  (g : zG) : Option (Int32 × zG) :=
    (if (g 10000 0 0) = 0 then
      (zc (X6_refuse (nI 1) g) (fun x1 g2 =>
      some (x1, g2)))
    else
      (zc (X6_answer (g 11003 0 0) g) (fun x4 g5 =>
      some (x4, g5))))

def X6_alone_b22   (g : zG) : Option (Int32 × zG) :=
    zc (X6_refuse (nI 1) g) (fun x1 g2 =>
    some (x1, g2))

def X6_alone_b89 (k37 : Int32 → Int32 → Int32 → zG → Option (Int32 × zG)) (v1 : Int32) (v2 : Int32) (v3 : Int32) (s1 : Int32) (g : zG) : Option (Int32 × zG) :=
    zc (X4_play s1 (nI 0) (nI 0) g) (fun x1 g2 =>
    k37 v1 v2 (v3 + (nI 1)) g2)

def X6_alone_l37 (k100 : Int32 → zG → Option (Int32 × zG)) : Nat → Int32 → Int32 → Int32 → zG → Option (Int32 × zG)
  | 0, _, _, _, _ => none
  | n + 1, v1, v2, v3, g =>
    (if v3 < (g 6001 0 0) then
      ((if v3 < (nI 4) then
        ((if (v1 + v3) < (g 6001 0 0) then
          (X6_alone_b89 (X6_alone_l37 k100 n) v1 v2 v3 (v1 + v3) g)
        else
          (X6_alone_b89 (X6_alone_l37 k100 n) v1 v2 v3 ((v1 + v3) - (g 6001 0 0)) g)))
      else
        (k100 v2 g)))
    else
      (k100 v2 g))

def X6_alone_b100  (v2 : Int32) (g : zG) : Option (Int32 × zG) :=
    zi v2 64 (
    zc (X6_answer (g 29 0 v2.toNatClampNeg) g) (fun x1 g2 =>
    some (x1, g2)))

def X6_alone (v1 : Int32) (v2 : Int32) (g : zG) : Option (Int32 × zG) :=
    zc (X2_hasCore 0 v1 g) (fun x1 g2 =>
    (if x1 = 0 then
      (X6_alone_b22   g2)
    else
      (zc (X2_hasAddress 0 v2 g2) (fun x4 g5 =>
      (if x4 = 0 then
        (X6_alone_b22   g5)
      else
        (zc (X4_startOver  g5) (fun x7 g8 =>
        X6_alone_l37 (fun (v2 : Int32) g => X6_alone_b100  v2 g) zfuel v1 v2 (nI 0) g8)))))))

def X6_place_b67   (g : zG) : Option (Int32 × zG) :=
    zc (X6_refuse (nI 1) g) (fun x1 g2 =>
    some (x1, g2))

def X6_place_b50  (v1 : Int32) (v2 : Int32) (v3 : Int32) (v4 : Int32) (s0 : Int32) (g : zG) : Option (Int32 × zG) :=
    (if s0 = 0 then
      (X6_place_b67   g)
    else
      (zc (X6_isWithin v4 (nI 0) (nI 4) g) (fun x1 g2 =>
      (if x1 = 0 then
        (X6_place_b67   g2)
      else
        (zi v1 4 (
        zc (X6_isWithin ((v2 * (g2 2001 0 0)) + v3) (nI 0) (nI 15) g2) (fun x6 g7 =>
        (if x6 = 0 then
          (zc (X6_refuse (nI 1) g7) (fun x30 g31 =>
          some (x30, g31)))
        else
          ((if v4 = (nI 0) then
            (zi ((v2 * (g2 2001 0 0)) + v3) 16 (
            zc (X6_answer (g7 22 (4 * 0 + v1.toNatClampNeg) ((v2 * (g2 2001 0 0)) + v3).toNatClampNeg) g7) (fun x9 g10 =>
            some (x9, g10))))
          else (if v4 = (nI 1) then
            (zi ((v2 * (g2 2001 0 0)) + v3) 16 (
            zc (X6_answer (g7 23 (4 * 0 + v1.toNatClampNeg) ((v2 * (g2 2001 0 0)) + v3).toNatClampNeg) g7) (fun x12 g13 =>
            some (x12, g13))))
          else (if v4 = (nI 2) then
            (zi ((v2 * (g2 2001 0 0)) + v3) 16 (
            zc (X6_asBit (g7 24 (4 * 0 + v1.toNatClampNeg) ((v2 * (g2 2001 0 0)) + v3).toNatClampNeg) g7) (fun x15 g16 =>
            zc (X6_answer x15 g16) (fun x18 g19 =>
            some (x18, g19)))))
          else (if v4 = (nI 3) then
            (zi ((v2 * (g2 2001 0 0)) + v3) 16 (
            zc (X6_asBit (g7 25 (4 * 0 + v1.toNatClampNeg) ((v2 * (g2 2001 0 0)) + v3).toNatClampNeg) g7) (fun x21 g22 =>
            zc (X6_answer x21 g22) (fun x24 g25 =>
            some (x24, g25)))))
          else (zi ((v2 * (g2 2001 0 0)) + v3) 16 (
            zc (X6_answer (g7 26 (4 * 0 + v1.toNatClampNeg) ((v2 * (g2 2001 0 0)) + v3).toNatClampNeg) g7) (fun x27 g28 =>
            some (x27, g28)))))))))))))))))

def X6_place_b49  (v1 : Int32) (v2 : Int32) (v3 : Int32) (v4 : Int32) (g : zG) : Option (Int32 × zG) :=
    X6_place_b50  v1 v2 v3 v4 (nI 0) g

def X6_place (v1 : Int32) (v2 : Int32) (v3 : Int32) (v4 : Int32) (g : zG) : Option (Int32 × zG) :=
    zc (X2_hasCore 0 v1 g) (fun x1 g2 =>
    (if x1 = 0 then
      (X6_place_b49  v1 v2 v3 v4 g2)
    else
      (zc (X6_isWithin v2 (nI 0) ((g2 1001 0 0) - (nI 1)) g2) (fun x4 g5 =>
      (if x4 = 0 then
        (X6_place_b49  v1 v2 v3 v4 g5)
      else
        (zc (X6_isWithin v3 (nI 0) ((g5 2001 0 0) - (nI 1)) g5) (fun x7 g8 =>
        (if x7 = 0 then
          (X6_place_b49  v1 v2 v3 v4 g8)
        else
          (X6_place_b50  v1 v2 v3 v4 (nI 1) g8)))))))))

def X6_cached_b22   (g : zG) : Option (Int32 × zG) :=
    zc (X6_refuse (nI 1) g) (fun x1 g2 =>
    some (x1, g2))

def X6_cached_b81  (s1 : Int32) (g : zG) : Option (Int32 × zG) :=
    zc (X6_answer s1 g) (fun x1 g2 =>
    some (x1, g2))

def X6_cached (v1 : Int32) (v2 : Int32) (g : zG) : Option (Int32 × zG) :=
    zc (X2_hasCore 0 v1 g) (fun x1 g2 =>
    (if x1 = 0 then
      (X6_cached_b22   g2)
    else
      (zc (X2_hasAddress 0 v2 g2) (fun x4 g5 =>
      (if x4 = 0 then
        (X6_cached_b22   g5)
      else
        (zi v1 4 (
        zc (X2_lineOf 0 v2 g5) (fun x9 g10 =>
        zc (X0_find (4 * 0 + v1.toNatClampNeg) x9 g10) (fun x12 g13 =>
        (if x12 = (-1) then
          (X6_cached_b81  (-2) g13)
        else
          (zi v1 4 (
          zc (X2_offsetOf 0 v2 g13) (fun x17 g18 =>
          zc (X0_wordIn (4 * 0 + v1.toNatClampNeg) x12 x17 g18) (fun x20 g21 =>
          X6_cached_b81  x20 g21))))))))))))))

def X6_sharers_b17   (g : zG) : Option (Int32 × zG) :=
    zc (X6_refuse (nI 1) g) (fun x1 g2 =>
    some (x1, g2))

def X6_sharers_b55 (k27 : Int32 → Int32 → Int32 → zG → Option (Int32 × zG)) (v1 : Int32) (v2 : Int32) (v3 : Int32) (g : zG) : Option (Int32 × zG) :=
    k27 v1 v2 (v3 + (nI 1)) g

def X6_sharers_l27  : Nat → Int32 → Int32 → Int32 → zG → Option (Int32 × zG)
  | 0, _, _, _, _ => none
  | n + 1, v1, v2, v3, g =>
    (if v3 < (nI 4) then
      (zi v3 4 (
      zc (X0_find (4 * 0 + v3.toNatClampNeg) v1 g) (fun x6 g7 =>
      (if x6 = (-1) then
        (X6_sharers_b55 (X6_sharers_l27  n) v1 v2 v3 g7)
      else
        (X6_sharers_b55 (X6_sharers_l27  n) v1 (v2 ||| ((nI 1) <<< (v3 &&& 31))) v3 g7)))))
    else
      (zc (X6_answer v2 g) (fun x1 g2 =>
      some (x1, g2))))

def X6_sharers (v1 : Int32) (g : zG) : Option (Int32 × zG) :=
    (if (g 10000 0 0) = 0 then
      (X6_sharers_b17   g)
    else
      (zc (X6_isWithin v1 (nI 0) (nI 16) g) (fun x1 g2 =>
      (if x1 = 0 then
        (X6_sharers_b17   g2)
      else
        (X6_sharers_l27  zfuel v1 (nI 0) (nI 0) g2)))))

def X6_reads (v1 : Int32) (g : zG) : Option (Int32 × zG) :=
    zc (X2_hasCore 0 v1 g) (fun x1 g2 =>
    (if x1 = 0 then
      (zc (X6_refuse (nI 1) g2) (fun x4 g5 =>
      some (x4, g5)))
    else
      (zi v1 4 (
      zc (X0_markedLines (4 * 0 + v1.toNatClampNeg) (nI 0) g2) (fun x9 g10 =>
      zc (X6_answer x9 g10) (fun x12 g13 =>
      some (x12, g13)))))))

def X6_writes (v1 : Int32) (g : zG) : Option (Int32 × zG) :=
    zc (X2_hasCore 0 v1 g) (fun x1 g2 =>
    (if x1 = 0 then
      (zc (X6_refuse (nI 1) g2) (fun x4 g5 =>
      some (x4, g5)))
    else
      (zi v1 4 (
      zc (X0_markedLines (4 * 0 + v1.toNatClampNeg) (nI 1) g2) (fun x9 g10 =>
      zc (X6_answer x9 g10) (fun x12 g13 =>
      some (x12, g13)))))))

def X6_traffic_b16   (g : zG) : Option (Int32 × zG) :=
    zc (X6_refuse (nI 1) g) (fun x1 g2 =>
    some (x1, g2))

def X6_traffic (v1 : Int32) (g : zG) : Option (Int32 × zG) :=
    (if (g 10000 0 0) = 0 then
      (X6_traffic_b16   g)
    else
      (zc (X6_isWithin v1 (nI 0) (nI 2) g) (fun x1 g2 =>
      (if x1 = 0 then
        (X6_traffic_b16   g2)
      else
        (zi v1 3 (
        zc (X6_answer (g2 20 0 v1.toNatClampNeg) g2) (fun x4 g5 =>
        some (x4, g5))))))))

def X6_core_b93  (s1 : Int32) (g : zG) : Option (Int32 × zG) :=
    zc (X6_answer s1 g) (fun x1 g2 =>
    some (x1, g2))

def X6_core (v1 : Int32) (v2 : Int32) (g : zG) : Option (Int32 × zG) :=
    zc (X2_hasCore 0 v1 g) (fun x1 g2 =>
    (if x1 = 0 then
      (zc (X6_refuse (nI 1) g2) (fun x30 g31 =>
      some (x30, g31)))
    else
      (zi v1 4 (
      (if v2 = (nI 0) then
        (zc (X3_hasDeedsLeft 0 v1 g2) (fun x6 g7 =>
        (if x6 = 0 then
          (X6_core_b93  (-2) g7)
        else
          (X6_core_b93  (g7 1005 (4 * 0 + v1.toNatClampNeg) 0) g7))))
      else (if v2 = (nI 1) then
        (zc (X6_answer (g2 3005 (4 * 0 + v1.toNatClampNeg) 0) g2) (fun x9 g10 =>
        some (x9, g10)))
      else (if v2 = (nI 2) then
        (zc (X6_answer (g2 4005 (4 * 0 + v1.toNatClampNeg) 0) g2) (fun x12 g13 =>
        some (x12, g13)))
      else (if v2 = (nI 3) then
        (zc (X6_answer (g2 5005 (4 * 0 + v1.toNatClampNeg) 0) g2) (fun x15 g16 =>
        some (x15, g16)))
      else (if v2 = (nI 4) then
        (zc (X6_answer (g2 6005 (4 * 0 + v1.toNatClampNeg) 0) g2) (fun x18 g19 =>
        some (x18, g19)))
      else (if v2 = (nI 5) then
        (zc (X6_answer (g2 7005 (4 * 0 + v1.toNatClampNeg) 0) g2) (fun x21 g22 =>
        some (x21, g22)))
      else (if v2 = (nI 6) then
        (zi v1 4 (
        zc (X6_answer (g2 11 0 v1.toNatClampNeg) g2) (fun x24 g25 =>
        some (x24, g25))))
      else (zc (X6_refuse (nI 1) g2) (fun x27 g28 =>
        some (x27, g28))))))))))))))

def X6_count_b21   (g : zG) : Option (Int32 × zG) :=
    zc (X6_refuse (nI 1) g) (fun x1 g2 =>
    some (x1, g2))

def X6_count (v1 : Int32) (v2 : Int32) (g : zG) : Option (Int32 × zG) :=
    zc (X2_hasCore 0 v1 g) (fun x1 g2 =>
    (if x1 = 0 then
      (X6_count_b21   g2)
    else
      (zc (X6_isWithin v2 (nI 0) (nI 6) g2) (fun x4 g5 =>
      (if x4 = 0 then
        (X6_count_b21   g5)
      else
        (zi v1 4 (
        zi v2 7 (
        zc (X6_answer (g5 28 (4 * 0 + v1.toNatClampNeg) v2.toNatClampNeg) g5) (fun x9 g10 =>
        some (x9, g10))))))))))

def X6_advice_b79  (s1 : Int32) (g : zG) : Option (Int32 × zG) :=
    zc (X6_asBit s1 g) (fun x1 g2 =>
    zc (X6_answer x1 g2) (fun x4 g5 =>
    some (x4, g5)))

def X6_advice (v1 : Int32) (v2 : Int32) (g : zG) : Option (Int32 × zG) :=
    zc (X2_hasCore 0 v1 g) (fun x1 g2 =>
    (if x1 = 0 then
      (zc (X6_refuse (nI 1) g2) (fun x18 g19 =>
      some (x18, g19)))
    else
      (zc (X6_isWithin v2 (nI 0) (nI 3) g2) (fun x4 g5 =>
      (if x4 = 0 then
        (zc (X6_refuse (nI 2) g5) (fun x15 g16 =>
        some (x15, g16)))
      else
        (zi v1 4 (
        (if (g5 5005 (4 * 0 + v1.toNatClampNeg) 0) = (nI 1) then
          (zc (X3_lostAfter 0 v1 v2 g5) (fun x9 g10 =>
          (if x9 < (g10 9003 0 0) then
            (X6_advice_b79  (nI 0) g10)
          else
            (X6_advice_b79  (nI 1) g10))))
        else
          (zc (X6_refuse (nI 5) g5) (fun x12 g13 =>
          some (x12, g13)))))))))))

def X6_commit_b49   (g : zG) : Option (Int32 × zG) :=
    zc (X6_refuse (nI 1) g) (fun x1 g2 =>
    some (x1, g2))

def X6_commit_b28  (v1 : Int32) (v2 : Int32) (s0 : Int32) (g : zG) : Option (Int32 × zG) :=
    (if (g 10000 0 0) = 0 then
      (X6_commit_b49   g)
    else
      ((if s0 = 0 then
        (X6_commit_b49   g)
      else
        (zc (X6_isWithin v2 (nI 0) (nI 3) g) (fun x1 g2 =>
        (if x1 = 0 then
          (X6_commit_b49   g2)
        else
          (zi ((v1 * (nI 4)) + v2) 192 (
          zc (X6_answer (g2 21 0 ((v1 * (nI 4)) + v2).toNatClampNeg) g2) (fun x4 g5 =>
          some (x4, g5))))))))))

def X6_commit_b27  (v1 : Int32) (v2 : Int32) (g : zG) : Option (Int32 × zG) :=
    X6_commit_b28  v1 v2 (nI 0) g

def X6_commit (v1 : Int32) (v2 : Int32) (g : zG) : Option (Int32 × zG) :=
    zc (X6_isWithin v1 (nI 0) ((g 7003 0 0) - (nI 1)) g) (fun x1 g2 =>
    (if x1 = 0 then
      (X6_commit_b27  v1 v2 g2)
    else
      ((if v1 < (nI 48) then
        (X6_commit_b28  v1 v2 (nI 1) g2)
      else
        (X6_commit_b27  v1 v2 g2)))))

def X6_would (v1 : Int32) (g : zG) : Option (Int32 × zG) :=
    zc (X2_hasCore 0 v1 g) (fun x1 g2 =>
    (if x1 = 0 then
      (zc (X6_refuse (nI 1) g2) (fun x13 g14 =>
      some (x13, g14)))
    else
      (zc (X3_copyFrom 2 0 g2) (fun x4 g5 =>
      zc (X3_takeStep 2 v1 g5) (fun x7 g8 =>
      zc (X6_answer x7 g8) (fun x10 g11 =>
      some (x10, g11)))))))

def X6_wouldEnd (v1 : Int32) (g : zG) : Option (Int32 × zG) :=
    zc (X2_hasCore 0 v1 g) (fun x1 g2 =>
    (if x1 = 0 then
      (zc (X6_refuse (nI 1) g2) (fun x13 g14 =>
      some (x13, g14)))
    else
      (zc (X3_copyFrom 2 0 g2) (fun x4 g5 =>
      zc (X3_takeStep 2 v1 g5) (fun x7 g8 =>
      zc (X6_answer (g8 12003 2 0) g8) (fun x10 g11 =>
      some (x10, g11)))))))

def X6_step (v1 : Int32) (g : zG) : Option (Int32 × zG) :=
    zc (X2_hasCore 0 v1 g) (fun x1 g2 =>
    (if x1 = 0 then
      (zc (X6_refuse (nI 1) g2) (fun x4 g5 =>
      some (x4, g5)))
    else
      (zc (X3_takeStep 0 v1 g2) (fun x7 g8 =>
      zc (X6_answer x7 g8) (fun x10 g11 =>
      some (x10, g11))))))

def X6_rounds (v1 : Int32) (g : zG) : Option (Int32 × zG) :=
    (if (g 10000 0 0) = 0 then
      (zc (X6_refuse (nI 1) g) (fun x13 g14 =>
      some (x13, g14)))
    else
      (zc (X6_isWithin v1 (nI 1) (nI 200) g) (fun x1 g2 =>
      (if x1 = 0 then
        (zc (X6_refuse (nI 2) g2) (fun x10 g11 =>
        some (x10, g11)))
      else
        (zc (X3_takeRounds 0 v1 g2) (fun x4 g5 =>
        zc (X6_answer x4 g5) (fun x7 g8 =>
        some (x7, g8))))))))

def X6_isSeed (v0 : Int32) (g : zG) : Option (Int32 × zG) :=
    zc (X6_isWithin v0 (nI 0) (nI 65535) g) (fun x1 g2 =>
    zbo x1 (some (x1, g2)))

def X6_draws_b31   (g : zG) : Option (Int32 × zG) :=
    zc (X6_refuse (nI 2) g) (fun x1 g2 =>
    some (x1, g2))

def X6_draws (v1 : Int32) (v2 : Int32) (g : zG) : Option (Int32 × zG) :=
    (if (g 10000 0 0) = 0 then
      (zc (X6_refuse (nI 1) g) (fun x13 g14 =>
      some (x13, g14)))
    else
      (zc (X6_isWithin v1 (nI 1) (nI 1000) g) (fun x1 g2 =>
      (if x1 = 0 then
        (X6_draws_b31   g2)
      else
        (zc (X6_isSeed v2 g2) (fun x4 g5 =>
        (if x4 = 0 then
          (X6_draws_b31   g5)
        else
          (zc (X3_takeDraws 0 v1 v2 g5) (fun x7 g8 =>
          zc (X6_answer x7 g8) (fun x10 g11 =>
          some (x10, g11)))))))))))

def X6_interrupt (v1 : Int32) (g : zG) : Option (Int32 × zG) :=
    zc (X2_hasCore 0 v1 g) (fun x1 g2 =>
    (if x1 = 0 then
      (zc (X6_refuse (nI 1) g2) (fun x17 g18 =>
      some (x17, g18)))
    else
      (zi v1 4 (
      (if (g2 5005 (4 * 0 + v1.toNatClampNeg) 0) = (nI 1) then
        (zc (X3_endTries 0 ((nI 1) <<< (v1 &&& 31)) (nI 2) g2) (fun x6 g7 =>
        zi v1 4 (
        zc (X6_answer (g7 1005 (4 * 0 + v1.toNatClampNeg) 0) g7) (fun x11 g12 =>
        some (x11, g12)))))
      else
        (zc (X6_refuse (nI 5) g2) (fun x14 g15 =>
        some (x14, g15))))))))

def X6_isTrial (v0 : Int32) (v1 : Int32) (v2 : Int32) (g : zG) : Option (Int32 × zG) :=
    zc (X6_isWithin v0 (nI 0) (nI 2) g) (fun x1 g2 =>
    (if x1 = 0 then
      (some ((nI 0), g2))
    else
      (zc (X6_isWithin v1 (nI 1) (nI 9) g2) (fun x4 g5 =>
      (if x4 = 0 then
        (some ((nI 0), g5))
      else
        (zc (X6_isSeed v2 g5) (fun x7 g8 =>
        (if x7 = 0 then
          (some ((nI 0), g8))
        else
          (some ((nI 1), g8))))))))))

def X6_tried_b17   (g : zG) : Option (Int32 × zG) :=
    zc (X6_refuse (nI 1) g) (fun x1 g2 =>
    some (x1, g2))

def X6_tried (v1 : Int32) (v2 : Int32) (v3 : Int32) (v4 : Int32) (g : zG) : Option (Int32 × zG) :=
    (if (g 10000 0 0) = 0 then
      (X6_tried_b17   g)
    else
      (zc (X6_isWithin v4 (nI 0) (nI 5) g) (fun x1 g2 =>
      (if x1 = 0 then
        (X6_tried_b17   g2)
      else
        (zc (X6_isTrial v1 v2 v3 g2) (fun x4 g5 =>
        (if x4 = 0 then
          (zc (X6_refuse (nI 2) g5) (fun x52 g53 =>
          some (x52, g53)))
        else
          (zc (X3_startOver 2 v1 v2 g5) (fun x7 g8 =>
          zc (X3_takeDraws 2 (nI 2000) v3 g8) (fun x10 g11 =>
          zc (X3_isAllDone 2 g11) (fun x13 g14 =>
          (if x13 = 0 then
            (zc (X6_answer (-2) g14) (fun x49 g50 =>
            some (x49, g50)))
          else
            ((if v4 = (nI 0) then
              (zc (X6_answer (g14 10003 2 0) g14) (fun x16 g17 =>
              some (x16, g17)))
            else (if v4 = (nI 1) then
              (zc (X3_countInAll 2 (nI 0) g14) (fun x19 g20 =>
              zc (X6_answer x19 g20) (fun x22 g23 =>
              some (x22, g23))))
            else (if v4 = (nI 2) then
              (zc (X3_countInAll 2 (nI 1) g14) (fun x25 g26 =>
              zc (X6_answer x25 g26) (fun x28 g29 =>
              some (x28, g29))))
            else (if v4 = (nI 3) then
              (zc (X3_countInAll 2 (nI 3) g14) (fun x31 g32 =>
              zc (X6_answer x31 g32) (fun x34 g35 =>
              some (x34, g35))))
            else (if v4 = (nI 4) then
              (zc (X3_countInAll 2 (nI 5) g14) (fun x37 g38 =>
              zc (X6_answer x37 g38) (fun x40 g41 =>
              some (x40, g41))))
            else (zc (X3_countInAll 2 (nI 6) g14) (fun x43 g44 =>
              zc (X6_answer x43 g44) (fun x46 g47 =>
              some (x46, g47))))))))))))))))))))))

def X6_triedWord (v1 : Int32) (v2 : Int32) (v3 : Int32) (v4 : Int32) (g : zG) : Option (Int32 × zG) :=
    zc (X2_hasAddress 0 v4 g) (fun x1 g2 =>
    (if x1 = 0 then
      (zc (X6_refuse (nI 1) g2) (fun x22 g23 =>
      some (x22, g23)))
    else
      (zc (X6_isTrial v1 v2 v3 g2) (fun x4 g5 =>
      (if x4 = 0 then
        (zc (X6_refuse (nI 2) g5) (fun x19 g20 =>
        some (x19, g20)))
      else
        (zc (X3_startOver 2 v1 v2 g5) (fun x7 g8 =>
        zc (X3_takeDraws 2 (nI 2000) v3 g8) (fun x10 g11 =>
        zc (X3_wordAt 2 v4 g11) (fun x13 g14 =>
        zc (X6_answer x13 g14) (fun x16 g17 =>
        some (x16, g17)))))))))))

def X6_best_b106 (k34 : Int32 → Int32 → Int32 → Int32 → zG → Option (Int32 × zG)) (v1 : Int32) (v2 : Int32) (v3 : Int32) (v4 : Int32) (g : zG) : Option (Int32 × zG) :=
    k34 v1 v2 v3 (v4 + (nI 1)) g

def X6_best_b95 (k34 : Int32 → Int32 → Int32 → Int32 → zG → Option (Int32 × zG)) (v1 : Int32) (v4 : Int32) (g : zG) : Option (Int32 × zG) :=
    X6_best_b106 k34 v1 v4 (g 10003 2 0) v4 g

def X6_best_l34  : Nat → Int32 → Int32 → Int32 → Int32 → zG → Option (Int32 × zG)
  | 0, _, _, _, _, _ => none
  | n + 1, v1, v2, v3, v4, g =>
    (if (nI 2) < v4 then
      (zc (X6_answer v2 g) (fun x1 g2 =>
      some (x1, g2)))
    else
      (zc (X3_startOver 2 v4 (g 5001 0 0) g) (fun x4 g5 =>
      zc (X3_takeDraws 2 (nI 2000) v1 g5) (fun x7 g8 =>
      zc (X3_isAllDone 2 g8) (fun x10 g11 =>
      (if x10 = 0 then
        (X6_best_b106 (X6_best_l34  n) v1 v2 v3 v4 g11)
      else
        ((if v2 = (-2) then
          (X6_best_b95 (X6_best_l34  n) v1 v4 g11)
        else
          ((if (g11 10003 2 0) < v3 then
            (X6_best_b95 (X6_best_l34  n) v1 v4 g11)
          else
            (X6_best_b106 (X6_best_l34  n) v1 v2 v3 v4 g11)))))))))))

def X6_best (v1 : Int32) (g : zG) : Option (Int32 × zG) :=
    (if (g 10000 0 0) = 0 then
      (zc (X6_refuse (nI 1) g) (fun x7 g8 =>
      some (x7, g8)))
    else
      (zc (X6_isSeed v1 g) (fun x1 g2 =>
      (if x1 = 0 then
        (zc (X6_refuse (nI 2) g2) (fun x4 g5 =>
        some (x4, g5)))
      else
        (X6_best_l34  zfuel v1 (-2) (nI 0) (nI 0) g2)))))

def X6_waysFor (v1 : Int32) (g : zG) : Option (Int32 × zG) :=
    zc (X2_hasCore 0 v1 g) (fun x1 g2 =>
    (if x1 = 0 then
      (zc (X6_refuse (nI 1) g2) (fun x13 g14 =>
      some (x13, g14)))
    else
      (zc (X4_startOver  g2) (fun x4 g5 =>
      zc (X4_play v1 (nI 0) (nI 0) g5) (fun x7 g8 =>
      zc (X6_answer (g8 6006 0 0) g8) (fun x10 g11 =>
      some (x10, g11)))))))

def X6_keep  (g : zG) : Option (Int32 × zG) :=
    (if (g 10000 0 0) = 0 then
      (zc (X6_refuse (nI 1) g) (fun x8 g9 =>
      some ((nI 0), g9)))
    else
      (zc (X3_copyFrom 1 0 g) (fun x1 g2 =>
      zw g2 11000 0 0 (nI 1) (fun g4 =>
      zc (X6_answer (nI 0) g4) (fun x5 g6 =>
      some ((nI 1), g6))))))

def X6_back  (g : zG) : Option (Int32 × zG) :=
    (if (g 11000 0 0) = 0 then
      (zc (X6_refuse (nI 1) g) (fun x7 g8 =>
      some ((nI 0), g8)))
    else
      (zc (X3_copyFrom 0 1 g) (fun x1 g2 =>
      zc (X6_answer (nI 0) g2) (fun x4 g5 =>
      some ((nI 1), g5)))))

def X6_done_b41 (k4 : Int32 → Int32 → Int32 → zG → Option (Int32 × zG)) (v1 : Int32) (v2 : Int32) (v3 : Int32) (g : zG) : Option (Int32 × zG) :=
    k4 v1 v2 (v3 + (nI 1)) g

def X6_done_l4  : Nat → Int32 → Int32 → Int32 → zG → Option (Int32 × zG)
  | 0, _, _, _, _ => none
  | n + 1, v1, v2, v3, g =>
    (if v3 < (nI 4) then
      (zc (X2_hasCore 0 v3 g) (fun x1 g2 =>
      (if x1 = 0 then
        (X6_done_b41 (X6_done_l4  n) v1 v2 v3 g2)
      else
        (zc (X3_hasDeedsLeft 0 v3 g2) (fun x4 g5 =>
        (if x4 = 0 then
          ((if v2 = v1 then
            (some (v3, g5))
          else
            (X6_done_b41 (X6_done_l4  n) v1 (v2 + (nI 1)) v3 g5)))
        else
          (X6_done_b41 (X6_done_l4  n) v1 v2 v3 g5)))))))
    else
      (some (nI 1000, g)))

def X6_done (v1 : Int32) (g : zG) : Option (Int32 × zG) :=
    X6_done_l4  zfuel v1 (nI 0) (nI 0) g

def X6_size (v1 : Int32) (g : zG) : Option (Int32 × zG) :=
    (if v1 = (nI 0) then
      (some ((g 2000 0 0), g))
    else (if v1 = (nI 1) then
      (some ((g 7001 0 0), g))
    else (if v1 = (nI 2) then
      (zc (X2_deedsInAll 0 g) (fun x1 g2 =>
      some (x1, g2)))
    else (if v1 = (nI 3) then
      (zc (X6_asBit (g 11000 0 0) g) (fun x4 g5 =>
      some (x4, g5)))
    else (some ((-1), g))))))

def X6_trouble  (g : zG) : Option (Int32 × zG) :=
    some ((g 13000 0 0), g)

def X7_thrown  (g : zG) : Option (Int32 × zG) :=
    some ((g 1007 0 0), g)

def X7_in (v0 : Int32) (v1 : Int32) (v2 : Int32) (g : zG) : Option (Int32 × zG) :=
    (if v0 < v1 then
      (some ((nI 0), g))
    else
      ((if v2 < v0 then
        (some ((nI 0), g))
      else
        (some ((nI 1), g)))))

def X7_anew  (g : zG) : Option (Int32 × zG) :=
    zw g 1007 0 0 (nI 0) (fun g1 =>
    zw g1 2007 0 0 (nI 0) (fun g2 =>
    zw g2 4007 0 0 (-1) (fun g3 =>
    some (0, g3))))

def X7_no (v1 : Int32) (g : zG) : Option (Int32 × zG) :=
    zw g 2007 0 0 v1 (fun g1 =>
    some ((-1), g1))

def X7_lays_l2  : Nat → Int32 → Int32 → zG → Option (Int32 × zG)
  | 0, _, _, _ => none
  | n + 1, v1, v2, g =>
    (if v2 < (nI 4) then
      (zi ((g 6007 0 0) + v2) 900 (zw g 30 0 ((g 6007 0 0) + v2).toNatClampNeg ((v1 >>> (((nI 24) - ((nI 8) * v2)) &&& 31)) &&& (nI 255)) (fun g2 =>
      X7_lays_l2  n v1 (v2 + (nI 1)) g2)))
    else
      (zw g 6007 0 0 ((g 6007 0 0) + (nI 4)) (fun g1 =>
      some (0, g1))))

def X7_lays (v1 : Int32) (g : zG) : Option (Int32 × zG) :=
    X7_lays_l2  zfuel v1 (nI 0) g

def X7_feed (v1 : Int32) (v2 : Int32) (v3 : Int32) (v4 : Int32) (v5 : Int32) (g : zG) : Option (Int32 × zG) :=
    zw g 1007 0 0 (nI 0) (fun g1 =>
    (if (nI 880) < (g1 6007 0 0) then
      (some ((-1), g1))
    else
      (zc (X7_lays v1 g1) (fun x2 g3 =>
      zc (X7_lays v2 g3) (fun x5 g6 =>
      zc (X7_lays v3 g6) (fun x8 g9 =>
      zc (X7_lays v4 g9) (fun x11 g12 =>
      zc (X7_lays v5 g12) (fun x14 g15 =>
      some ((g15 6007 0 0), g15)))))))))

def X7_see (v1 : Int32) (g : zG) : Option (Int32 × zG) :=
    (if v1 < (g 22007 0 0) then
      (zi v1 900 (
      some ((g 30 0 v1.toNatClampNeg), g)))
    else
      (some ((-1), g)))

def X7_nextToken_l0 (k65 : zG → Option (Int32 × zG)) (k136 : zG → Option (Int32 × zG)) (k255 : Int32 → zG → Option (Int32 × zG)) : Nat → zG → Option (Int32 × zG)
  | 0, _ => none
  | n + 1, g =>
    zc (X7_see (g 24007 0 0) g) (fun x1 g2 =>
    (if x1 = (nI 32) then
      (zw g2 24007 0 0 ((g2 24007 0 0) + (nI 1)) (fun g17 =>
      X7_nextToken_l0 k65 k136 k255 n  g17))
    else
      (zw g2 23007 0 0 (g2 24007 0 0) (fun g4 =>
      zc (X7_see (g4 24007 0 0) g4) (fun x5 g6 =>
      (if x5 = (-1) then
        (zw g6 25007 0 0 (nI 0) (fun g16 =>
        some (0, g16)))
      else
        (zc (X7_in x5 (nI 97) (nI 122) g6) (fun x8 g9 =>
        (if x8 = 0 then
          (zc (X7_in x5 (nI 48) (nI 57) g9) (fun x11 g12 =>
          (if x11 = 0 then
            (zw g12 24007 0 0 ((g12 24007 0 0) + (nI 1)) (fun g14 =>
            (if x5 = (nI 59) then
              (k255 x5 g14)
            else
              (k255 (nI 1) g14))))
          else
            (zw g12 26007 0 0 (nI 0) (fun g15 =>
            k136  g15)))))
        else
          (k65  g9))))))))))

def X7_nextToken_l65 (k116 : Int32 → zG → Option (Int32 × zG)) : Nat → zG → Option (Int32 × zG)
  | 0, _ => none
  | n + 1, g =>
    zc (X7_see (g 24007 0 0) g) (fun x1 g2 =>
    zc (X7_in x1 (nI 97) (nI 122) g2) (fun x4 g5 =>
    (if x4 = 0 then
      ((if (nI 7) < ((g5 24007 0 0) - (g5 23007 0 0)) then
        (k116 (nI 1) g5)
      else
        (k116 (nI 2) g5)))
    else
      (zw g5 24007 0 0 ((g5 24007 0 0) + (nI 1)) (fun g7 =>
      X7_nextToken_l65 k116 n  g7)))))

def X7_nextToken_b116  (s1 : Int32) (g : zG) : Option (Int32 × zG) :=
    zw g 25007 0 0 s1 (fun g1 =>
    some (0, g1))

def X7_nextToken_b194 (k136 : zG → Option (Int32 × zG)) (s1 : Int32) (g : zG) : Option (Int32 × zG) :=
    zw g 26007 0 0 s1 (fun g1 =>
    zw g1 24007 0 0 ((g1 24007 0 0) + (nI 1)) (fun g2 =>
    k136  g2))

def X7_nextToken_l136 (k229 : Int32 → zG → Option (Int32 × zG)) : Nat → zG → Option (Int32 × zG)
  | 0, _ => none
  | n + 1, g =>
    zc (X7_see (g 24007 0 0) g) (fun x1 g2 =>
    zc (X7_in x1 (nI 48) (nI 57) g2) (fun x4 g5 =>
    (if x4 = 0 then
      ((if (nI 3) < ((g5 24007 0 0) - (g5 23007 0 0)) then
        (k229 (nI 1) g5)
      else
        (k229 (nI 3) g5)))
    else
      ((if ((g5 24007 0 0) - (g5 23007 0 0)) < (nI 3) then
        (zc (X7_see (g5 24007 0 0) g5) (fun x7 g8 =>
        X7_nextToken_b194 (X7_nextToken_l136 k229 n) ((((nI 10) * (g5 26007 0 0)) + x7) - (nI 48)) g8))
      else
        (X7_nextToken_b194 (X7_nextToken_l136 k229 n) (g5 26007 0 0) g5))))))

def X7_nextToken_b229  (s1 : Int32) (g : zG) : Option (Int32 × zG) :=
    zw g 25007 0 0 s1 (fun g1 =>
    some (0, g1))

def X7_nextToken_b255  (s1 : Int32) (g : zG) : Option (Int32 × zG) :=
    zw g 25007 0 0 s1 (fun g1 =>
    some (0, g1))

def X7_nextToken  (g : zG) : Option (Int32 × zG) :=
    X7_nextToken_l0 (fun  g => X7_nextToken_l65 (fun (s1 : Int32) g => X7_nextToken_b116  s1 g) zfuel  g) (fun  g => X7_nextToken_l136 (fun (s1 : Int32) g => X7_nextToken_b229  s1 g) zfuel  g) (fun (s1 : Int32) g => X7_nextToken_b255  s1 g) zfuel  g

def X7_isWord_l28  : Nat → Nat → Int32 → zG → Option (Int32 × zG)
  | 0, _, _, _ => none
  | n + 1, v1, v2, g =>
    (if v2 < (nI (zslen v1)) then
      (zi ((g 23007 0 0) + v2) 900 (
      zi v2 (zslen v1) (
      (if (g 30 0 ((g 23007 0 0) + v2).toNatClampNeg) = (zsch v1 v2.toNatClampNeg) then
        (X7_isWord_l28  n v1 (v2 + (nI 1)) g)
      else
        (some ((nI 0), g))))))
    else
      (some ((nI 1), g)))

def X7_isWord (v1 : Nat) (g : zG) : Option (Int32 × zG) :=
    (if (g 25007 0 0) = (nI 2) then
      ((if ((g 24007 0 0) - (g 23007 0 0)) = (nI (zslen v1)) then
        (X7_isWord_l28  zfuel v1 (nI 0) g)
      else
        (some ((nI 0), g))))
    else
      (some ((nI 0), g)))

def X7_errs (v1 : Int32) (g : zG) : Option (Int32 × zG) :=
    zw g 27007 0 0 v1 (fun g1 =>
    zw g1 28007 0 0 (g1 23007 0 0) (fun g2 =>
    some ((-1), g2)))

def X7_wholeHere (v1 : Int32) (v2 : Int32) (g : zG) : Option (Int32 × zG) :=
    (if (g 25007 0 0) = (nI 3) then
      (zc (X7_in (g 26007 0 0) v1 v2 g) (fun x1 g2 =>
      (if x1 = 0 then
        (zc (X7_errs (nI 2) g2) (fun x4 g5 =>
        some (x4, g5)))
      else
        (some ((g2 26007 0 0), g2)))))
    else
      (zc (X7_errs (nI 1) g) (fun x7 g8 =>
      some (x7, g8))))

def X7_passes (v1 : Int32) (v2 : Int32) (g : zG) : Option (Int32 × zG) :=
    zc (X7_wholeHere v1 v2 g) (fun x1 g2 =>
    (if x1 = (-1) then
      (some (x1, g2))
    else
      (zc (X7_nextToken  g2) (fun x4 g5 =>
      some (x1, g5)))))

def X7_after (v1 : Nat) (v2 : Int32) (v3 : Int32) (g : zG) : Option (Int32 × zG) :=
    zc (X7_isWord v1 g) (fun x1 g2 =>
    (if x1 = 0 then
      (zc (X7_errs (nI 1) g2) (fun x10 g11 =>
      some (x10, g11)))
    else
      (zc (X7_nextToken  g2) (fun x4 g5 =>
      zc (X7_passes v2 v3 g5) (fun x7 g8 =>
      some (x7, g8))))))

def X7_power (v1 : Nat) (g : zG) : Option (Int32 × zG) :=
    zc (X7_isWord v1 g) (fun x1 g2 =>
    (if x1 = 0 then
      (zc (X7_errs (nI 1) g2) (fun x16 g17 =>
      some (x16, g17)))
    else
      (zc (X7_nextToken  g2) (fun x4 g5 =>
      zc (X7_wholeHere (nI 1) (nI 4) g5) (fun x7 g8 =>
      (if x7 = (-1) then
        (some ((-1), g8))
      else
        ((if (g8 26007 0 0) = (nI 3) then
          (zc (X7_errs (nI 2) g8) (fun x13 g14 =>
          some (x13, g14)))
        else
          (zc (X7_passes (nI 1) (nI 4) g8) (fun x10 g11 =>
          some (x10, g11)))))))))))

def X7_readMachine_b207  (s1 : Int32) (g : zG) : Option (Int32 × zG) :=
    zbo s1 (
    zw g 29007 0 0 s1 (fun g1 =>
    zi (nI 4) 6 (
    some ((g1 32 0 (nI 4).toNatClampNeg), g1))))

def X7_readMachine_b155  (s1 : Int32) (s2 : Int32) (g : zG) : Option (Int32 × zG) :=
    zi s1 6 (zw g 32 0 s1.toNatClampNeg s2 (fun g1 =>
    zi (nI 3) 6 (
    (if (g1 32 0 (nI 3).toNatClampNeg) = (-1) then
      (zc (X7_errs (nI 1) g1) (fun x9 g10 =>
      some (x9, g10)))
    else
      (zc (X7_nextToken  g1) (fun x2 g3 =>
      zc (X7_after 17 (nI 1) (nI 9) g3) (fun x5 g6 =>
      zi (nI 4) 6 (zw g6 32 0 (nI 4).toNatClampNeg x5 (fun g8 =>
      zi (nI 4) 6 (
      (if (g8 32 0 (nI 4).toNatClampNeg) = (-1) then
        (X7_readMachine_b207  (nI 0) g8)
      else
        (X7_readMachine_b207  (nI 1) g8))))))))))))

def X7_readMachine  (g : zG) : Option (Int32 × zG) :=
    (if (g 29007 0 0) = 0 then
      (zc (X7_nextToken  g) (fun x1 g2 =>
      zc (X7_power 10 g2) (fun x4 g5 =>
      zi (nI 0) 6 (zw g5 32 0 (nI 0).toNatClampNeg x4 (fun g7 =>
      zi (nI 0) 6 (
      (if (g7 32 0 (nI 0).toNatClampNeg) = (-1) then
        (some ((-1), g7))
      else
        (zc (X7_after 11 (nI 1) (nI 4) g7) (fun x8 g9 =>
        zi (nI 1) 6 (zw g9 32 0 (nI 1).toNatClampNeg x8 (fun g11 =>
        zi (nI 1) 6 (
        (if (g11 32 0 (nI 1).toNatClampNeg) = (-1) then
          (some ((-1), g11))
        else
          (zc (X7_power 12 g11) (fun x12 g13 =>
          zi (nI 2) 6 (zw g13 32 0 (nI 2).toNatClampNeg x12 (fun g15 =>
          zi (nI 2) 6 (
          (if (g15 32 0 (nI 2).toNatClampNeg) = (-1) then
            (some ((-1), g15))
          else
            (zc (X7_isWord 13 g15) (fun x16 g17 =>
            (if x16 = 0 then
              (zc (X7_errs (nI 1) g17) (fun x31 g32 =>
              some (x31, g32)))
            else
              (zc (X7_nextToken  g17) (fun x19 g20 =>
              zc (X7_isWord 14 g20) (fun x22 g23 =>
              (if x22 = 0 then
                (zc (X7_isWord 15 g23) (fun x25 g26 =>
                (if x25 = 0 then
                  (zc (X7_isWord 16 g26) (fun x28 g29 =>
                  (if x28 = 0 then
                    (X7_readMachine_b155  (nI 3) (-1) g29)
                  else
                    (X7_readMachine_b155  (nI 3) (nI 2) g29))))
                else
                  (X7_readMachine_b155  (nI 3) (nI 1) g26))))
              else
                (X7_readMachine_b155  (nI 3) (nI 0) g23)))))))))))))))))))))))))))
    else
      (zc (X7_errs (nI 3) g) (fun x34 g35 =>
      some (x34, g35))))

def X7_addresses (v1 : Int32) (g : zG) : Option (Int32 × zG) :=
    some (((nI 16) * v1), g)

def X7_readToldWord  (g : zG) : Option (Int32 × zG) :=
    (if (g 10007 0 0) = (nI 12) then
      (zc (X7_errs (nI 4) g) (fun x24 g25 =>
      some (x24, g25)))
    else
      ((if (g 29007 0 0) = 0 then
        (zc (X7_errs (nI 5) g) (fun x21 g22 =>
        some (x21, g22)))
      else
        (zc (X7_nextToken  g) (fun x1 g2 =>
        zi (nI 2) 6 (
        zc (X7_addresses (g2 32 0 (nI 2).toNatClampNeg) g2) (fun x4 g5 =>
        zc (X7_wholeHere (nI 0) (x4 - (nI 1)) g5) (fun x7 g8 =>
        (if x7 = (-1) then
          (some ((-1), g8))
        else
          (zi x7 64 (
          (if (g8 34 0 x7.toNatClampNeg) = (-1) then
            (zc (X7_nextToken  g8) (fun x10 g11 =>
            zc (X7_passes (nI 0) (nI 999) g11) (fun x13 g14 =>
            (if x13 = (-1) then
              (some ((-1), g14))
            else
              (zi x7 64 (zw g14 34 0 x7.toNatClampNeg x13 (fun g16 =>
              zw g16 10007 0 0 ((g16 10007 0 0) + (nI 1)) (fun g17 =>
              some ((nI 0), g17)))))))))
          else
            (zc (X7_errs (nI 3) g8) (fun x18 g19 =>
            some (x18, g19)))))))))))))))

def X7_readCore  (g : zG) : Option (Int32 × zG) :=
    zi (nI 5) 6 (
    (if (g 32 0 (nI 5).toNatClampNeg) = (nI 4) then
      (zc (X7_errs (nI 4) g) (fun x12 g13 =>
      some (x12, g13)))
    else
      ((if (g 29007 0 0) = 0 then
        (zc (X7_errs (nI 5) g) (fun x9 g10 =>
        some (x9, g10)))
      else
        ((if (g 30007 0 0) = 0 then
          (zi (nI 5) 6 (
          zi (g 32 0 (nI 5).toNatClampNeg) 4 (zw g 36 0 (g 32 0 (nI 5).toNatClampNeg).toNatClampNeg (nI 0) (fun g1 =>
          zi (nI 5) 6 (
          zi (nI 5) 6 (zw g1 32 0 (nI 5).toNatClampNeg ((g1 32 0 (nI 5).toNatClampNeg) + (nI 1)) (fun g2 =>
          zc (X7_nextToken  g2) (fun x3 g4 =>
          some ((nI 0), g4)))))))))
        else
          (zc (X7_errs (nI 6) g) (fun x6 g7 =>
          some (x6, g7)))))))))

def X7_sortHere  (g : zG) : Option (Int32 × zG) :=
    zc (X7_isWord 0 g) (fun x1 g2 =>
    (if x1 = 0 then
      (zc (X7_isWord 1 g2) (fun x4 g5 =>
      (if x4 = 0 then
        (zc (X7_isWord 2 g5) (fun x7 g8 =>
        (if x7 = 0 then
          (zc (X7_isWord 3 g8) (fun x10 g11 =>
          (if x10 = 0 then
            (zc (X7_isWord 4 g11) (fun x13 g14 =>
            (if x13 = 0 then
              (zc (X7_isWord 5 g14) (fun x16 g17 =>
              (if x16 = 0 then
                (zc (X7_isWord 6 g17) (fun x19 g20 =>
                (if x19 = 0 then
                  (some ((-1), g20))
                else
                  (some ((nI 6), g20)))))
              else
                (some ((nI 5), g17)))))
            else
              (some ((nI 4), g14)))))
          else
            (some ((nI 3), g11)))))
        else
          (some ((nI 2), g8)))))
      else
        (some ((nI 1), g5)))))
    else
      (some ((nI 0), g2))))

def X7_readDeed_b41   (g : zG) : Option (Int32 × zG) :=
    zc (X7_errs (nI 5) g) (fun x1 g2 =>
    some (x1, g2))

def X7_readDeed_b223  (v2 : Int32) (s1 : Int32) (g : zG) : Option (Int32 × zG) :=
    zbo s1 (
    zw g 30007 0 0 s1 (fun g1 =>
    zi v2 4 (
    zi v2 4 (zw g1 36 0 v2.toNatClampNeg ((g1 36 0 v2.toNatClampNeg) + (nI 1)) (fun g2 =>
    some ((nI 0), g2))))))

def X7_readDeed_b218  (v2 : Int32) (g : zG) : Option (Int32 × zG) :=
    X7_readDeed_b223  v2 (nI 1) g

def X7_readDeed_b222  (v2 : Int32) (g : zG) : Option (Int32 × zG) :=
    X7_readDeed_b223  v2 (nI 0) g

def X7_readDeed_b201  (v1 : Int32) (v2 : Int32) (g : zG) : Option (Int32 × zG) :=
    (if v1 = 0 then
      (X7_readDeed_b218  v2 g)
    else
      ((if v1 = (nI 1) then
        (X7_readDeed_b222  v2 g)
      else
        ((if (g 30007 0 0) = 0 then
          (X7_readDeed_b222  v2 g)
        else
          (X7_readDeed_b218  v2 g))))))

def X7_readDeed_b160  (v1 : Int32) (v2 : Int32) (v3 : Int32) (s1 : Int32) (s3 : Int32) (s4 : Int32) (g : zG) : Option (Int32 × zG) :=
    zc (X7_passes s3 s4 g) (fun x1 g2 =>
    zi s1 96 (zw g2 40 0 s1.toNatClampNeg x1 (fun g4 =>
    zi v3 96 (
    (if (g4 40 0 v3.toNatClampNeg) = (-1) then
      (some ((-1), g4))
    else
      ((if v1 < (nI 5) then
        (zc (X7_isWord 18 g4) (fun x5 g6 =>
        (if x5 = 0 then
          (X7_readDeed_b201  v1 v2 g6)
        else
          (zi v3 96 (zw g6 42 0 v3.toNatClampNeg (nI 1) (fun g8 =>
          zc (X7_nextToken  g8) (fun x9 g10 =>
          X7_readDeed_b201  v1 v2 g10)))))))
      else
        (X7_readDeed_b201  v1 v2 g4))))))))

def X7_readDeed_b87  (v1 : Int32) (v2 : Int32) (g : zG) : Option (Int32 × zG) :=
    zc (X7_nextToken  g) (fun x1 g2 =>
    zi v2 4 (
    zi (((nI 24) * v2) + (g2 36 0 v2.toNatClampNeg)) 96 (zw g2 38 0 (((nI 24) * v2) + (g2 36 0 v2.toNatClampNeg)).toNatClampNeg v1 (fun g4 =>
    zi (((nI 24) * v2) + (g2 36 0 v2.toNatClampNeg)) 96 (zw g4 40 0 (((nI 24) * v2) + (g2 36 0 v2.toNatClampNeg)).toNatClampNeg (-2) (fun g5 =>
    zi (((nI 24) * v2) + (g2 36 0 v2.toNatClampNeg)) 96 (zw g5 42 0 (((nI 24) * v2) + (g2 36 0 v2.toNatClampNeg)).toNatClampNeg (nI 0) (fun g6 =>
    (if v1 < (nI 3) then
      (X7_readDeed_b201  v1 v2 g6)
    else
      ((if v1 < (nI 5) then
        (zi (nI 2) 6 (
        zc (X7_addresses (g6 32 0 (nI 2).toNatClampNeg) g6) (fun x7 g8 =>
        X7_readDeed_b160  v1 v2 (((nI 24) * v2) + (g2 36 0 v2.toNatClampNeg)) (((nI 24) * v2) + (g2 36 0 v2.toNatClampNeg)) (nI 0) (x7 - (nI 1)) g8)))
      else
        (X7_readDeed_b160  v1 v2 (((nI 24) * v2) + (g2 36 0 v2.toNatClampNeg)) (((nI 24) * v2) + (g2 36 0 v2.toNatClampNeg)) (nI 0) (nI 999) g6))))))))))))

def X7_readDeed_b80   (g : zG) : Option (Int32 × zG) :=
    zc (X7_errs (nI 6) g) (fun x1 g2 =>
    some (x1, g2))

def X7_readDeed_b73  (v1 : Int32) (v2 : Int32) (g : zG) : Option (Int32 × zG) :=
    (if (g 30007 0 0) = 0 then
      (X7_readDeed_b80   g)
    else
      (X7_readDeed_b87  v1 v2 g))

def X7_readDeed_b58  (v1 : Int32) (v2 : Int32) (g : zG) : Option (Int32 × zG) :=
    (if v1 = (nI 1) then
      (X7_readDeed_b73  v1 v2 g)
    else
      ((if v1 = (nI 3) then
        (X7_readDeed_b73  v1 v2 g)
      else
        ((if v1 = (nI 4) then
          (X7_readDeed_b73  v1 v2 g)
        else
          (X7_readDeed_b87  v1 v2 g))))))

def X7_readDeed_b30  (v1 : Int32) (v2 : Int32) (g : zG) : Option (Int32 × zG) :=
    (if (g 29007 0 0) = 0 then
      (X7_readDeed_b41   g)
    else
      ((if v2 < 0 then
        (X7_readDeed_b41   g)
      else
        ((if v1 = 0 then
          ((if (g 30007 0 0) = 0 then
            (X7_readDeed_b58  v1 v2 g)
          else
            (X7_readDeed_b80   g)))
        else
          (X7_readDeed_b58  v1 v2 g))))))

def X7_readDeed (v1 : Int32) (g : zG) : Option (Int32 × zG) :=
    zi (nI 5) 6 (
    (if ((g 32 0 (nI 5).toNatClampNeg) - (nI 1)) < 0 then
      (X7_readDeed_b30  v1 ((g 32 0 (nI 5).toNatClampNeg) - (nI 1)) g)
    else
      (zi ((g 32 0 (nI 5).toNatClampNeg) - (nI 1)) 4 (
      (if (g 36 0 ((g 32 0 (nI 5).toNatClampNeg) - (nI 1)).toNatClampNeg) = (nI 24) then
        (zc (X7_errs (nI 4) g) (fun x1 g2 =>
        some (x1, g2)))
      else
        (X7_readDeed_b30  v1 ((g 32 0 (nI 5).toNatClampNeg) - (nI 1)) g))))))

def X7_readLine  (g : zG) : Option (Int32 × zG) :=
    zc (X7_isWord 7 g) (fun x1 g2 =>
    (if x1 = 0 then
      (zc (X7_isWord 8 g2) (fun x4 g5 =>
      (if x4 = 0 then
        (zc (X7_isWord 9 g5) (fun x7 g8 =>
        (if x7 = 0 then
          (zc (X7_sortHere  g8) (fun x10 g11 =>
          (if x10 = (-1) then
            (zc (X7_errs (nI 1) g11) (fun x16 g17 =>
            some (x16, g17)))
          else
            (zc (X7_readDeed x10 g11) (fun x13 g14 =>
            some (x13, g14))))))
        else
          (zc (X7_readCore  g8) (fun x19 g20 =>
          some (x19, g20))))))
      else
        (zc (X7_readToldWord  g5) (fun x22 g23 =>
        some (x22, g23))))))
    else
      (zc (X7_readMachine  g2) (fun x25 g26 =>
      some (x25, g26)))))

def X7_readText_l34 (k67 : zG → Option (Int32 × zG)) : Nat → Int32 → zG → Option (Int32 × zG)
  | 0, _, _ => none
  | n + 1, v2, g =>
    (if v2 < (nI 64) then
      (zi v2 64 (zw g 34 0 v2.toNatClampNeg (-1) (fun g7 =>
      X7_readText_l34 k67 n (v2 + (nI 1)) g7)))
    else
      (zc (X7_nextToken  g) (fun x1 g2 =>
      zc (X7_readLine  g2) (fun x4 g5 =>
      (if x4 = (-1) then
        (some ((-1), g5))
      else
        (k67  g5))))))

def X7_readText_l67  : Nat → zG → Option (Int32 × zG)
  | 0, _ => none
  | n + 1, g =>
    (if (g 25007 0 0) = (nI 59) then
      (zc (X7_nextToken  g) (fun x10 g11 =>
      zc (X7_readLine  g11) (fun x13 g14 =>
      (if x13 = (-1) then
        (some ((-1), g14))
      else
        (X7_readText_l67  n  g14)))))
    else
      ((if (g 25007 0 0) = 0 then
        (zi (nI 5) 6 (
        (if (g 32 0 (nI 5).toNatClampNeg) = 0 then
          (zc (X7_errs (nI 5) g) (fun x4 g5 =>
          some (x4, g5)))
        else
          ((if (g 30007 0 0) = 0 then
            (zi (nI 5) 6 (
            some ((g 32 0 (nI 5).toNatClampNeg), g)))
          else
            (zc (X7_errs (nI 6) g) (fun x1 g2 =>
            some (x1, g2))))))))
      else
        (zc (X7_errs (nI 1) g) (fun x7 g8 =>
        some (x7, g8))))))

def X7_readText (v1 : Int32) (g : zG) : Option (Int32 × zG) :=
    zw g 22007 0 0 v1 (fun g1 =>
    zw g1 24007 0 0 (nI 0) (fun g2 =>
    zw g2 29007 0 0 (nI 0) (fun g3 =>
    zw g3 30007 0 0 (nI 0) (fun g4 =>
    zw g4 10007 0 0 (nI 0) (fun g5 =>
    zi (nI 5) 6 (zw g5 32 0 (nI 5).toNatClampNeg (nI 0) (fun g6 =>
    X7_readText_l34 (fun  g => X7_readText_l67  zfuel  g) zfuel (nI 0) g6)))))))

def X7_asTold  (g : zG) : Option (Int32 × zG) :=
    zi (nI 3) 6 (
    zw g 35007 0 0 (g 31 0 (nI 3).toNatClampNeg) (fun g1 =>
    zi (nI 4) 6 (
    zw g1 36007 0 0 (g1 31 0 (nI 4).toNatClampNeg) (fun g2 =>
    zi (nI 1) 6 (
    zw g2 37007 0 0 (g2 31 0 (nI 1).toNatClampNeg) (fun g3 =>
    some (0, g3)))))))

def X7_coreAt (v0 : Int32) (v1 : Int32) (g : zG) : Option (Int32 × zG) :=
    some ((((nI 6) + ((nI 14) * v0)) + v1), g)

def X7_begins_l2 (k32 : Int32 → zG → Option (Int32 × zG)) : Nat → Int32 → zG → Option (Int32 × zG)
  | 0, _, _ => none
  | n + 1, v1, g =>
    (if v1 < (nI 2766) then
      (zi v1 2766 (zw g 43 0 v1.toNatClampNeg (nI 0) (fun g2 =>
      X7_begins_l2 k32 n (v1 + (nI 1)) g2)))
    else
      (zi (nI 5) 2766 (zw g 43 0 (nI 5).toNatClampNeg (-2) (fun g1 =>
      k32 (nI 0) g1))))

def X7_begins_l32 (k57 : Int32 → zG → Option (Int32 × zG)) : Nat → Int32 → zG → Option (Int32 × zG)
  | 0, _, _ => none
  | n + 1, v1, g =>
    (if v1 < (nI 4) then
      (zc (X7_coreAt v1 (nI 5) g) (fun x1 g2 =>
      zi x1 2766 (zw g2 43 0 x1.toNatClampNeg (-2) (fun g4 =>
      X7_begins_l32 k57 n (v1 + (nI 1)) g4))))
    else
      (k57 (nI 0) g))

def X7_begins_l57 (k89 : Int32 → zG → Option (Int32 × zG)) : Nat → Int32 → zG → Option (Int32 × zG)
  | 0, _, _ => none
  | n + 1, v1, g =>
    (if v1 < (nI 64) then
      (zi v1 64 (
      zi ((nI 254) + v1) 2766 (zw g 43 0 ((nI 254) + v1).toNatClampNeg (g 33 0 v1.toNatClampNeg) (fun g1 =>
      X7_begins_l57 k89 n (v1 + (nI 1)) g1))))
    else
      (k89 (nI 318) g))

def X7_begins_l89  : Nat → Int32 → zG → Option (Int32 × zG)
  | 0, _, _ => none
  | n + 1, v1, g =>
    (if v1 < (nI 2766) then
      (zi (v1 + (nI 0)) 2766 (zw g 43 0 (v1 + (nI 0)).toNatClampNeg (-2) (fun g1 =>
      X7_begins_l89  n (v1 + (nI 9)) g1)))
    else
      (some (0, g)))

def X7_begins  (g : zG) : Option (Int32 × zG) :=
    X7_begins_l2 (fun (v1 : Int32) g => X7_begins_l32 (fun (v1 : Int32) g => X7_begins_l57 (fun (v1 : Int32) g => X7_begins_l89  zfuel v1 g) zfuel v1 g) zfuel v1 g) zfuel (nI 0) g

def X7_machine_l65 (k99 : Int32 → zG → Option (Int32 × zG)) : Nat → Int32 → zG → Option (Int32 × zG)
  | 0, _, _ => none
  | n + 1, v2, g =>
    (if v2 < (nI 6) then
      (zi v2 6 (
      zi v2 6 (zw g 31 0 v2.toNatClampNeg (g 32 0 v2.toNatClampNeg) (fun g2 =>
      X7_machine_l65 k99 n (v2 + (nI 1)) g2))))
    else
      (zw g 9007 0 0 (g 10007 0 0) (fun g1 =>
      k99 (nI 0) g1)))

def X7_machine_b130 (k99 : Int32 → zG → Option (Int32 × zG)) (v2 : Int32) (s1 : Int32) (s2 : Int32) (g : zG) : Option (Int32 × zG) :=
    zi s1 64 (zw g 33 0 s1.toNatClampNeg s2 (fun g1 =>
    k99 (v2 + (nI 1)) g1))

def X7_machine_l99 (k139 : Int32 → zG → Option (Int32 × zG)) : Nat → Int32 → zG → Option (Int32 × zG)
  | 0, _, _ => none
  | n + 1, v2, g =>
    (if v2 < (nI 64) then
      (zi v2 64 (
      (if (g 34 0 v2.toNatClampNeg) = (-1) then
        (X7_machine_b130 (X7_machine_l99 k139 n) v2 v2 (nI 0) g)
      else
        (zi v2 64 (
        X7_machine_b130 (X7_machine_l99 k139 n) v2 v2 (g 34 0 v2.toNatClampNeg) g)))))
    else
      (k139 (nI 0) g))

def X7_machine_b169 (k139 : Int32 → zG → Option (Int32 × zG)) (v2 : Int32) (s1 : Int32) (s2 : Int32) (g : zG) : Option (Int32 × zG) :=
    zi s1 4 (zw g 35 0 s1.toNatClampNeg s2 (fun g1 =>
    k139 (v2 + (nI 1)) g1))

def X7_machine_l139 (k178 : Int32 → zG → Option (Int32 × zG)) : Nat → Int32 → zG → Option (Int32 × zG)
  | 0, _, _ => none
  | n + 1, v2, g =>
    (if v2 < (nI 4) then
      (zi (nI 5) 6 (
      (if v2 < (g 31 0 (nI 5).toNatClampNeg) then
        (zi v2 4 (
        X7_machine_b169 (X7_machine_l139 k178 n) v2 v2 (g 36 0 v2.toNatClampNeg) g))
      else
        (X7_machine_b169 (X7_machine_l139 k178 n) v2 v2 (nI 0) g))))
    else
      (k178 (nI 0) g))

def X7_machine_l178  : Nat → Int32 → zG → Option (Int32 × zG)
  | 0, _, _ => none
  | n + 1, v2, g =>
    (if v2 < (nI 96) then
      (zi v2 96 (
      zi v2 96 (zw g 37 0 v2.toNatClampNeg (g 38 0 v2.toNatClampNeg) (fun g9 =>
      zi v2 96 (
      zi v2 96 (zw g9 39 0 v2.toNatClampNeg (g9 40 0 v2.toNatClampNeg) (fun g10 =>
      zi v2 96 (
      zi v2 96 (zw g10 41 0 v2.toNatClampNeg (g10 42 0 v2.toNatClampNeg) (fun g11 =>
      X7_machine_l178  n (v2 + (nI 1)) g11))))))))))
    else
      (zw g 21007 0 0 (nI 1) (fun g1 =>
      zw g1 34007 0 0 (nI 0) (fun g2 =>
      zc (X7_asTold  g2) (fun x3 g4 =>
      zc (X7_begins  g4) (fun x6 g7 =>
      zi (nI 5) 6 (
      some ((g7 31 0 (nI 5).toNatClampNeg), g7))))))))

def X7_machine (v1 : Int32) (g : zG) : Option (Int32 × zG) :=
    zc (X7_anew  g) (fun x1 g2 =>
    zc (X7_in v1 (nI 0) (g2 6007 0 0) g2) (fun x4 g5 =>
    (if x4 = 0 then
      (zc (X7_no (nI 2) g5) (fun x17 g18 =>
      some (x17, g18)))
    else
      (zw g5 6007 0 0 (nI 0) (fun g7 =>
      zw g7 3007 0 0 (nI 0) (fun g8 =>
      zc (X7_readText v1 g8) (fun x9 g10 =>
      (if x9 = (-1) then
        (zw g10 3007 0 0 (g10 27007 0 0) (fun g12 =>
        zw g12 4007 0 0 (g12 28007 0 0) (fun g13 =>
        zc (X7_no (nI 4) g13) (fun x14 g15 =>
        some (x14, g15)))))
      else
        (X7_machine_l65 (fun (v2 : Int32) g => X7_machine_l99 (fun (v2 : Int32) g => X7_machine_l139 (fun (v2 : Int32) g => X7_machine_l178  zfuel v2 g) zfuel v2 g) zfuel v2 g) zfuel (nI 0) g10)))))))))

def X7_fault  (g : zG) : Option (Int32 × zG) :=
    zw g 1007 0 0 (nI 0) (fun g1 =>
    some ((g1 3007 0 0), g1))

def X7_where  (g : zG) : Option (Int32 × zG) :=
    zw g 1007 0 0 (nI 0) (fun g1 =>
    (if (g1 2007 0 0) = (nI 4) then
      (some ((g1 4007 0 0), g1))
    else
      (some ((-1), g1))))

def X7_placeAt (v0 : Int32) (v1 : Int32) (v2 : Int32) (g : zG) : Option (Int32 × zG) :=
    some (((nI 318) + ((nI 9) * ((((nI 68) * v0) + ((nI 17) * v1)) + v2))), g)

def X7_laysAside_l2  : Nat → Int32 → zG → Option (Int32 × zG)
  | 0, _, _ => none
  | n + 1, v1, g =>
    (if v1 < (nI 2766) then
      (zi v1 2766 (
      zi v1 2766 (zw g 44 0 v1.toNatClampNeg (g 43 0 v1.toNatClampNeg) (fun g1 =>
      X7_laysAside_l2  n (v1 + (nI 1)) g1))))
    else
      (some (0, g)))

def X7_laysAside  (g : zG) : Option (Int32 × zG) :=
    X7_laysAside_l2  zfuel (nI 0) g

def X7_takesBack_l2  : Nat → Int32 → zG → Option (Int32 × zG)
  | 0, _, _ => none
  | n + 1, v1, g =>
    (if v1 < (nI 2766) then
      (zi v1 2766 (
      zi v1 2766 (zw g 43 0 v1.toNatClampNeg (g 44 0 v1.toNatClampNeg) (fun g4 =>
      X7_takesBack_l2  n (v1 + (nI 1)) g4))))
    else
      (zc (X7_asTold  g) (fun x1 g2 =>
      some (0, g2))))

def X7_takesBack  (g : zG) : Option (Int32 × zG) :=
    X7_takesBack_l2  zfuel (nI 0) g

def X7_find_l2  : Nat → Int32 → Int32 → Int32 → zG → Option (Int32 × zG)
  | 0, _, _, _, _ => none
  | n + 1, v1, v2, v3, g =>
    (if v3 < (g 37007 0 0) then
      (zi (nI 0) 6 (
      if (g 31 0 (nI 0).toNatClampNeg) = 0 then none else zc (X7_placeAt v1 (v2 - v2 / (g 31 0 (nI 0).toNatClampNeg) * (g 31 0 (nI 0).toNatClampNeg)) v3 g) (fun x1 g2 =>
      zi (x1 + (nI 0)) 2766 (
      (if (g2 43 0 (x1 + (nI 0)).toNatClampNeg) = v2 then
        (some (x1, g2))
      else
        (X7_find_l2  n v1 v2 (v3 + (nI 1)) g2))))))
    else
      (some ((-1), g)))

def X7_find (v1 : Int32) (v2 : Int32) (g : zG) : Option (Int32 × zG) :=
    X7_find_l2  zfuel v1 v2 (nI 0) g

def X7_empties (v1 : Int32) (g : zG) : Option (Int32 × zG) :=
    zi (v1 + (nI 0)) 2766 (zw g 43 0 (v1 + (nI 0)).toNatClampNeg (-2) (fun g1 =>
    zi (v1 + (nI 1)) 2766 (zw g1 43 0 (v1 + (nI 1)).toNatClampNeg (nI 0) (fun g2 =>
    zi (v1 + (nI 2)) 2766 (zw g2 43 0 (v1 + (nI 2)).toNatClampNeg (nI 0) (fun g3 =>
    zi (v1 + (nI 3)) 2766 (zw g3 43 0 (v1 + (nI 3)).toNatClampNeg (nI 0) (fun g4 =>
    zi (v1 + (nI 4)) 2766 (zw g4 43 0 (v1 + (nI 4)).toNatClampNeg (nI 0) (fun g5 =>
    some (0, g5)))))))))))

def X7_writesBack_l26  : Nat → Int32 → Int32 → zG → Option (Int32 × zG)
  | 0, _, _, _ => none
  | n + 1, v1, v2, g =>
    zi (nI 2) 6 (
    (if v2 < (g 31 0 (nI 2).toNatClampNeg) then
      (zi (nI 2) 6 (
      zi (v1 + (nI 0)) 2766 (
      zi ((v1 + (nI 5)) + v2) 2766 (
      zi (((nI 254) + ((g 31 0 (nI 2).toNatClampNeg) * (g 43 0 (v1 + (nI 0)).toNatClampNeg))) + v2) 2766 (zw g 43 0 (((nI 254) + ((g 31 0 (nI 2).toNatClampNeg) * (g 43 0 (v1 + (nI 0)).toNatClampNeg))) + v2).toNatClampNeg (g 43 0 ((v1 + (nI 5)) + v2).toNatClampNeg) (fun g1 =>
      X7_writesBack_l26  n v1 (v2 + (nI 1)) g1))))))
    else
      (some (0, g))))

def X7_writesBack (v1 : Int32) (g : zG) : Option (Int32 × zG) :=
    zi (nI 2) 2766 (
    zi (nI 2) 2766 (zw g 43 0 (nI 2).toNatClampNeg ((g 43 0 (nI 2).toNatClampNeg) + (nI 1)) (fun g1 =>
    zi (v1 + (nI 0)) 2766 (
    (if (g1 43 0 (v1 + (nI 0)).toNatClampNeg) = (nI 16) then
      (some (0, g1))
    else
      (X7_writesBack_l26  zfuel v1 (nI 0) g1))))))

def X7_ends_b52 (k15 : Int32 → Int32 → Int32 → Int32 → zG → Option (Int32 × zG)) (v1 : Int32) (v2 : Int32) (v3 : Int32) (v4 : Int32) (v5 : Int32) (g : zG) : Option (Int32 × zG) :=
    zi (v5 + (nI 2)) 2766 (zw g 43 0 (v5 + (nI 2)).toNatClampNeg (nI 0) (fun g1 =>
    k15 v1 v2 v3 (v4 + (nI 1)) g1))

def X7_ends_l15 (k2 : Int32 → Int32 → Int32 → zG → Option (Int32 × zG)) : Nat → Int32 → Int32 → Int32 → Int32 → zG → Option (Int32 × zG)
  | 0, _, _, _, _, _ => none
  | n + 1, v1, v2, v3, v4, g =>
    (if v4 < (g 37007 0 0) then
      (zc (X7_placeAt v1 v3 v4 g) (fun x1 g2 =>
      zi (x1 + (nI 3)) 2766 (
      (if (g2 43 0 (x1 + (nI 3)).toNatClampNeg) = (nI 1) then
        (zc (X7_empties x1 g2) (fun x4 g5 =>
        X7_ends_b52 (X7_ends_l15 k2 n) v1 v2 v3 v4 x1 g5))
      else
        (X7_ends_b52 (X7_ends_l15 k2 n) v1 v2 v3 v4 x1 g2)))))
    else
      (k2 v1 v2 (v3 + (nI 1)) g))

def X7_ends_l2 (k163 : Int32 → Int32 → zG → Option (Int32 × zG)) : Nat → Int32 → Int32 → Int32 → zG → Option (Int32 × zG)
  | 0, _, _, _, _ => none
  | n + 1, v1, v2, v3, g =>
    zi (nI 0) 6 (
    (if v3 < (g 31 0 (nI 0).toNatClampNeg) then
      (X7_ends_l15 (X7_ends_l2 k163 n) zfuel v1 v2 v3 (nI 0) g)
    else
      (zc (X7_coreAt v1 (nI 1) g) (fun x1 g2 =>
      zi x1 2766 (zw g2 43 0 x1.toNatClampNeg (nI 0) (fun g4 =>
      zc (X7_coreAt v1 (nI 2) g4) (fun x5 g6 =>
      zi x5 2766 (zw g6 43 0 x5.toNatClampNeg (nI 0) (fun g8 =>
      zc (X7_coreAt v1 (nI 0) g8) (fun x9 g10 =>
      zc (X7_coreAt v1 (nI 6) g10) (fun x12 g13 =>
      zi x12 2766 (
      zi x9 2766 (zw g13 43 0 x9.toNatClampNeg (g13 43 0 x12.toNatClampNeg) (fun g15 =>
      zc (X7_coreAt v1 (nI 3) g15) (fun x16 g17 =>
      zi x16 2766 (zw g17 43 0 x16.toNatClampNeg (nI 0) (fun g19 =>
      zc (X7_coreAt v1 ((nI 7) + v2) g19) (fun x20 g21 =>
      zi x20 2766 (
      zi x20 2766 (zw g21 43 0 x20.toNatClampNeg ((g21 43 0 x20.toNatClampNeg) + (nI 1)) (fun g23 =>
      (if v2 = 0 then
        (zc (X7_coreAt v1 (nI 4) g23) (fun x24 g25 =>
        zi x24 2766 (
        zi x24 2766 (zw g25 43 0 x24.toNatClampNeg ((g25 43 0 x24.toNatClampNeg) + (nI 1)) (fun g27 =>
        k163 v1 v2 g27)))))
      else
        (k163 v1 v2 g23)))))))))))))))))))))))

def X7_ends_b182  (v1 : Int32) (g : zG) : Option (Int32 × zG) :=
    zw g 38007 0 0 ((g 38007 0 0) ||| ((nI 1) <<< (v1 &&& 31))) (fun g1 =>
    some (0, g1))

def X7_ends_b163  (v1 : Int32) (v2 : Int32) (g : zG) : Option (Int32 × zG) :=
    (if v2 = (nI 1) then
      (zc (X7_coreAt v1 (nI 4) g) (fun x1 g2 =>
      zi x1 2766 (zw g2 43 0 x1.toNatClampNeg (g2 36007 0 0) (fun g4 =>
      X7_ends_b182  v1 g4))))
    else
      (X7_ends_b182  v1 g))

def X7_ends (v1 : Int32) (v2 : Int32) (g : zG) : Option (Int32 × zG) :=
    X7_ends_l2 (fun (v1 : Int32) (v2 : Int32) g => X7_ends_b163  v1 v2 g) zfuel v1 v2 (nI 0) g

def X7_isRival_b54   (g : zG) : Option (Int32 × zG) :=
    some ((nI 1), g)

def X7_isRival_b15  (v4 : Int32) (s0 : Int32) (g : zG) : Option (Int32 × zG) :=
    (if s0 = (-1) then
      (some ((nI 0), g))
    else
      (zi (s0 + (nI 3)) 2766 (
      (if (g 43 0 (s0 + (nI 3)).toNatClampNeg) = (nI 1) then
        (X7_isRival_b54   g)
      else
        ((if v4 = 0 then
          (some ((nI 0), g))
        else
          (zi (s0 + (nI 2)) 2766 (
          (if (g 43 0 (s0 + (nI 2)).toNatClampNeg) = (nI 1) then
            (X7_isRival_b54   g)
          else
            (some ((nI 0), g)))))))))))

def X7_isRival (v1 : Int32) (v2 : Int32) (v3 : Int32) (v4 : Int32) (g : zG) : Option (Int32 × zG) :=
    (if v2 = v1 then
      (X7_isRival_b15  v4 (-1) g)
    else
      (zc (X7_find v2 v3 g) (fun x1 g2 =>
      X7_isRival_b15  v4 x1 g2)))

def X7_isSomeElder_b52 (k3 : Int32 → Int32 → Int32 → Int32 → zG → Option (Int32 × zG)) (v1 : Int32) (v2 : Int32) (v3 : Int32) (v4 : Int32) (g : zG) : Option (Int32 × zG) :=
    k3 v1 v2 v3 (v4 + (nI 1)) g

def X7_isSomeElder_l3  : Nat → Int32 → Int32 → Int32 → Int32 → zG → Option (Int32 × zG)
  | 0, _, _, _, _, _ => none
  | n + 1, v1, v2, v3, v4, g =>
    zi (nI 5) 6 (
    (if v4 < (g 31 0 (nI 5).toNatClampNeg) then
      (zc (X7_isRival v1 v4 v2 v3 g) (fun x1 g2 =>
      (if x1 = 0 then
        (X7_isSomeElder_b52 (X7_isSomeElder_l3  n) v1 v2 v3 v4 g2)
      else
        (zc (X7_coreAt v4 (nI 5) g2) (fun x4 g5 =>
        zi x4 2766 (
        zc (X7_coreAt v1 (nI 5) g5) (fun x7 g8 =>
        zi x7 2766 (
        (if (g8 43 0 x7.toNatClampNeg) < (g5 43 0 x4.toNatClampNeg) then
          (X7_isSomeElder_b52 (X7_isSomeElder_l3  n) v1 v2 v3 v4 g8)
        else
          (some ((nI 1), g8)))))))))))
    else
      (some ((nI 0), g))))

def X7_isSomeElder (v1 : Int32) (v2 : Int32) (v3 : Int32) (g : zG) : Option (Int32 × zG) :=
    X7_isSomeElder_l3  zfuel v1 v2 v3 (nI 0) g

def X7_decides_b39 (k6 : Int32 → Int32 → Int32 → Int32 → Int32 → zG → Option (Int32 × zG)) (v1 : Int32) (v2 : Int32) (v3 : Int32) (v5 : Int32) (s0 : Int32) (s1 : Int32) (g : zG) : Option (Int32 × zG) :=
    k6 v1 v2 v3 (s0 ||| s1) (v5 + (nI 1)) g

def X7_decides_l6 (k75 : Int32 → Int32 → zG → Option (Int32 × zG)) : Nat → Int32 → Int32 → Int32 → Int32 → Int32 → zG → Option (Int32 × zG)
  | 0, _, _, _, _, _, _ => none
  | n + 1, v1, v2, v3, v4, v5, g =>
    zi (nI 5) 6 (
    (if v5 < (g 31 0 (nI 5).toNatClampNeg) then
      (zc (X7_isRival v1 v5 v2 v3 g) (fun x4 g5 =>
      (if x4 = 0 then
        (X7_decides_b39 (X7_decides_l6 k75 n) v1 v2 v3 v5 v4 (nI 0) g5)
      else
        (X7_decides_b39 (X7_decides_l6 k75 n) v1 v2 v3 v5 v4 ((nI 1) <<< (v5 &&& 31)) g5))))
    else
      ((if v4 = 0 then
        (some ((nI 1), g))
      else
        ((if (g 35007 0 0) = (nI 1) then
          (zc (X7_isSomeElder v1 v2 v3 g) (fun x1 g2 =>
          (if x1 = 0 then
            (k75 v1 v4 g2)
          else
            (some ((nI 2), g2)))))
        else
          (k75 v1 v4 g)))))))

def X7_decides_b123 (k94 : Int32 → Int32 → zG → Option (Int32 × zG)) (v4 : Int32) (v5 : Int32) (g : zG) : Option (Int32 × zG) :=
    k94 v4 (v5 + (nI 1)) g

def X7_decides_l94  : Nat → Int32 → Int32 → zG → Option (Int32 × zG)
  | 0, _, _, _ => none
  | n + 1, v4, v5, g =>
    zi (nI 5) 6 (
    (if v5 < (g 31 0 (nI 5).toNatClampNeg) then
      ((if ((v4 >>> (v5 &&& 31)) &&& (nI 1)) = (nI 1) then
        (zc (X7_ends v5 (nI 0) g) (fun x1 g2 =>
        X7_decides_b123 (X7_decides_l94  n) v4 v5 g2))
      else
        (X7_decides_b123 (X7_decides_l94  n) v4 v5 g)))
    else
      (some ((nI 1), g))))

def X7_decides_b75  (v1 : Int32) (v4 : Int32) (g : zG) : Option (Int32 × zG) :=
    (if (nI 1) < (g 35007 0 0) then
      (zc (X7_ends v1 (nI 0) g) (fun x1 g2 =>
      some ((nI 3), g2)))
    else
      (X7_decides_l94  zfuel v4 (nI 0) g))

def X7_decides (v1 : Int32) (v2 : Int32) (v3 : Int32) (g : zG) : Option (Int32 × zG) :=
    X7_decides_l6 (fun (v1 : Int32) (v4 : Int32) g => X7_decides_b75  v1 v4 g) zfuel v1 v2 v3 (nI 0) (nI 0) g

def X7_room_b99 (k5 : Int32 → Int32 → Int32 → Int32 → zG → Option (Int32 × zG)) (v1 : Int32) (v2 : Int32) (v3 : Int32) (v4 : Int32) (g : zG) : Option (Int32 × zG) :=
    k5 v1 v2 v3 (v4 + (nI 1)) g

def X7_room_b96 (k5 : Int32 → Int32 → Int32 → Int32 → zG → Option (Int32 × zG)) (v1 : Int32) (v2 : Int32) (v4 : Int32) (v5 : Int32) (g : zG) : Option (Int32 × zG) :=
    X7_room_b99 k5 v1 v2 v5 v4 g

def X7_room_l5  : Nat → Int32 → Int32 → Int32 → Int32 → zG → Option (Int32 × zG)
  | 0, _, _, _, _, _ => none
  | n + 1, v1, v2, v3, v4, g =>
    (if v4 < (g 37007 0 0) then
      (zi (nI 0) 6 (
      if (g 31 0 (nI 0).toNatClampNeg) = 0 then none else zc (X7_placeAt v1 (v2 - v2 / (g 31 0 (nI 0).toNatClampNeg) * (g 31 0 (nI 0).toNatClampNeg)) v4 g) (fun x1 g2 =>
      zi (x1 + (nI 0)) 2766 (
      (if (g2 43 0 (x1 + (nI 0)).toNatClampNeg) = (-2) then
        (some (x1, g2))
      else
        (zi (x1 + (nI 2)) 2766 (
        (if (g2 43 0 (x1 + (nI 2)).toNatClampNeg) = 0 then
          (zi (x1 + (nI 3)) 2766 (
          (if (g2 43 0 (x1 + (nI 3)).toNatClampNeg) = 0 then
            ((if v3 = (-1) then
              (X7_room_b96 (X7_room_l5  n) v1 v2 v4 x1 g2)
            else
              (zi (x1 + (nI 4)) 2766 (
              zi (v3 + (nI 4)) 2766 (
              (if (g2 43 0 (x1 + (nI 4)).toNatClampNeg) < (g2 43 0 (v3 + (nI 4)).toNatClampNeg) then
                (X7_room_b96 (X7_room_l5  n) v1 v2 v4 x1 g2)
              else
                (X7_room_b99 (X7_room_l5  n) v1 v2 v3 v4 g2)))))))
          else
            (X7_room_b99 (X7_room_l5  n) v1 v2 v3 v4 g2))))
        else
          (X7_room_b99 (X7_room_l5  n) v1 v2 v3 v4 g2)))))))))
    else
      (some (v3, g)))

def X7_room (v1 : Int32) (v2 : Int32) (g : zG) : Option (Int32 × zG) :=
    X7_room_l5  zfuel v1 v2 (-1) (nI 0) g

def X7_othersHave_b100 (k6 : Int32 → Int32 → Int32 → Int32 → Int32 → zG → Option (Int32 × zG)) (v1 : Int32) (v2 : Int32) (v3 : Int32) (v4 : Int32) (v5 : Int32) (g : zG) : Option (Int32 × zG) :=
    k6 v1 v2 v3 v4 (v5 + (nI 1)) g

def X7_othersHave_b64 (k6 : Int32 → Int32 → Int32 → Int32 → Int32 → zG → Option (Int32 × zG)) (v1 : Int32) (v2 : Int32) (v3 : Int32) (v4 : Int32) (v5 : Int32) (v6 : Int32) (g : zG) : Option (Int32 × zG) :=
    (if v3 = 0 then
      (zi (v6 + (nI 1)) 2766 (zw g 43 0 (v6 + (nI 1)).toNatClampNeg (nI 1) (fun g1 =>
      X7_othersHave_b100 k6 v1 v2 v3 (nI 1) v5 g1)))
    else
      (zc (X7_empties v6 g) (fun x2 g3 =>
      zi (nI 3) 2766 (
      zi (nI 3) 2766 (zw g3 43 0 (nI 3).toNatClampNeg ((g3 43 0 (nI 3).toNatClampNeg) + (nI 1)) (fun g5 =>
      X7_othersHave_b100 k6 v1 v2 v3 v4 v5 g5))))))

def X7_othersHave_b34 (k6 : Int32 → Int32 → Int32 → Int32 → Int32 → zG → Option (Int32 × zG)) (v1 : Int32) (v2 : Int32) (v3 : Int32) (v4 : Int32) (v5 : Int32) (s0 : Int32) (g : zG) : Option (Int32 × zG) :=
    (if s0 = (-1) then
      (X7_othersHave_b100 k6 v1 v2 v3 v4 v5 g)
    else
      (zi (s0 + (nI 1)) 2766 (
      (if (g 43 0 (s0 + (nI 1)).toNatClampNeg) = (nI 3) then
        (zc (X7_writesBack s0 g) (fun x1 g2 =>
        X7_othersHave_b64 k6 v1 v2 v3 v4 v5 s0 g2))
      else
        (X7_othersHave_b64 k6 v1 v2 v3 v4 v5 s0 g)))))

def X7_othersHave_l6  : Nat → Int32 → Int32 → Int32 → Int32 → Int32 → zG → Option (Int32 × zG)
  | 0, _, _, _, _, _, _ => none
  | n + 1, v1, v2, v3, v4, v5, g =>
    zi (nI 5) 6 (
    (if v5 < (g 31 0 (nI 5).toNatClampNeg) then
      ((if v5 = v1 then
        (X7_othersHave_b34 (X7_othersHave_l6  n) v1 v2 v3 v4 v5 (-1) g)
      else
        (zc (X7_find v5 v2 g) (fun x1 g2 =>
        X7_othersHave_b34 (X7_othersHave_l6  n) v1 v2 v3 v4 v5 x1 g2))))
    else
      (zbo v4 (some (v4, g)))))

def X7_othersHave (v1 : Int32) (v2 : Int32) (v3 : Int32) (g : zG) : Option (Int32 × zG) :=
    X7_othersHave_l6  zfuel v1 v2 v3 (nI 0) (nI 0) g

def X7_brings_b226  (v5 : Int32) (g : zG) : Option (Int32 × zG) :=
    zi (nI 0) 2766 (
    zi (v5 + (nI 4)) 2766 (zw g 43 0 (v5 + (nI 4)).toNatClampNeg (g 43 0 (nI 0).toNatClampNeg) (fun g1 =>
    some (v5, g1))))

def X7_brings_b212  (v3 : Int32) (v5 : Int32) (g : zG) : Option (Int32 × zG) :=
    (if v3 = 0 then
      (X7_brings_b226  v5 g)
    else
      (zi (v5 + (nI 1)) 2766 (zw g 43 0 (v5 + (nI 1)).toNatClampNeg (nI 3) (fun g1 =>
      X7_brings_b226  v5 g1))))

def X7_brings_l147 (k202 : Int32 → Int32 → zG → Option (Int32 × zG)) : Nat → Int32 → Int32 → Int32 → Int32 → zG → Option (Int32 × zG)
  | 0, _, _, _, _, _ => none
  | n + 1, v2, v3, v5, v7, g =>
    zi (nI 2) 6 (
    (if v7 < (g 31 0 (nI 2).toNatClampNeg) then
      ((if v2 = (nI 16) then
        (k202 v3 v5 g)
      else
        (zi (nI 2) 6 (
        zi (((nI 254) + ((g 31 0 (nI 2).toNatClampNeg) * v2)) + v7) 2766 (
        zi ((v5 + (nI 5)) + v7) 2766 (zw g 43 0 ((v5 + (nI 5)) + v7).toNatClampNeg (g 43 0 (((nI 254) + ((g 31 0 (nI 2).toNatClampNeg) * v2)) + v7).toNatClampNeg) (fun g1 =>
        X7_brings_l147 k202 n v2 v3 v5 (v7 + (nI 1)) g1)))))))
    else
      (k202 v3 v5 g)))

def X7_brings_b202  (v3 : Int32) (v5 : Int32) (g : zG) : Option (Int32 × zG) :=
    zi (nI 1) 2766 (
    zi (nI 1) 2766 (zw g 43 0 (nI 1).toNatClampNeg ((g 43 0 (nI 1).toNatClampNeg) + (nI 1)) (fun g1 =>
    X7_brings_b212  v3 v5 g1)))

def X7_brings_b123  (v2 : Int32) (v3 : Int32) (v5 : Int32) (s1 : Int32) (s2 : Int32) (g : zG) : Option (Int32 × zG) :=
    zi s1 2766 (zw g 43 0 s1.toNatClampNeg s2 (fun g1 =>
    zi (v5 + (nI 2)) 2766 (zw g1 43 0 (v5 + (nI 2)).toNatClampNeg (nI 0) (fun g2 =>
    zi (v5 + (nI 3)) 2766 (zw g2 43 0 (v5 + (nI 3)).toNatClampNeg (nI 0) (fun g3 =>
    X7_brings_l147 (fun (v3 : Int32) (v5 : Int32) g => X7_brings_b202  v3 v5 g) zfuel v2 v3 v5 (nI 0) g3))))))

def X7_brings_b80  (v1 : Int32) (v2 : Int32) (v3 : Int32) (v4 : Int32) (v5 : Int32) (g : zG) : Option (Int32 × zG) :=
    zc (X7_othersHave v1 v2 v3 g) (fun x1 g2 =>
    (if v4 = (-1) then
      (zi (v5 + (nI 0)) 2766 (zw g2 43 0 (v5 + (nI 0)).toNatClampNeg v2 (fun g4 =>
      (if x1 = 0 then
        (X7_brings_b123  v2 v3 v5 (v5 + (nI 1)) (nI 2) g4)
      else
        (X7_brings_b123  v2 v3 v5 (v5 + (nI 1)) (nI 1) g4)))))
    else
      (X7_brings_b212  v3 v5 g2)))

def X7_brings_b25  (v1 : Int32) (v2 : Int32) (v3 : Int32) (v4 : Int32) (s0 : Int32) (g : zG) : Option (Int32 × zG) :=
    (if s0 = (-1) then
      (zc (X7_ends v1 (nI 1) g) (fun x4 g5 =>
      some ((-1), g5)))
    else
      ((if v4 = (-1) then
        (zi (s0 + (nI 0)) 2766 (
        (if (g 43 0 (s0 + (nI 0)).toNatClampNeg) = (-2) then
          (X7_brings_b80  v1 v2 v3 v4 s0 g)
        else
          (zi (s0 + (nI 1)) 2766 (
          (if (g 43 0 (s0 + (nI 1)).toNatClampNeg) = (nI 3) then
            (zc (X7_writesBack s0 g) (fun x1 g2 =>
            X7_brings_b80  v1 v2 v3 v4 s0 g2))
          else
            (X7_brings_b80  v1 v2 v3 v4 s0 g)))))))
      else
        (X7_brings_b80  v1 v2 v3 v4 s0 g))))

def X7_brings (v1 : Int32) (v2 : Int32) (v3 : Int32) (g : zG) : Option (Int32 × zG) :=
    zc (X7_find v1 v2 g) (fun x1 g2 =>
    (if x1 = (-1) then
      (zc (X7_room v1 v2 g2) (fun x4 g5 =>
      X7_brings_b25  v1 v2 v3 x1 x4 g5))
    else
      (X7_brings_b25  v1 v2 v3 x1 x1 g2)))

def X7_waits (v1 : Int32) (g : zG) : Option (Int32 × zG) :=
    zc (X7_coreAt v1 (nI 13) g) (fun x1 g2 =>
    zi x1 2766 (
    zi x1 2766 (zw g2 43 0 x1.toNatClampNeg ((g2 43 0 x1.toNatClampNeg) + (nI 1)) (fun g4 =>
    some ((nI 2), g4)))))

def X7_begin_b114 (k86 : Int32 → Int32 → zG → Option (Int32 × zG)) (v1 : Int32) (v2 : Int32) (g : zG) : Option (Int32 × zG) :=
    k86 v1 (v2 + (nI 1)) g

def X7_begin_l86 (k147 : Int32 → zG → Option (Int32 × zG)) : Nat → Int32 → Int32 → zG → Option (Int32 × zG)
  | 0, _, _, _ => none
  | n + 1, v1, v2, g =>
    zi (nI 5) 6 (
    (if v2 < (g 31 0 (nI 5).toNatClampNeg) then
      (zc (X7_isRival v1 v2 (nI 16) (nI 1) g) (fun x9 g10 =>
      (if x9 = 0 then
        (X7_begin_b114 (X7_begin_l86 k147 n) v1 v2 g10)
      else
        (zc (X7_ends v2 (nI 3) g10) (fun x12 g13 =>
        X7_begin_b114 (X7_begin_l86 k147 n) v1 v2 g13)))))
    else
      (zc (X7_brings v1 (nI 16) (nI 1) g) (fun x1 g2 =>
      zi (nI 5) 2766 (zw g2 43 0 (nI 5).toNatClampNeg v1 (fun g4 =>
      zc (X7_coreAt v1 (nI 3) g4) (fun x5 g6 =>
      zi x5 2766 (zw g6 43 0 x5.toNatClampNeg (nI 2) (fun g8 =>
      k147 v1 g8)))))))))

def X7_begin_b147  (v1 : Int32) (g : zG) : Option (Int32 × zG) :=
    zc (X7_coreAt v1 (nI 1) g) (fun x1 g2 =>
    zi x1 2766 (zw g2 43 0 x1.toNatClampNeg (nI 0) (fun g4 =>
    zc (X7_coreAt v1 (nI 2) g4) (fun x5 g6 =>
    zi x5 2766 (zw g6 43 0 x5.toNatClampNeg (nI 0) (fun g8 =>
    zc (X7_coreAt v1 (nI 6) g8) (fun x9 g10 =>
    zc (X7_coreAt v1 (nI 0) g10) (fun x12 g13 =>
    zi x12 2766 (
    zi x9 2766 (zw g13 43 0 x9.toNatClampNeg (g13 43 0 x12.toNatClampNeg) (fun g15 =>
    zc (X7_coreAt v1 (nI 5) g15) (fun x16 g17 =>
    zi x16 2766 (
    (if (g17 43 0 x16.toNatClampNeg) = (-2) then
      (zc (X7_coreAt v1 (nI 5) g17) (fun x19 g20 =>
      zi (nI 0) 2766 (
      zi x19 2766 (zw g20 43 0 x19.toNatClampNeg (g20 43 0 (nI 0).toNatClampNeg) (fun g22 =>
      some ((nI 1), g22))))))
    else
      (some ((nI 1), g17))))))))))))))))

def X7_begin (v1 : Int32) (g : zG) : Option (Int32 × zG) :=
    zi (nI 5) 2766 (
    (if (g 43 0 (nI 5).toNatClampNeg) = (-2) then
      (zc (X7_coreAt v1 (nI 4) g) (fun x1 g2 =>
      zi x1 2766 (
      (if (g2 43 0 x1.toNatClampNeg) < (g2 36007 0 0) then
        (zc (X7_decides v1 (nI 16) (nI 0) g2) (fun x4 g5 =>
        (if x4 = (nI 2) then
          (zc (X7_waits v1 g5) (fun x15 g16 =>
          some (x15, g16)))
        else
          (zc (X7_brings v1 (nI 16) (nI 0) g5) (fun x7 g8 =>
          zi (x7 + (nI 2)) 2766 (zw g8 43 0 (x7 + (nI 2)).toNatClampNeg (nI 1) (fun g10 =>
          zc (X7_coreAt v1 (nI 3) g10) (fun x11 g12 =>
          zi x11 2766 (zw g12 43 0 x11.toNatClampNeg (nI 1) (fun g14 =>
          X7_begin_b147  v1 g14))))))))))
      else
        (X7_begin_l86 (fun (v1 : Int32) g => X7_begin_b147  v1 g) zfuel v1 (nI 0) g2)))))
    else
      (zc (X7_waits v1 g) (fun x18 g19 =>
      some (x18, g19)))))

def X7_touches_b304  (v1 : Int32) (v12 : Int32) (s1 : Int32) (s2 : Int32) (g : zG) : Option (Int32 × zG) :=
    zi s1 2766 (zw g 43 0 s1.toNatClampNeg s2 (fun g1 =>
    zc (X7_coreAt v1 (nI 1) g1) (fun x2 g3 =>
    zi x2 2766 (
    zi v12 2766 (zw g3 43 0 v12.toNatClampNeg (g3 43 0 x2.toNatClampNeg) (fun g5 =>
    some ((nI 1), g5)))))))

def X7_touches_b278  (v1 : Int32) (v10 : Int32) (v11 : Int32) (v12 : Int32) (g : zG) : Option (Int32 × zG) :=
    (if v11 = 0 then
      (zi (v10 + (nI 3)) 2766 (
      X7_touches_b304  v1 v12 (v10 + (nI 3)) (g 43 0 (v10 + (nI 3)).toNatClampNeg) g))
    else
      (X7_touches_b304  v1 v12 (v10 + (nI 3)) (nI 1) g))

def X7_touches_b242  (v1 : Int32) (v12 : Int32) (s1 : Int32) (s2 : Int32) (g : zG) : Option (Int32 × zG) :=
    zi s1 2766 (zw g 43 0 s1.toNatClampNeg s2 (fun g1 =>
    zc (X7_coreAt v1 (nI 1) g1) (fun x2 g3 =>
    zi v12 2766 (
    zi x2 2766 (zw g3 43 0 x2.toNatClampNeg (g3 43 0 v12.toNatClampNeg) (fun g5 =>
    some ((nI 1), g5)))))))

def X7_touches_b193  (v1 : Int32) (v4 : Int32) (v6 : Int32) (v9 : Int32) (v10 : Int32) (s0 : Int32) (g : zG) : Option (Int32 × zG) :=
    zi (nI 2) 6 (
    if (g 31 0 (nI 2).toNatClampNeg) = 0 then none else (if v6 = 0 then
      ((if s0 = 0 then
        (zi (v10 + (nI 2)) 2766 (
        X7_touches_b242  v1 ((v10 + (nI 5)) + (v4 - v4 / (g 31 0 (nI 2).toNatClampNeg) * (g 31 0 (nI 2).toNatClampNeg))) (v10 + (nI 2)) (g 43 0 (v10 + (nI 2)).toNatClampNeg) g))
      else
        (X7_touches_b242  v1 ((v10 + (nI 5)) + (v4 - v4 / (g 31 0 (nI 2).toNatClampNeg) * (g 31 0 (nI 2).toNatClampNeg))) (v10 + (nI 2)) (nI 1) g)))
    else
      ((if s0 = 0 then
        (X7_touches_b278  v1 v10 s0 ((v10 + (nI 5)) + (v4 - v4 / (g 31 0 (nI 2).toNatClampNeg) * (g 31 0 (nI 2).toNatClampNeg))) g)
      else
        ((if v9 = 0 then
          (X7_touches_b278  v1 v10 s0 ((v10 + (nI 5)) + (v4 - v4 / (g 31 0 (nI 2).toNatClampNeg) * (g 31 0 (nI 2).toNatClampNeg))) g)
        else
          (zc (X7_writesBack v10 g) (fun x1 g2 =>
          X7_touches_b278  v1 v10 s0 ((v10 + (nI 5)) + (v4 - v4 / (g 31 0 (nI 2).toNatClampNeg) * (g 31 0 (nI 2).toNatClampNeg))) g2))))))))

def X7_touches_b153  (v1 : Int32) (v4 : Int32) (v5 : Int32) (v6 : Int32) (s0 : Int32) (g : zG) : Option (Int32 × zG) :=
    zc (X7_brings v1 v5 v6 g) (fun x1 g2 =>
    (if x1 = (-1) then
      (some ((nI 3), g2))
    else
      (zc (X7_coreAt v1 (nI 3) g2) (fun x4 g5 =>
      zi x4 2766 (
      (if (g5 43 0 x4.toNatClampNeg) = (nI 1) then
        (X7_touches_b193  v1 v4 v6 s0 x1 (nI 1) g5)
      else
        (X7_touches_b193  v1 v4 v6 s0 x1 (nI 0) g5)))))))

def X7_touches_b152  (v1 : Int32) (v4 : Int32) (v5 : Int32) (v6 : Int32) (g : zG) : Option (Int32 × zG) :=
    X7_touches_b153  v1 v4 v5 v6 (nI 0) g

def X7_touches_b72  (v1 : Int32) (v4 : Int32) (v5 : Int32) (s0 : Int32) (g : zG) : Option (Int32 × zG) :=
    zc (X7_decides v1 v5 s0 g) (fun x1 g2 =>
    (if x1 = (nI 1) then
      (zc (X7_find v1 v5 g2) (fun x4 g5 =>
      (if x4 = (-1) then
        (X7_touches_b152  v1 v4 v5 s0 g5)
      else
        (zi (x4 + (nI 1)) 2766 (
        (if (g5 43 0 (x4 + (nI 1)).toNatClampNeg) = (nI 3) then
          (zi (x4 + (nI 3)) 2766 (
          (if (g5 43 0 (x4 + (nI 3)).toNatClampNeg) = 0 then
            (X7_touches_b153  v1 v4 v5 s0 (nI 1) g5)
          else
            (X7_touches_b152  v1 v4 v5 s0 g5))))
        else
          (X7_touches_b152  v1 v4 v5 s0 g5)))))))
    else
      ((if x1 = (nI 2) then
        (zc (X7_waits v1 g2) (fun x7 g8 =>
        some (x7, g8)))
      else
        (some (x1, g2))))))

def X7_touches_b41  (v1 : Int32) (v2 : Int32) (v3 : Int32) (s0 : Int32) (s1 : Int32) (g : zG) : Option (Int32 × zG) :=
    if v3 = 0 then none else zi (nI 2) 6 (
    if (g 31 0 (nI 2).toNatClampNeg) = 0 then none else zi v2 96 (
    (if (g 37 0 v2.toNatClampNeg) = (nI 4) then
      (X7_touches_b72  v1 ((s0 + s1) - (s0 + s1) / v3 * v3) (((s0 + s1) - (s0 + s1) / v3 * v3) / (g 31 0 (nI 2).toNatClampNeg)) (nI 1) g)
    else
      (X7_touches_b72  v1 ((s0 + s1) - (s0 + s1) / v3 * v3) (((s0 + s1) - (s0 + s1) / v3 * v3) / (g 31 0 (nI 2).toNatClampNeg)) (nI 0) g))))

def X7_touches (v1 : Int32) (v2 : Int32) (g : zG) : Option (Int32 × zG) :=
    zi (nI 2) 6 (
    zc (X7_addresses (g 31 0 (nI 2).toNatClampNeg) g) (fun x1 g2 =>
    zi v2 96 (
    zi v2 96 (
    (if (g2 41 0 v2.toNatClampNeg) = (nI 1) then
      (zc (X7_coreAt v1 (nI 2) g2) (fun x4 g5 =>
      zi x4 2766 (
      X7_touches_b41  v1 v2 x1 (g2 39 0 v2.toNatClampNeg) (g5 43 0 x4.toNatClampNeg) g5)))
    else
      (X7_touches_b41  v1 v2 x1 (g2 39 0 v2.toNatClampNeg) (nI 0) g2))))))

def X7_commits_l14 (k2 : Int32 → Int32 → zG → Option (Int32 × zG)) : Nat → Int32 → Int32 → Int32 → zG → Option (Int32 × zG)
  | 0, _, _, _, _ => none
  | n + 1, v1, v2, v3, g =>
    (if v3 < (g 37007 0 0) then
      (zc (X7_placeAt v1 v2 v3 g) (fun x1 g2 =>
      zi (x1 + (nI 2)) 2766 (zw g2 43 0 (x1 + (nI 2)).toNatClampNeg (nI 0) (fun g4 =>
      zc (X7_placeAt v1 v2 v3 g4) (fun x5 g6 =>
      zi (x5 + (nI 3)) 2766 (zw g6 43 0 (x5 + (nI 3)).toNatClampNeg (nI 0) (fun g8 =>
      X7_commits_l14 k2 n v1 v2 (v3 + (nI 1)) g8)))))))
    else
      (k2 v1 (v2 + (nI 1)) g))

def X7_commits_l2 (k81 : Int32 → Int32 → zG → Option (Int32 × zG)) : Nat → Int32 → Int32 → zG → Option (Int32 × zG)
  | 0, _, _, _ => none
  | n + 1, v1, v2, g =>
    zi (nI 0) 6 (
    (if v2 < (g 31 0 (nI 0).toNatClampNeg) then
      (X7_commits_l14 (X7_commits_l2 k81 n) zfuel v1 v2 (nI 0) g)
    else
      (zc (X7_coreAt v1 (nI 3) g) (fun x1 g2 =>
      zi x1 2766 (
      (if (g2 43 0 x1.toNatClampNeg) = (nI 2) then
        (k81 v1 (nI 1) g2)
      else
        (k81 v1 (nI 0) g2)))))))

def X7_commits_b177  (v1 : Int32) (s1 : Int32) (s2 : Int32) (g : zG) : Option (Int32 × zG) :=
    zi s1 2766 (zw g 43 0 s1.toNatClampNeg s2 (fun g1 =>
    zi (nI 4) 2766 (
    zi (nI 4) 2766 (zw g1 43 0 (nI 4).toNatClampNeg ((g1 43 0 (nI 4).toNatClampNeg) + (nI 1)) (fun g2 =>
    zc (X7_coreAt v1 (nI 11) g2) (fun x3 g4 =>
    zi x3 2766 (
    zi x3 2766 (zw g4 43 0 x3.toNatClampNeg ((g4 43 0 x3.toNatClampNeg) + (nI 1)) (fun g6 =>
    zc (X7_coreAt v1 (nI 4) g6) (fun x7 g8 =>
    zi x7 2766 (zw g8 43 0 x7.toNatClampNeg (nI 0) (fun g10 =>
    zc (X7_coreAt v1 (nI 5) g10) (fun x11 g12 =>
    zi x11 2766 (zw g12 43 0 x11.toNatClampNeg (-2) (fun g14 =>
    zc (X7_coreAt v1 (nI 3) g14) (fun x15 g16 =>
    zi x15 2766 (zw g16 43 0 x15.toNatClampNeg (nI 0) (fun g18 =>
    some (0, g18)))))))))))))))))))

def X7_commits_b109  (v1 : Int32) (v2 : Int32) (g : zG) : Option (Int32 × zG) :=
    zi (nI 4) 2766 (
    zi ((nI 62) + ((nI 4) * (g 43 0 (nI 4).toNatClampNeg))) 2766 (zw g 43 0 ((nI 62) + ((nI 4) * (g 43 0 (nI 4).toNatClampNeg))).toNatClampNeg v1 (fun g1 =>
    zc (X7_coreAt v1 (nI 6) g1) (fun x2 g3 =>
    zi x2 2766 (
    zi (((nI 62) + ((nI 4) * (g 43 0 (nI 4).toNatClampNeg))) + (nI 1)) 2766 (zw g3 43 0 (((nI 62) + ((nI 4) * (g 43 0 (nI 4).toNatClampNeg))) + (nI 1)).toNatClampNeg (g3 43 0 x2.toNatClampNeg) (fun g5 =>
    zi (nI 0) 2766 (
    zi (((nI 62) + ((nI 4) * (g 43 0 (nI 4).toNatClampNeg))) + (nI 2)) 2766 (zw g5 43 0 (((nI 62) + ((nI 4) * (g 43 0 (nI 4).toNatClampNeg))) + (nI 2)).toNatClampNeg (g5 43 0 (nI 0).toNatClampNeg) (fun g6 =>
    (if v2 = 0 then
      (X7_commits_b177  v1 (((nI 62) + ((nI 4) * (g 43 0 (nI 4).toNatClampNeg))) + (nI 3)) (nI 0) g6)
    else
      (X7_commits_b177  v1 (((nI 62) + ((nI 4) * (g 43 0 (nI 4).toNatClampNeg))) + (nI 3)) (nI 1) g6))))))))))))

def X7_commits_b81  (v1 : Int32) (s0 : Int32) (g : zG) : Option (Int32 × zG) :=
    (if s0 = 0 then
      (X7_commits_b109  v1 s0 g)
    else
      (zi (nI 5) 2766 (zw g 43 0 (nI 5).toNatClampNeg (-2) (fun g1 =>
      zc (X7_coreAt v1 (nI 12) g1) (fun x2 g3 =>
      zi x2 2766 (
      zi x2 2766 (zw g3 43 0 x2.toNatClampNeg ((g3 43 0 x2.toNatClampNeg) + (nI 1)) (fun g5 =>
      X7_commits_b109  v1 s0 g5))))))))

def X7_commits (v1 : Int32) (g : zG) : Option (Int32 × zG) :=
    X7_commits_l2 (fun (v1 : Int32) (s0 : Int32) g => X7_commits_b81  v1 s0 g) zfuel v1 (nI 0) g

def X7_plus (v0 : Int32) (v1 : Int32) (g : zG) : Option (Int32 × zG) :=
    some ((((v0 + v1) + (nI 1000)) - ((v0 + v1) + (nI 1000)) / (nI 1000) * (nI 1000)), g)

def X7_does (v1 : Int32) (v2 : Int32) (g : zG) : Option (Int32 × zG) :=
    zi v2 96 (
    (if (g 37 0 v2.toNatClampNeg) = (nI 0) then
      (zc (X7_begin v1 g) (fun x1 g2 =>
      some (x1, g2)))
    else (if (g 37 0 v2.toNatClampNeg) = (nI 1) then
      (zc (X7_commits v1 g) (fun x4 g5 =>
      some ((nI 1), g5)))
    else (if (g 37 0 v2.toNatClampNeg) = (nI 2) then
      (zc (X7_coreAt v1 (nI 2) g) (fun x7 g8 =>
      zc (X7_coreAt v1 (nI 1) g8) (fun x10 g11 =>
      zi x10 2766 (
      zi x7 2766 (zw g11 43 0 x7.toNatClampNeg (g11 43 0 x10.toNatClampNeg) (fun g13 =>
      some ((nI 1), g13)))))))
    else (if (g 37 0 v2.toNatClampNeg) = (nI 3) then
      (zc (X7_touches v1 v2 g) (fun x14 g15 =>
      some (x14, g15)))
    else (if (g 37 0 v2.toNatClampNeg) = (nI 4) then
      (zc (X7_touches v1 v2 g) (fun x17 g18 =>
      some (x17, g18)))
    else (if (g 37 0 v2.toNatClampNeg) = (nI 5) then
      (zc (X7_coreAt v1 (nI 1) g) (fun x20 g21 =>
      zc (X7_coreAt v1 (nI 1) g21) (fun x23 g24 =>
      zi x23 2766 (
      zi v2 96 (
      zc (X7_plus (g24 43 0 x23.toNatClampNeg) (g24 39 0 v2.toNatClampNeg) g24) (fun x26 g27 =>
      zi x20 2766 (zw g27 43 0 x20.toNatClampNeg x26 (fun g29 =>
      some ((nI 1), g29)))))))))
    else (zc (X7_coreAt v1 (nI 1) g) (fun x30 g31 =>
      zc (X7_coreAt v1 (nI 1) g31) (fun x33 g34 =>
      zi x33 2766 (
      zi v2 96 (
      zc (X7_plus (g34 43 0 x33.toNatClampNeg) (-(g34 39 0 v2.toNatClampNeg)) g34) (fun x36 g37 =>
      zi x30 2766 (zw g37 43 0 x30.toNatClampNeg x36 (fun g39 =>
      some ((nI 1), g39))))))))))))))))

def X7_hasLeft (v1 : Int32) (g : zG) : Option (Int32 × zG) :=
    zc (X7_coreAt v1 (nI 0) g) (fun x1 g2 =>
    zi x1 2766 (
    zi v1 4 (
    (if (g2 43 0 x1.toNatClampNeg) < (g2 35 0 v1.toNatClampNeg) then
      (some ((nI 1), g2))
    else
      (some ((nI 0), g2))))))

def X7_steps (v1 : Int32) (g : zG) : Option (Int32 × zG) :=
    zw g 38007 0 0 (nI 0) (fun g1 =>
    zc (X7_hasLeft v1 g1) (fun x2 g3 =>
    (if x2 = 0 then
      (some ((nI 0), g3))
    else
      (zi (nI 0) 2766 (
      zi (nI 0) 2766 (zw g3 43 0 (nI 0).toNatClampNeg ((g3 43 0 (nI 0).toNatClampNeg) + (nI 1)) (fun g5 =>
      zc (X7_coreAt v1 (nI 0) g5) (fun x6 g7 =>
      zi x6 2766 (
      zc (X7_does v1 (((nI 24) * v1) + (g7 43 0 x6.toNatClampNeg)) g7) (fun x9 g10 =>
      (if x9 = (nI 1) then
        (zc (X7_coreAt v1 (nI 0) g10) (fun x12 g13 =>
        zi x12 2766 (
        zi x12 2766 (zw g13 43 0 x12.toNatClampNeg ((g13 43 0 x12.toNatClampNeg) + (nI 1)) (fun g15 =>
        some (x9, g15))))))
      else
        (some (x9, g10)))))))))))))

def X7_isCore (v1 : Int32) (g : zG) : Option (Int32 × zG) :=
    (if (g 21007 0 0) = 0 then
      (some ((nI 0), g))
    else
      (zi (nI 5) 6 (
      zc (X7_in v1 (nI 0) ((g 31 0 (nI 5).toNatClampNeg) - (nI 1)) g) (fun x1 g2 =>
      (if x1 = 0 then
        (some ((nI 0), g2))
      else
        (some ((nI 1), g2)))))))

def X7_isAddress (v1 : Int32) (g : zG) : Option (Int32 × zG) :=
    (if (g 21007 0 0) = 0 then
      (some ((nI 0), g))
    else
      (zi (nI 2) 6 (
      zc (X7_addresses (g 31 0 (nI 2).toNatClampNeg) g) (fun x1 g2 =>
      zc (X7_in v1 (nI 0) (x1 - (nI 1)) g2) (fun x4 g5 =>
      (if x4 = 0 then
        (some ((nI 0), g5))
      else
        (some ((nI 1), g5))))))))

def X7_about (v1 : Int32) (g : zG) : Option (Int32 × zG) :=
    zc (X7_anew  g) (fun x1 g2 =>
    (if (g2 21007 0 0) = 0 then
      (zc (X7_no (nI 1) g2) (fun x10 g11 =>
      some (x10, g11)))
    else
      ((if v1 = (nI 0) then
        (zi (nI 0) 6 (
        some ((g2 31 0 (nI 0).toNatClampNeg), g2)))
      else (if v1 = (nI 1) then
        (zi (nI 1) 6 (
        some ((g2 31 0 (nI 1).toNatClampNeg), g2)))
      else (if v1 = (nI 2) then
        (zi (nI 2) 6 (
        some ((g2 31 0 (nI 2).toNatClampNeg), g2)))
      else (if v1 = (nI 3) then
        (zi (nI 3) 6 (
        some ((g2 31 0 (nI 3).toNatClampNeg), g2)))
      else (if v1 = (nI 4) then
        (zi (nI 4) 6 (
        some ((g2 31 0 (nI 4).toNatClampNeg), g2)))
      else (if v1 = (nI 5) then
        (zi (nI 5) 6 (
        some ((g2 31 0 (nI 5).toNatClampNeg), g2)))
      else (if v1 = (nI 6) then
        (zi (nI 2) 6 (
        zc (X7_addresses (g2 31 0 (nI 2).toNatClampNeg) g2) (fun x4 g5 =>
        some (x4, g5))))
      else (if v1 = (nI 7) then
        (zi (nI 0) 2766 (
        some ((g2 43 0 (nI 0).toNatClampNeg), g2)))
      else (if v1 = (nI 8) then
        (zi (nI 4) 2766 (
        some ((g2 43 0 (nI 4).toNatClampNeg), g2)))
      else (zc (X7_no (nI 1) g2) (fun x7 g8 =>
        some (x7, g8)))))))))))))))

def X7_deed_b28   (g : zG) : Option (Int32 × zG) :=
    zc (X7_no (nI 1) g) (fun x1 g2 =>
    some (x1, g2))

def X7_deed (v1 : Int32) (v2 : Int32) (v3 : Int32) (g : zG) : Option (Int32 × zG) :=
    zc (X7_anew  g) (fun x1 g2 =>
    zc (X7_isCore v1 g2) (fun x4 g5 =>
    (if x4 = 0 then
      (X7_deed_b28   g5)
    else
      (zi v1 4 (
      zc (X7_in v2 (nI 0) ((g5 35 0 v1.toNatClampNeg) - (nI 1)) g5) (fun x7 g8 =>
      (if x7 = 0 then
        (X7_deed_b28   g8)
      else
        ((if v3 = (nI 0) then
          (zi (((nI 24) * v1) + v2) 96 (
          some ((g8 37 0 (((nI 24) * v1) + v2).toNatClampNeg), g8)))
        else (if v3 = (nI 1) then
          (zi (((nI 24) * v1) + v2) 96 (
          some ((g8 39 0 (((nI 24) * v1) + v2).toNatClampNeg), g8)))
        else (if v3 = (nI 2) then
          (zi (((nI 24) * v1) + v2) 96 (
          some ((g8 41 0 (((nI 24) * v1) + v2).toNatClampNeg), g8)))
        else (zc (X7_no (nI 1) g8) (fun x10 g11 =>
          some (x10, g11))))))))))))))

def X7_wordNow_b72 (k2 : Int32 → Int32 → zG → Option (Int32 × zG)) (v1 : Int32) (v2 : Int32) (g : zG) : Option (Int32 × zG) :=
    k2 v1 (v2 + (nI 1)) g

def X7_wordNow_l2  : Nat → Int32 → Int32 → zG → Option (Int32 × zG)
  | 0, _, _, _ => none
  | n + 1, v1, v2, g =>
    zi (nI 5) 6 (
    (if v2 < (g 31 0 (nI 5).toNatClampNeg) then
      (zi (nI 2) 6 (
      if (g 31 0 (nI 2).toNatClampNeg) = 0 then none else zc (X7_find v2 (v1 / (g 31 0 (nI 2).toNatClampNeg)) g) (fun x1 g2 =>
      (if x1 = (-1) then
        (X7_wordNow_b72 (X7_wordNow_l2  n) v1 v2 g2)
      else
        (zi (x1 + (nI 1)) 2766 (
        (if (g2 43 0 (x1 + (nI 1)).toNatClampNeg) = (nI 3) then
          (zi (x1 + (nI 3)) 2766 (
          (if (g2 43 0 (x1 + (nI 3)).toNatClampNeg) = 0 then
            (zi (nI 2) 6 (
            if (g2 31 0 (nI 2).toNatClampNeg) = 0 then none else zi ((x1 + (nI 5)) + (v1 - v1 / (g2 31 0 (nI 2).toNatClampNeg) * (g2 31 0 (nI 2).toNatClampNeg))) 2766 (
            some ((g2 43 0 ((x1 + (nI 5)) + (v1 - v1 / (g2 31 0 (nI 2).toNatClampNeg) * (g2 31 0 (nI 2).toNatClampNeg))).toNatClampNeg), g2))))
          else
            (X7_wordNow_b72 (X7_wordNow_l2  n) v1 v2 g2))))
        else
          (X7_wordNow_b72 (X7_wordNow_l2  n) v1 v2 g2))))))))
    else
      (zi ((nI 254) + v1) 2766 (
      some ((g 43 0 ((nI 254) + v1).toNatClampNeg), g)))))

def X7_wordNow (v1 : Int32) (g : zG) : Option (Int32 × zG) :=
    X7_wordNow_l2  zfuel v1 (nI 0) g

def X7_word (v1 : Int32) (g : zG) : Option (Int32 × zG) :=
    zc (X7_anew  g) (fun x1 g2 =>
    zc (X7_isAddress v1 g2) (fun x4 g5 =>
    (if x4 = 0 then
      (zc (X7_no (nI 1) g5) (fun x7 g8 =>
      some (x7, g8)))
    else
      (zc (X7_wordNow v1 g5) (fun x10 g11 =>
      some (x10, g11))))))

def X7_memory (v1 : Int32) (g : zG) : Option (Int32 × zG) :=
    zc (X7_anew  g) (fun x1 g2 =>
    zc (X7_isAddress v1 g2) (fun x4 g5 =>
    (if x4 = 0 then
      (zc (X7_no (nI 1) g5) (fun x7 g8 =>
      some (x7, g8)))
    else
      (zi ((nI 254) + v1) 2766 (
      some ((g5 43 0 ((nI 254) + v1).toNatClampNeg), g5))))))

def X7_plainBegins_l2  : Nat → Int32 → zG → Option (Int32 × zG)
  | 0, _, _ => none
  | n + 1, v1, g =>
    (if v1 < (nI 64) then
      (zi v1 64 (
      zi v1 64 (zw g 46 0 v1.toNatClampNeg (g 33 0 v1.toNatClampNeg) (fun g1 =>
      X7_plainBegins_l2  n (v1 + (nI 1)) g1))))
    else
      (some (0, g)))

def X7_plainBegins  (g : zG) : Option (Int32 × zG) :=
    X7_plainBegins_l2  zfuel (nI 0) g

def X7_plainly_b24  (v1 : Int32) (s0 : Int32) (s1 : Int32) (g : zG) : Option (Int32 × zG) :=
    zi (nI 2) 6 (
    zc (X7_addresses (g 31 0 (nI 2).toNatClampNeg) g) (fun x1 g2 =>
    if x1 = 0 then none else zi v1 96 (
    (if (g2 37 0 v1.toNatClampNeg) = (nI 0) then
      (zw g2 40007 0 0 (nI 0) (fun g4 =>
      zw g4 41007 0 0 (nI 0) (fun g5 =>
      some (0, g5))))
    else (if (g2 37 0 v1.toNatClampNeg) = (nI 1) then
      (some (0, g2))
    else (if (g2 37 0 v1.toNatClampNeg) = (nI 2) then
      (zw g2 41007 0 0 (g2 40007 0 0) (fun g6 =>
      some (0, g6)))
    else (if (g2 37 0 v1.toNatClampNeg) = (nI 3) then
      (zi ((s0 + s1) - (s0 + s1) / x1 * x1) 64 (
      zw g2 40007 0 0 (g2 46 0 ((s0 + s1) - (s0 + s1) / x1 * x1).toNatClampNeg) (fun g7 =>
      some (0, g7))))
    else (if (g2 37 0 v1.toNatClampNeg) = (nI 4) then
      (zi ((s0 + s1) - (s0 + s1) / x1 * x1) 64 (zw g2 46 0 ((s0 + s1) - (s0 + s1) / x1 * x1).toNatClampNeg (g2 40007 0 0) (fun g8 =>
      some (0, g8))))
    else (if (g2 37 0 v1.toNatClampNeg) = (nI 5) then
      (zi v1 96 (
      zc (X7_plus (g2 40007 0 0) (g2 39 0 v1.toNatClampNeg) g2) (fun x9 g10 =>
      zw g10 40007 0 0 x9 (fun g12 =>
      some (0, g12)))))
    else (if (g2 37 0 v1.toNatClampNeg) = (nI 6) then
      (zi v1 96 (
      zc (X7_plus (g2 40007 0 0) (-(g2 39 0 v1.toNatClampNeg)) g2) (fun x13 g14 =>
      zw g14 40007 0 0 x13 (fun g16 =>
      some (0, g16)))))
    else (some (0, g2))))))))))))

def X7_plainly (v1 : Int32) (g : zG) : Option (Int32 × zG) :=
    zi v1 96 (
    zi v1 96 (
    (if (g 41 0 v1.toNatClampNeg) = (nI 1) then
      (X7_plainly_b24  v1 (g 39 0 v1.toNatClampNeg) (g 41007 0 0) g)
    else
      (X7_plainly_b24  v1 (g 39 0 v1.toNatClampNeg) (nI 0) g))))

def X7_serially_l45 (k6 : Int32 → zG → Option (Int32 × zG)) : Nat → Int32 → Int32 → zG → Option (Int32 × zG)
  | 0, _, _, _ => none
  | n + 1, v1, v2, g =>
    zi v2 96 (
    (if (g 37 0 v2.toNatClampNeg) = (nI 1) then
      (k6 (v1 + (nI 1)) g)
    else
      (zc (X7_plainly v2 g) (fun x1 g2 =>
      X7_serially_l45 k6 n v1 (v2 + (nI 1)) g2))))

def X7_serially_l6  : Nat → Int32 → zG → Option (Int32 × zG)
  | 0, _, _ => none
  | n + 1, v1, g =>
    zi (nI 4) 2766 (
    (if v1 < (g 43 0 (nI 4).toNatClampNeg) then
      (zi ((nI 62) + ((nI 4) * v1)) 2766 (
      zi (((nI 62) + ((nI 4) * v1)) + (nI 1)) 2766 (
      X7_serially_l45 (X7_serially_l6  n) zfuel v1 (((nI 24) * (g 43 0 ((nI 62) + ((nI 4) * v1)).toNatClampNeg)) + (g 43 0 (((nI 62) + ((nI 4) * v1)) + (nI 1)).toNatClampNeg)) g)))
    else
      (some (0, g))))

def X7_serially  (g : zG) : Option (Int32 × zG) :=
    zc (X7_plainBegins  g) (fun x1 g2 =>
    X7_serially_l6  zfuel (nI 0) g2)

def X7_serial (v1 : Int32) (g : zG) : Option (Int32 × zG) :=
    zc (X7_anew  g) (fun x1 g2 =>
    zc (X7_isAddress v1 g2) (fun x4 g5 =>
    (if x4 = 0 then
      (zc (X7_no (nI 1) g5) (fun x10 g11 =>
      some (x10, g11)))
    else
      (zc (X7_serially  g5) (fun x7 g8 =>
      zi v1 64 (
      some ((g8 46 0 v1.toNatClampNeg), g8)))))))

def X7_agrees_l23  : Nat → Int32 → zG → Option (Int32 × zG)
  | 0, _, _ => none
  | n + 1, v1, g =>
    zi (nI 2) 6 (
    zc (X7_addresses (g 31 0 (nI 2).toNatClampNeg) g) (fun x1 g2 =>
    (if v1 < x1 then
      (zi v1 64 (
      zc (X7_wordNow v1 g2) (fun x4 g5 =>
      (if (g2 46 0 v1.toNatClampNeg) = x4 then
        (X7_agrees_l23  n (v1 + (nI 1)) g5)
      else
        (some ((nI 0), g5))))))
    else
      (some ((nI 1), g2)))))

def X7_agrees  (g : zG) : Option (Int32 × zG) :=
    zc (X7_anew  g) (fun x1 g2 =>
    (if (g2 21007 0 0) = 0 then
      (zc (X7_no (nI 1) g2) (fun x7 g8 =>
      some (x7, g8)))
    else
      (zc (X7_serially  g2) (fun x4 g5 =>
      X7_agrees_l23  zfuel (nI 0) g5))))

def X7_lock  (g : zG) : Option (Int32 × zG) :=
    zc (X7_anew  g) (fun x1 g2 =>
    (if (g2 21007 0 0) = 0 then
      (zc (X7_no (nI 1) g2) (fun x4 g5 =>
      some (x4, g5)))
    else
      (zi (nI 5) 2766 (
      some ((g2 43 0 (nI 5).toNatClampNeg), g2)))))

def X7_alone_b20   (g : zG) : Option (Int32 × zG) :=
    zc (X7_no (nI 1) g) (fun x1 g2 =>
    some (x1, g2))

def X7_alone_l67 (k32 : Int32 → Int32 → Int32 → zG → Option (Int32 × zG)) : Nat → Int32 → Int32 → Int32 → Int32 → Int32 → zG → Option (Int32 × zG)
  | 0, _, _, _, _, _, _ => none
  | n + 1, v1, v2, v3, v4, v5, g =>
    zi v4 4 (
    (if v5 < (g 35 0 v4.toNatClampNeg) then
      (zc (X7_plainly (((nI 24) * v4) + v5) g) (fun x1 g2 =>
      X7_alone_l67 k32 n v1 v2 v3 v4 (v5 + (nI 1)) g2))
    else
      (k32 v1 v2 (v3 + (nI 1)) g)))

def X7_alone_l32  : Nat → Int32 → Int32 → Int32 → zG → Option (Int32 × zG)
  | 0, _, _, _, _ => none
  | n + 1, v1, v2, v3, g =>
    zi (nI 5) 6 (
    (if v3 < (g 31 0 (nI 5).toNatClampNeg) then
      (zi (nI 5) 6 (
      if (g 31 0 (nI 5).toNatClampNeg) = 0 then none else zw g 40007 0 0 (nI 0) (fun g1 =>
      zw g1 41007 0 0 (nI 0) (fun g2 =>
      X7_alone_l67 (X7_alone_l32  n) zfuel v1 v2 v3 ((v1 + v3) - (v1 + v3) / (g 31 0 (nI 5).toNatClampNeg) * (g 31 0 (nI 5).toNatClampNeg)) (nI 0) g2))))
    else
      (zi v2 64 (
      some ((g 46 0 v2.toNatClampNeg), g)))))

def X7_alone (v1 : Int32) (v2 : Int32) (g : zG) : Option (Int32 × zG) :=
    zc (X7_anew  g) (fun x1 g2 =>
    zc (X7_isCore v1 g2) (fun x4 g5 =>
    (if x4 = 0 then
      (X7_alone_b20   g5)
    else
      (zc (X7_isAddress v2 g5) (fun x7 g8 =>
      (if x7 = 0 then
        (X7_alone_b20   g8)
      else
        (zc (X7_plainBegins  g8) (fun x10 g11 =>
        X7_alone_l32  zfuel v1 v2 (nI 0) g11))))))))

def X7_place_b54   (g : zG) : Option (Int32 × zG) :=
    zc (X7_no (nI 1) g) (fun x1 g2 =>
    some (x1, g2))

def X7_place_b93  (v4 : Int32) (v5 : Int32) (g : zG) : Option (Int32 × zG) :=
    zi (v5 + v4) 2766 (
    some ((g 43 0 (v5 + v4).toNatClampNeg), g))

def X7_place (v1 : Int32) (v2 : Int32) (v3 : Int32) (v4 : Int32) (g : zG) : Option (Int32 × zG) :=
    zc (X7_anew  g) (fun x1 g2 =>
    zc (X7_isCore v1 g2) (fun x4 g5 =>
    (if x4 = 0 then
      (X7_place_b54   g5)
    else
      (zi (nI 0) 6 (
      zc (X7_in v2 (nI 0) ((g5 31 0 (nI 0).toNatClampNeg) - (nI 1)) g5) (fun x7 g8 =>
      (if x7 = 0 then
        (X7_place_b54   g8)
      else
        (zi (nI 1) 6 (
        zc (X7_in v3 (nI 0) ((g8 31 0 (nI 1).toNatClampNeg) - (nI 1)) g8) (fun x10 g11 =>
        (if x10 = 0 then
          (X7_place_b54   g11)
        else
          (zc (X7_in v4 (nI 0) (nI 4) g11) (fun x13 g14 =>
          (if x13 = 0 then
            (X7_place_b54   g14)
          else
            (zc (X7_placeAt v1 v2 v3 g14) (fun x16 g17 =>
            (if v4 = (nI 4) then
              (zi (x16 + (nI 0)) 2766 (
              (if (g17 43 0 (x16 + (nI 0)).toNatClampNeg) = (-2) then
                (some ((-2), g17))
              else
                (X7_place_b93  v4 x16 g17))))
            else
              (X7_place_b93  v4 x16 g17))))))))))))))))))

def X7_cached_b20   (g : zG) : Option (Int32 × zG) :=
    zc (X7_no (nI 1) g) (fun x1 g2 =>
    some (x1, g2))

def X7_cached (v1 : Int32) (v2 : Int32) (g : zG) : Option (Int32 × zG) :=
    zc (X7_anew  g) (fun x1 g2 =>
    zc (X7_isCore v1 g2) (fun x4 g5 =>
    (if x4 = 0 then
      (X7_cached_b20   g5)
    else
      (zc (X7_isAddress v2 g5) (fun x7 g8 =>
      (if x7 = 0 then
        (X7_cached_b20   g8)
      else
        (zi (nI 2) 6 (
        if (g8 31 0 (nI 2).toNatClampNeg) = 0 then none else zc (X7_find v1 (v2 / (g8 31 0 (nI 2).toNatClampNeg)) g8) (fun x10 g11 =>
        (if x10 = (-1) then
          (some ((-2), g11))
        else
          (zi (nI 2) 6 (
          if (g11 31 0 (nI 2).toNatClampNeg) = 0 then none else zi ((x10 + (nI 5)) + (v2 - v2 / (g11 31 0 (nI 2).toNatClampNeg) * (g11 31 0 (nI 2).toNatClampNeg))) 2766 (
          some ((g11 43 0 ((x10 + (nI 5)) + (v2 - v2 / (g11 31 0 (nI 2).toNatClampNeg) * (g11 31 0 (nI 2).toNatClampNeg))).toNatClampNeg), g11))))))))))))))

def X7_sharers_b21   (g : zG) : Option (Int32 × zG) :=
    zc (X7_no (nI 1) g) (fun x1 g2 =>
    some (x1, g2))

def X7_sharers_b59 (k31 : Int32 → Int32 → Int32 → zG → Option (Int32 × zG)) (v1 : Int32) (v3 : Int32) (s0 : Int32) (s1 : Int32) (g : zG) : Option (Int32 × zG) :=
    k31 v1 (s0 ||| s1) (v3 + (nI 1)) g

def X7_sharers_l31  : Nat → Int32 → Int32 → Int32 → zG → Option (Int32 × zG)
  | 0, _, _, _, _ => none
  | n + 1, v1, v2, v3, g =>
    zi (nI 5) 6 (
    (if v3 < (g 31 0 (nI 5).toNatClampNeg) then
      (zc (X7_find v3 v1 g) (fun x1 g2 =>
      (if x1 = (-1) then
        (X7_sharers_b59 (X7_sharers_l31  n) v1 v3 v2 (nI 0) g2)
      else
        (X7_sharers_b59 (X7_sharers_l31  n) v1 v3 v2 ((nI 1) <<< (v3 &&& 31)) g2))))
    else
      (some (v2, g))))

def X7_sharers (v1 : Int32) (g : zG) : Option (Int32 × zG) :=
    zc (X7_anew  g) (fun x1 g2 =>
    (if (g2 21007 0 0) = 0 then
      (X7_sharers_b21   g2)
    else
      (zc (X7_in v1 (nI 0) (nI 16) g2) (fun x4 g5 =>
      (if x4 = 0 then
        (X7_sharers_b21   g5)
      else
        (X7_sharers_l31  zfuel v1 (nI 0) (nI 0) g5))))))

def X7_marked_b49 (k5 : Int32 → Int32 → Int32 → Int32 → zG → Option (Int32 × zG)) (v1 : Int32) (v2 : Int32) (v4 : Int32) (s0 : Int32) (s1 : Int32) (g : zG) : Option (Int32 × zG) :=
    k5 v1 v2 (s0 ||| s1) (v4 + (nI 1)) g

def X7_marked_b48 (k5 : Int32 → Int32 → Int32 → Int32 → zG → Option (Int32 × zG)) (v1 : Int32) (v2 : Int32) (v4 : Int32) (s0 : Int32) (g : zG) : Option (Int32 × zG) :=
    X7_marked_b49 k5 v1 v2 v4 s0 (nI 0) g

def X7_marked_l5  : Nat → Int32 → Int32 → Int32 → Int32 → zG → Option (Int32 × zG)
  | 0, _, _, _, _, _ => none
  | n + 1, v1, v2, v3, v4, g =>
    (if (nI 16) < v4 then
      (some (v3, g))
    else
      (zc (X7_find v1 v4 g) (fun x1 g2 =>
      (if x1 = (-1) then
        (X7_marked_b48 (X7_marked_l5  n) v1 v2 v4 v3 g2)
      else
        (zi (x1 + v2) 2766 (
        (if (g2 43 0 (x1 + v2).toNatClampNeg) = (nI 1) then
          (X7_marked_b49 (X7_marked_l5  n) v1 v2 v4 v3 ((nI 1) <<< (v4 &&& 31)) g2)
        else
          (X7_marked_b48 (X7_marked_l5  n) v1 v2 v4 v3 g2))))))))

def X7_marked (v1 : Int32) (v2 : Int32) (g : zG) : Option (Int32 × zG) :=
    X7_marked_l5  zfuel v1 v2 (nI 0) (nI 0) g

def X7_reads (v1 : Int32) (g : zG) : Option (Int32 × zG) :=
    zc (X7_anew  g) (fun x1 g2 =>
    zc (X7_isCore v1 g2) (fun x4 g5 =>
    (if x4 = 0 then
      (zc (X7_no (nI 1) g5) (fun x7 g8 =>
      some (x7, g8)))
    else
      (zc (X7_marked v1 (nI 2) g5) (fun x10 g11 =>
      some (x10, g11))))))

def X7_writes (v1 : Int32) (g : zG) : Option (Int32 × zG) :=
    zc (X7_anew  g) (fun x1 g2 =>
    zc (X7_isCore v1 g2) (fun x4 g5 =>
    (if x4 = 0 then
      (zc (X7_no (nI 1) g5) (fun x7 g8 =>
      some (x7, g8)))
    else
      (zc (X7_marked v1 (nI 3) g5) (fun x10 g11 =>
      some (x10, g11))))))

def X7_traffic_b31   (g : zG) : Option (Int32 × zG) :=
    zc (X7_no (nI 1) g) (fun x1 g2 =>
    some (x1, g2))

def X7_traffic (v1 : Int32) (g : zG) : Option (Int32 × zG) :=
    zc (X7_anew  g) (fun x1 g2 =>
    (if (g2 21007 0 0) = 0 then
      (X7_traffic_b31   g2)
    else
      (zc (X7_in v1 (nI 0) (nI 2) g2) (fun x4 g5 =>
      (if x4 = 0 then
        (X7_traffic_b31   g5)
      else
        (zi ((nI 1) + v1) 2766 (
        some ((g5 43 0 ((nI 1) + v1).toNatClampNeg), g5))))))))

def X7_core (v1 : Int32) (v2 : Int32) (g : zG) : Option (Int32 × zG) :=
    zc (X7_anew  g) (fun x1 g2 =>
    zc (X7_isCore v1 g2) (fun x4 g5 =>
    (if x4 = 0 then
      (zc (X7_no (nI 1) g5) (fun x31 g32 =>
      some (x31, g32)))
    else
      ((if v2 = (nI 0) then
        (zc (X7_hasLeft v1 g5) (fun x7 g8 =>
        (if x7 = 0 then
          (some ((-2), g8))
        else
          (zc (X7_coreAt v1 (nI 0) g8) (fun x10 g11 =>
          zi x10 2766 (
          some ((g11 43 0 x10.toNatClampNeg), g11)))))))
      else (if v2 = (nI 1) then
        (zc (X7_coreAt v1 (nI 1) g5) (fun x13 g14 =>
        zi x13 2766 (
        some ((g14 43 0 x13.toNatClampNeg), g14))))
      else (if v2 = (nI 2) then
        (zc (X7_coreAt v1 (nI 2) g5) (fun x16 g17 =>
        zi x16 2766 (
        some ((g17 43 0 x16.toNatClampNeg), g17))))
      else (if v2 = (nI 3) then
        (zc (X7_coreAt v1 (nI 3) g5) (fun x19 g20 =>
        zi x19 2766 (
        some ((g20 43 0 x19.toNatClampNeg), g20))))
      else (if v2 = (nI 4) then
        (zc (X7_coreAt v1 (nI 4) g5) (fun x22 g23 =>
        zi x22 2766 (
        some ((g23 43 0 x22.toNatClampNeg), g23))))
      else (if v2 = (nI 5) then
        (zc (X7_coreAt v1 (nI 5) g5) (fun x25 g26 =>
        zi x25 2766 (
        some ((g26 43 0 x25.toNatClampNeg), g26))))
      else (if v2 = (nI 6) then
        (zi v1 4 (
        some ((g5 35 0 v1.toNatClampNeg), g5)))
      else (zc (X7_no (nI 1) g5) (fun x28 g29 =>
        some (x28, g29))))))))))))))

def X7_count_b38   (g : zG) : Option (Int32 × zG) :=
    zc (X7_no (nI 1) g) (fun x1 g2 =>
    some (x1, g2))

def X7_count (v1 : Int32) (v2 : Int32) (g : zG) : Option (Int32 × zG) :=
    zc (X7_anew  g) (fun x1 g2 =>
    zc (X7_isCore v1 g2) (fun x4 g5 =>
    (if x4 = 0 then
      (X7_count_b38   g5)
    else
      (zc (X7_in v2 (nI 0) (nI 6) g5) (fun x7 g8 =>
      (if x7 = 0 then
        (X7_count_b38   g8)
      else
        (zc (X7_coreAt v1 ((nI 7) + v2) g8) (fun x10 g11 =>
        zi x10 2766 (
        some ((g11 43 0 x10.toNatClampNeg), g11))))))))))

def X7_advice_b87   (g : zG) : Option (Int32 × zG) :=
    some ((nI 1), g)

def X7_advice_b72  (v2 : Int32) (s0 : Int32) (s1 : Int32) (g : zG) : Option (Int32 × zG) :=
    (if v2 = (nI 1) then
      (X7_advice_b87   g)
    else
      ((if (s0 + s1) < (g 36007 0 0) then
        (some ((nI 0), g))
      else
        (X7_advice_b87   g))))

def X7_advice (v1 : Int32) (v2 : Int32) (g : zG) : Option (Int32 × zG) :=
    zc (X7_anew  g) (fun x1 g2 =>
    zc (X7_isCore v1 g2) (fun x4 g5 =>
    (if x4 = 0 then
      (zc (X7_no (nI 1) g5) (fun x22 g23 =>
      some (x22, g23)))
    else
      (zc (X7_in v2 (nI 0) (nI 3) g5) (fun x7 g8 =>
      (if x7 = 0 then
        (zc (X7_no (nI 2) g8) (fun x19 g20 =>
        some (x19, g20)))
      else
        (zc (X7_coreAt v1 (nI 3) g8) (fun x10 g11 =>
        zi x10 2766 (
        (if (g11 43 0 x10.toNatClampNeg) = (nI 1) then
          (zc (X7_coreAt v1 (nI 4) g11) (fun x13 g14 =>
          zi x13 2766 (
          (if v2 = 0 then
            (X7_advice_b72  v2 (g14 43 0 x13.toNatClampNeg) (nI 1) g14)
          else
            (X7_advice_b72  v2 (g14 43 0 x13.toNatClampNeg) (nI 0) g14)))))
        else
          (zc (X7_no (nI 5) g11) (fun x16 g17 =>
          some (x16, g17)))))))))))))

def X7_commit_b52   (g : zG) : Option (Int32 × zG) :=
    zc (X7_no (nI 1) g) (fun x1 g2 =>
    some (x1, g2))

def X7_commit (v1 : Int32) (v2 : Int32) (g : zG) : Option (Int32 × zG) :=
    zc (X7_anew  g) (fun x1 g2 =>
    (if (g2 21007 0 0) = 0 then
      (X7_commit_b52   g2)
    else
      (zi (nI 4) 2766 (
      zc (X7_in v1 (nI 0) ((g2 43 0 (nI 4).toNatClampNeg) - (nI 1)) g2) (fun x4 g5 =>
      (if x4 = 0 then
        (X7_commit_b52   g5)
      else
        (zc (X7_in v2 (nI 0) (nI 3) g5) (fun x7 g8 =>
        (if x7 = 0 then
          (X7_commit_b52   g8)
        else
          (zi (((nI 62) + ((nI 4) * v1)) + v2) 2766 (
          some ((g8 43 0 (((nI 62) + ((nI 4) * v1)) + v2).toNatClampNeg), g8))))))))))))

def X7_would (v1 : Int32) (g : zG) : Option (Int32 × zG) :=
    zc (X7_anew  g) (fun x1 g2 =>
    zc (X7_isCore v1 g2) (fun x4 g5 =>
    (if x4 = 0 then
      (zc (X7_no (nI 1) g5) (fun x16 g17 =>
      some (x16, g17)))
    else
      (zc (X7_laysAside  g5) (fun x7 g8 =>
      zc (X7_steps v1 g8) (fun x10 g11 =>
      zc (X7_takesBack  g11) (fun x13 g14 =>
      some (x10, g14))))))))

def X7_wouldEnd (v1 : Int32) (g : zG) : Option (Int32 × zG) :=
    zc (X7_anew  g) (fun x1 g2 =>
    zc (X7_isCore v1 g2) (fun x4 g5 =>
    (if x4 = 0 then
      (zc (X7_no (nI 1) g5) (fun x16 g17 =>
      some (x16, g17)))
    else
      (zc (X7_laysAside  g5) (fun x7 g8 =>
      zc (X7_steps v1 g8) (fun x10 g11 =>
      zc (X7_takesBack  g11) (fun x13 g14 =>
      some ((g14 38007 0 0), g14))))))))

def X7_step (v1 : Int32) (g : zG) : Option (Int32 × zG) :=
    zc (X7_anew  g) (fun x1 g2 =>
    zc (X7_isCore v1 g2) (fun x4 g5 =>
    (if x4 = 0 then
      (zc (X7_no (nI 1) g5) (fun x7 g8 =>
      some (x7, g8)))
    else
      (zc (X7_steps v1 g5) (fun x10 g11 =>
      some (x10, g11))))))

def X7_rounds_b72 (k46 : Int32 → Int32 → Int32 → Int32 → zG → Option (Int32 × zG)) (v1 : Int32) (v3 : Int32) (v4 : Int32) (s0 : Int32) (s1 : Int32) (g : zG) : Option (Int32 × zG) :=
    k46 v1 (s0 + s1) v3 (v4 + (nI 1)) g

def X7_rounds_l46 (k38 : Int32 → Int32 → Int32 → zG → Option (Int32 × zG)) : Nat → Int32 → Int32 → Int32 → Int32 → zG → Option (Int32 × zG)
  | 0, _, _, _, _, _ => none
  | n + 1, v1, v2, v3, v4, g =>
    zi (nI 5) 6 (
    (if v4 < (g 31 0 (nI 5).toNatClampNeg) then
      (zc (X7_steps v4 g) (fun x1 g2 =>
      (if x1 = 0 then
        (X7_rounds_b72 (X7_rounds_l46 k38 n) v1 v3 v4 v2 (nI 0) g2)
      else
        (X7_rounds_b72 (X7_rounds_l46 k38 n) v1 v3 v4 v2 (nI 1) g2))))
    else
      (k38 v1 v2 (v3 + (nI 1)) g)))

def X7_rounds_l38  : Nat → Int32 → Int32 → Int32 → zG → Option (Int32 × zG)
  | 0, _, _, _, _ => none
  | n + 1, v1, v2, v3, g =>
    (if v3 < v1 then
      (X7_rounds_l46 (X7_rounds_l38  n) zfuel v1 v2 v3 (nI 0) g)
    else
      (some (v2, g)))

def X7_rounds (v1 : Int32) (g : zG) : Option (Int32 × zG) :=
    zc (X7_anew  g) (fun x1 g2 =>
    (if (g2 21007 0 0) = 0 then
      (zc (X7_no (nI 1) g2) (fun x10 g11 =>
      some (x10, g11)))
    else
      (zc (X7_in v1 (nI 1) (nI 200) g2) (fun x4 g5 =>
      (if x4 = 0 then
        (zc (X7_no (nI 2) g5) (fun x7 g8 =>
        some (x7, g8)))
      else
        (X7_rounds_l38  zfuel v1 (nI 0) (nI 0) g5))))))

def X7_drawn  (g : zG) : Option (Int32 × zG) :=
    zw g 42007 0 0 ((((nI 25173) * (g 42007 0 0)) + (nI 13849)) - (((nI 25173) * (g 42007 0 0)) + (nI 13849)) / (nI 65536) * (nI 65536)) (fun g1 =>
    zi (nI 5) 6 (
    if (g1 31 0 (nI 5).toNatClampNeg) = 0 then none else some ((((g1 42007 0 0) / (nI 256)) - ((g1 42007 0 0) / (nI 256)) / (g1 31 0 (nI 5).toNatClampNeg) * (g1 31 0 (nI 5).toNatClampNeg)), g1)))

def X7_isSeed (v0 : Int32) (g : zG) : Option (Int32 × zG) :=
    zc (X7_in v0 (nI 0) (nI 65535) g) (fun x1 g2 =>
    zbo x1 (some (x1, g2)))

def X7_draws_b35   (g : zG) : Option (Int32 × zG) :=
    zc (X7_no (nI 2) g) (fun x1 g2 =>
    some (x1, g2))

def X7_draws_b74 (k51 : Int32 → Int32 → Int32 → zG → Option (Int32 × zG)) (v1 : Int32) (v4 : Int32) (s0 : Int32) (s1 : Int32) (g : zG) : Option (Int32 × zG) :=
    k51 v1 (s0 + s1) (v4 + (nI 1)) g

def X7_draws_l51  : Nat → Int32 → Int32 → Int32 → zG → Option (Int32 × zG)
  | 0, _, _, _, _ => none
  | n + 1, v1, v3, v4, g =>
    (if v4 < v1 then
      (zc (X7_drawn  g) (fun x1 g2 =>
      zc (X7_steps x1 g2) (fun x4 g5 =>
      (if x4 = 0 then
        (X7_draws_b74 (X7_draws_l51  n) v1 v4 v3 (nI 0) g5)
      else
        (X7_draws_b74 (X7_draws_l51  n) v1 v4 v3 (nI 1) g5)))))
    else
      (some (v3, g)))

def X7_draws (v1 : Int32) (v2 : Int32) (g : zG) : Option (Int32 × zG) :=
    zc (X7_anew  g) (fun x1 g2 =>
    (if (g2 21007 0 0) = 0 then
      (zc (X7_no (nI 1) g2) (fun x11 g12 =>
      some (x11, g12)))
    else
      (zc (X7_in v1 (nI 1) (nI 1000) g2) (fun x4 g5 =>
      (if x4 = 0 then
        (X7_draws_b35   g5)
      else
        (zc (X7_isSeed v2 g5) (fun x7 g8 =>
        (if x7 = 0 then
          (X7_draws_b35   g8)
        else
          (zw g8 42007 0 0 v2 (fun g10 =>
          X7_draws_l51  zfuel v1 (nI 0) (nI 0) g10))))))))))

def X7_interrupt (v1 : Int32) (g : zG) : Option (Int32 × zG) :=
    zc (X7_anew  g) (fun x1 g2 =>
    zc (X7_isCore v1 g2) (fun x4 g5 =>
    (if x4 = 0 then
      (zc (X7_no (nI 1) g5) (fun x19 g20 =>
      some (x19, g20)))
    else
      (zc (X7_coreAt v1 (nI 3) g5) (fun x7 g8 =>
      zi x7 2766 (
      (if (g8 43 0 x7.toNatClampNeg) = (nI 1) then
        (zc (X7_ends v1 (nI 2) g8) (fun x10 g11 =>
        zc (X7_coreAt v1 (nI 0) g11) (fun x13 g14 =>
        zi x13 2766 (
        some ((g14 43 0 x13.toNatClampNeg), g14)))))
      else
        (zc (X7_no (nI 5) g8) (fun x16 g17 =>
        some (x16, g17))))))))))

def X7_isAnyLeft_l2  : Nat → Int32 → zG → Option (Int32 × zG)
  | 0, _, _ => none
  | n + 1, v1, g =>
    zi (nI 5) 6 (
    (if v1 < (g 31 0 (nI 5).toNatClampNeg) then
      (zc (X7_hasLeft v1 g) (fun x1 g2 =>
      (if x1 = 0 then
        (X7_isAnyLeft_l2  n (v1 + (nI 1)) g2)
      else
        (some ((nI 1), g2)))))
    else
      (some ((nI 0), g))))

def X7_isAnyLeft  (g : zG) : Option (Int32 × zG) :=
    X7_isAnyLeft_l2  zfuel (nI 0) g

def X7_countAll_l4  : Nat → Int32 → Int32 → Int32 → zG → Option (Int32 × zG)
  | 0, _, _, _, _ => none
  | n + 1, v1, v2, v3, g =>
    zi (nI 5) 6 (
    (if v3 < (g 31 0 (nI 5).toNatClampNeg) then
      (zc (X7_coreAt v3 ((nI 7) + v1) g) (fun x1 g2 =>
      zi x1 2766 (
      X7_countAll_l4  n v1 (v2 + (g2 43 0 x1.toNatClampNeg)) (v3 + (nI 1)) g2)))
    else
      (some (v2, g))))

def X7_countAll (v1 : Int32) (g : zG) : Option (Int32 × zG) :=
    X7_countAll_l4  zfuel v1 (nI 0) (nI 0) g

def X7_tries_l26  : Nat → Int32 → zG → Option (Int32 × zG)
  | 0, _, _ => none
  | n + 1, v4, g =>
    (if v4 < (nI 2000) then
      (zc (X7_isAnyLeft  g) (fun x1 g2 =>
      (if x1 = 0 then
        (some (0, g2))
      else
        (zc (X7_drawn  g2) (fun x4 g5 =>
        zc (X7_steps x4 g5) (fun x7 g8 =>
        X7_tries_l26  n (v4 + (nI 1)) g8))))))
    else
      (some (0, g)))

def X7_tries (v1 : Int32) (v2 : Int32) (v3 : Int32) (g : zG) : Option (Int32 × zG) :=
    zc (X7_laysAside  g) (fun x1 g2 =>
    zc (X7_begins  g2) (fun x4 g5 =>
    zw g5 35007 0 0 v1 (fun g7 =>
    zw g7 36007 0 0 v2 (fun g8 =>
    zw g8 42007 0 0 v3 (fun g9 =>
    X7_tries_l26  zfuel (nI 0) g9)))))

def X7_triedWhy_b11   (g : zG) : Option (Int32 × zG) :=
    some ((nI 1), g)

def X7_triedWhy (v1 : Int32) (v2 : Int32) (v3 : Int32) (v4 : Int32) (g : zG) : Option (Int32 × zG) :=
    (if (g 21007 0 0) = 0 then
      (X7_triedWhy_b11   g)
    else
      ((if v1 = 0 then
        (X7_triedWhy_b11   g)
      else
        (zc (X7_in v2 (nI 0) (nI 2) g) (fun x1 g2 =>
        (if x1 = 0 then
          (some ((nI 2), g2))
        else
          (zc (X7_in v3 (nI 1) (nI 9) g2) (fun x4 g5 =>
          (if x4 = 0 then
            (some ((nI 2), g5))
          else
            (zc (X7_isSeed v4 g5) (fun x7 g8 =>
            (if x7 = 0 then
              (some ((nI 2), g8))
            else
              (some ((nI 0), g8))))))))))))))

def X7_triedOf (v1 : Int32) (g : zG) : Option (Int32 × zG) :=
    (if v1 = (nI 0) then
      (zi (nI 0) 2766 (
      some ((g 43 0 (nI 0).toNatClampNeg), g)))
    else (if v1 = (nI 1) then
      (zc (X7_countAll (nI 0) g) (fun x1 g2 =>
      some (x1, g2)))
    else (if v1 = (nI 2) then
      (zc (X7_countAll (nI 1) g) (fun x4 g5 =>
      some (x4, g5)))
    else (if v1 = (nI 3) then
      (zc (X7_countAll (nI 3) g) (fun x7 g8 =>
      some (x7, g8)))
    else (if v1 = (nI 4) then
      (zc (X7_countAll (nI 5) g) (fun x10 g11 =>
      some (x10, g11)))
    else (zc (X7_countAll (nI 6) g) (fun x13 g14 =>
      some (x13, g14))))))))

def X7_triedAll_b25  (s0 : Int32) (g : zG) : Option (Int32 × zG) :=
    zc (X7_takesBack  g) (fun x1 g2 =>
    some (s0, g2))

def X7_triedAll (v1 : Int32) (v2 : Int32) (v3 : Int32) (v4 : Int32) (g : zG) : Option (Int32 × zG) :=
    zc (X7_tries v1 v2 v3 g) (fun x1 g2 =>
    zc (X7_isAnyLeft  g2) (fun x4 g5 =>
    (if x4 = 0 then
      (zc (X7_triedOf v4 g5) (fun x7 g8 =>
      X7_triedAll_b25  x7 g8))
    else
      (X7_triedAll_b25  (-2) g5))))

def X7_tried (v1 : Int32) (v2 : Int32) (v3 : Int32) (v4 : Int32) (g : zG) : Option (Int32 × zG) :=
    zc (X7_anew  g) (fun x1 g2 =>
    zc (X7_in v4 (nI 0) (nI 5) g2) (fun x4 g5 =>
    zc (X7_triedWhy x4 v1 v2 v3 g5) (fun x7 g8 =>
    (if x7 = 0 then
      (zc (X7_triedAll v1 v2 v3 v4 g8) (fun x10 g11 =>
      some (x10, g11)))
    else
      (zc (X7_no x7 g8) (fun x13 g14 =>
      some (x13, g14)))))))

def X7_triedWord (v1 : Int32) (v2 : Int32) (v3 : Int32) (v4 : Int32) (g : zG) : Option (Int32 × zG) :=
    zc (X7_anew  g) (fun x1 g2 =>
    zc (X7_isAddress v4 g2) (fun x4 g5 =>
    zc (X7_triedWhy x4 v1 v2 v3 g5) (fun x7 g8 =>
    (if x7 = 0 then
      (zc (X7_tries v1 v2 v3 g8) (fun x10 g11 =>
      zc (X7_wordNow v4 g11) (fun x13 g14 =>
      zc (X7_takesBack  g14) (fun x16 g17 =>
      some (x13, g17)))))
    else
      (zc (X7_no x7 g8) (fun x19 g20 =>
      some (x19, g20)))))))

def X7_best_b85 (k38 : Int32 → Int32 → Int32 → Int32 → zG → Option (Int32 × zG)) (v1 : Int32) (v2 : Int32) (v3 : Int32) (v4 : Int32) (g : zG) : Option (Int32 × zG) :=
    k38 v1 v2 v3 (v4 + (nI 1)) g

def X7_best_b79 (k38 : Int32 → Int32 → Int32 → Int32 → zG → Option (Int32 × zG)) (v1 : Int32) (v4 : Int32) (v5 : Int32) (g : zG) : Option (Int32 × zG) :=
    X7_best_b85 k38 v1 v4 v5 v4 g

def X7_best_l38  : Nat → Int32 → Int32 → Int32 → Int32 → zG → Option (Int32 × zG)
  | 0, _, _, _, _, _ => none
  | n + 1, v1, v2, v3, v4, g =>
    (if v4 < (nI 3) then
      (zi (nI 4) 6 (
      zc (X7_triedAll v4 (g 31 0 (nI 4).toNatClampNeg) v1 (nI 0) g) (fun x1 g2 =>
      (if x1 = (-2) then
        (X7_best_b85 (X7_best_l38  n) v1 v2 v3 v4 g2)
      else
        ((if v2 = (-2) then
          (X7_best_b79 (X7_best_l38  n) v1 v4 x1 g2)
        else
          ((if x1 < v3 then
            (X7_best_b79 (X7_best_l38  n) v1 v4 x1 g2)
          else
            (X7_best_b85 (X7_best_l38  n) v1 v2 v3 v4 g2)))))))))
    else
      (some (v2, g)))

def X7_best (v1 : Int32) (g : zG) : Option (Int32 × zG) :=
    zc (X7_anew  g) (fun x1 g2 =>
    (if (g2 21007 0 0) = 0 then
      (zc (X7_no (nI 1) g2) (fun x10 g11 =>
      some (x10, g11)))
    else
      (zc (X7_isSeed v1 g2) (fun x4 g5 =>
      (if x4 = 0 then
        (zc (X7_no (nI 2) g5) (fun x7 g8 =>
        some (x7, g8)))
      else
        (X7_best_l38  zfuel v1 (-2) (nI 0) (nI 0) g5))))))

def X7_isEnough_l9  : Nat → Int32 → zG → Option (Int32 × zG)
  | 0, _, _ => none
  | n + 1, v1, g =>
    zc (X7_hasLeft v1 g) (fun x1 g2 =>
    (if x1 = 0 then
      (zc (X7_coreAt v1 (nI 8) g2) (fun x4 g5 =>
      zi x4 2766 (
      (if (g5 43 0 x4.toNatClampNeg) = 0 then
        (some ((nI 1), g5))
      else
        (some ((nI 0), g5))))))
    else
      (zc (X7_steps v1 g2) (fun x7 g8 =>
      X7_isEnough_l9  n v1 g8))))

def X7_isEnough (v1 : Int32) (v2 : Int32) (g : zG) : Option (Int32 × zG) :=
    zc (X7_begins  g) (fun x1 g2 =>
    zw g2 37007 0 0 v2 (fun g4 =>
    X7_isEnough_l9  zfuel v1 g4))

def X7_waysFor_l24  : Nat → Int32 → Int32 → zG → Option (Int32 × zG)
  | 0, _, _, _ => none
  | n + 1, v1, v2, g =>
    zc (X7_isEnough v1 v2 g) (fun x1 g2 =>
    (if x1 = 0 then
      (X7_waysFor_l24  n v1 (v2 + (nI 1)) g2)
    else
      (zc (X7_takesBack  g2) (fun x4 g5 =>
      some (v2, g5)))))

def X7_waysFor (v1 : Int32) (g : zG) : Option (Int32 × zG) :=
    zc (X7_anew  g) (fun x1 g2 =>
    zc (X7_isCore v1 g2) (fun x4 g5 =>
    (if x4 = 0 then
      (zc (X7_no (nI 1) g5) (fun x10 g11 =>
      some (x10, g11)))
    else
      (zc (X7_laysAside  g5) (fun x7 g8 =>
      X7_waysFor_l24  zfuel v1 (nI 1) g8)))))

def X7_keep_l20  : Nat → Int32 → zG → Option (Int32 × zG)
  | 0, _, _ => none
  | n + 1, v1, g =>
    (if v1 < (nI 2766) then
      (zi v1 2766 (
      zi v1 2766 (zw g 45 0 v1.toNatClampNeg (g 43 0 v1.toNatClampNeg) (fun g2 =>
      X7_keep_l20  n (v1 + (nI 1)) g2))))
    else
      (zw g 34007 0 0 (nI 1) (fun g1 =>
      some ((nI 1), g1))))

def X7_keep  (g : zG) : Option (Int32 × zG) :=
    zc (X7_anew  g) (fun x1 g2 =>
    (if (g2 21007 0 0) = 0 then
      (zw g2 2007 0 0 (nI 1) (fun g4 =>
      some ((nI 0), g4)))
    else
      (X7_keep_l20  zfuel (nI 0) g2)))

def X7_back_l20  : Nat → Int32 → zG → Option (Int32 × zG)
  | 0, _, _ => none
  | n + 1, v1, g =>
    (if v1 < (nI 2766) then
      (zi v1 2766 (
      zi v1 2766 (zw g 43 0 v1.toNatClampNeg (g 45 0 v1.toNatClampNeg) (fun g1 =>
      X7_back_l20  n (v1 + (nI 1)) g1))))
    else
      (some ((nI 1), g)))

def X7_back  (g : zG) : Option (Int32 × zG) :=
    zc (X7_anew  g) (fun x1 g2 =>
    (if (g2 34007 0 0) = 0 then
      (zw g2 2007 0 0 (nI 1) (fun g4 =>
      some ((nI 0), g4)))
    else
      (X7_back_l20  zfuel (nI 0) g2)))

def X7_done_b44 (k9 : Int32 → Int32 → Int32 → zG → Option (Int32 × zG)) (v1 : Int32) (v2 : Int32) (v3 : Int32) (g : zG) : Option (Int32 × zG) :=
    k9 v1 v2 (v3 + (nI 1)) g

def X7_done_l9 (k50 : zG → Option (Int32 × zG)) : Nat → Int32 → Int32 → Int32 → zG → Option (Int32 × zG)
  | 0, _, _, _, _ => none
  | n + 1, v1, v2, v3, g =>
    (if (g 21007 0 0) = 0 then
      (k50  g)
    else
      (zi (nI 5) 6 (
      (if v3 < (g 31 0 (nI 5).toNatClampNeg) then
        (zc (X7_hasLeft v3 g) (fun x1 g2 =>
        (if x1 = 0 then
          ((if v2 = v1 then
            (some (v3, g2))
          else
            (X7_done_b44 (X7_done_l9 k50 n) v1 (v2 + (nI 1)) v3 g2)))
        else
          (X7_done_b44 (X7_done_l9 k50 n) v1 v2 v3 g2))))
      else
        (k50  g)))))

def X7_done_b50   (g : zG) : Option (Int32 × zG) :=
    zw g 1007 0 0 (nI 1) (fun g1 =>
    some ((nI 0), g1))

def X7_done (v1 : Int32) (g : zG) : Option (Int32 × zG) :=
    zw g 1007 0 0 (nI 0) (fun g1 =>
    X7_done_l9 (fun  g => X7_done_b50   g) zfuel v1 (nI 0) (nI 0) g1)

def X7_size_l9  : Nat → Int32 → Int32 → Int32 → zG → Option (Int32 × zG)
  | 0, _, _, _, _ => none
  | n + 1, v1, v2, v3, g =>
    (if v3 < (nI 4) then
      (zi v3 4 (
      X7_size_l9  n v1 (v2 + (g 35 0 v3.toNatClampNeg)) (v3 + (nI 1)) g))
    else
      ((if v1 = (nI 0) then
        (some ((g 6007 0 0), g))
      else (if v1 = (nI 1) then
        (some ((g 9007 0 0), g))
      else (if v1 = (nI 2) then
        (some (v2, g))
      else (if v1 = (nI 3) then
        ((if (g 34007 0 0) = 0 then
          (some ((nI 0), g))
        else
          (some ((nI 1), g))))
      else (some ((-1), g))))))))

def X7_size (v1 : Int32) (g : zG) : Option (Int32 × zG) :=
    zw g 1007 0 0 (nI 0) (fun g1 =>
    X7_size_l9  zfuel v1 (nI 0) (nI 0) g1)

def X7_trouble  (g : zG) : Option (Int32 × zG) :=
    zw g 1007 0 0 (nI 0) (fun g1 =>
    some ((g1 2007 0 0), g1))
