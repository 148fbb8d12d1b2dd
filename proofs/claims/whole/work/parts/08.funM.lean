def f_X12_in (x0 : Int32) (x1 : Int32) (x2 : Int32) : Bool :=
  if x0 < x1 then
    false
  else
    if x0 > x2 then
      false
    else
      true
def f_X12_min (x0 : Int32) (x1 : Int32) : Int32 :=
  if x0 ≥ x1 then
    x1
  else
    x0
def f_X12_has (x0 : Int32) (x1 : Int32) : Bool :=
  if ¬ ((x0 >>> (x1 &&& 31)) &&& (1 : Int32)) = (1 : Int32) then
    false
  else
    true
def S_X12_bits_4 (x0 : Int32) (p : Int32 × Int32) : Option ((Int32) ⊕ (Int32 × Int32)) := match p with
  | (x1, x2) =>
    if x2 ≥ (12 : Int32) then
      some (Sum.inl x1)
    else
      wk_let ((x1 + ((x0 >>> (x2 &&& 31)) &&& (1 : Int32))) : Int32) fun v1 =>
      some (Sum.inr (v1, (x2 + (1 : Int32))))
def f_X12_bits (x0 : Int32) : Option (Int32) :=
  Option.bind (wk_loop (S_X12_bits_4 x0) wk_F ((0 : Int32), (0 : Int32))) fun v2 =>
  some v2
def S_X12_copies_2 (k0 : Nat) (k1 : Nat) (p : Int32 × wk_St) : Option ((wk_St) ⊕ (Int32 × wk_St)) := match p with
  | (x2, s) =>
    if x2 ≥ (47 : Int32) then
      some (Sum.inl s)
    else
      if wk_in x2 47 = true then
        if wk_in x2 47 = true then
          some (Sum.inr ((x2 + (1 : Int32)), (wk_si s k1 (x2.toNatClampNeg) (s.1 k0 (x2.toNatClampNeg)))))
        else none
      else none
def f_X12_copies (k0 : Nat) (k1 : Nat) (s : wk_St) : Option (wk_St) :=
  Option.bind (wk_loop (S_X12_copies_2 k0 k1) wk_F ((0 : Int32), s)) fun v1 =>
  some v1
def f_X12_isPlace (x1 : Int32) (s : wk_St) : Bool :=
  if (f_X12_in x1 (0 : Int32) (11 : Int32)) = false then
    false
  else
    if (f_X12_has (s.1 0 4) x1) = false then
      false
    else
      true
def f_X12_isKnight (x1 : Int32) (s : wk_St) : Option (Bool) :=
  if (f_X12_in x1 (0 : Int32) (8 : Int32)) = false then
    some false
  else
    if wk_in ((0 : Int32) + x1) 47 = true then
      if ¬ (s.1 1 (((0 : Int32) + x1).toNatClampNeg)) = (1 : Int32) then
        some false
      else
        some true
    else none
def f_X12_isLiving (x1 : Int32) (s : wk_St) : Option (Bool) :=
  Option.bind (f_X12_isKnight x1 s) fun v1 =>
  if v1 = false then
    some false
  else
    if wk_in ((27 : Int32) + x1) 47 = true then
      if (s.1 1 (((27 : Int32) + x1).toNatClampNeg)) = (2 : Int32) then
        some false
      else
        some true
    else none
def f_X12_weekdayIn (x1 : Int32) (s : wk_St) : Int32 :=
  (wk_rem (((s.1 1 45) + x1) + (s.1 0 5)) (7 : Int32))
def f_X12_place (x1 : Int32) (s : wk_St) : Bool × wk_St :=
  if (f_X12_in x1 (0 : Int32) (11 : Int32)) = true then
    (true, (wk_si s 0 4 ((s.1 0 4) ||| ((1 : Int32) <<< (x1 &&& 31)))))
  else
    (false, s)
def j_X12_next_37 (x1 : Int32) (x2 : Int32) (x3 : Int32) (s_0 : Int32) (s_1 : Int32) (s : wk_St) : Option (Bool × wk_St) :=
  if wk_in s_1 12 = true then
    if x3 = 0 then
      if wk_in x2 12 = true then
        if wk_in x2 12 = true then
          some (true, (wk_si (wk_si s 4 (s_1.toNatClampNeg) s_0) 4 (x2.toNatClampNeg) (((wk_si s 4 (s_1.toNatClampNeg) s_0).1 4 (x2.toNatClampNeg)) &&& (((1 : Int32) <<< (x1 &&& 31)) ^^^ (-1 : Int32)))))
        else none
      else none
    else
      if wk_in x2 12 = true then
        if wk_in x2 12 = true then
          some (true, (wk_si (wk_si s 4 (s_1.toNatClampNeg) s_0) 4 (x2.toNatClampNeg) (((wk_si s 4 (s_1.toNatClampNeg) s_0).1 4 (x2.toNatClampNeg)) ||| ((1 : Int32) <<< (x1 &&& 31)))))
        else none
      else none
  else none
def f_X12_next (x1 : Int32) (x2 : Int32) (x3 : Int32) (s : wk_St) : Option (Bool × wk_St) :=
  if (f_X12_isPlace x1 s) = false then
    some (false, s)
  else
    if (f_X12_isPlace x2 s) = false then
      some (false, s)
    else
      if ¬ x1 = x2 then
        if x3 = 0 then
          if wk_in x1 12 = true then
            j_X12_next_37 x1 x2 x3 ((s.1 4 (x1.toNatClampNeg)) &&& (((1 : Int32) <<< (x2 &&& 31)) ^^^ (-1 : Int32))) x1 s
          else none
        else
          if wk_in x1 12 = true then
            j_X12_next_37 x1 x2 x3 ((s.1 4 (x1.toNatClampNeg)) ||| ((1 : Int32) <<< (x2 &&& 31))) x1 s
          else none
      else
        some (false, s)
def f_X12_knight (x1 : Int32) (x2 : Int32) (x3 : Int32) (s : wk_St) : Option (Bool × wk_St) :=
  if (f_X12_in x1 (0 : Int32) (8 : Int32)) = false then
    some (false, s)
  else
    if (f_X12_isPlace x2 s) = false then
      some (false, s)
    else
      if (f_X12_in x3 (0 : Int32) (127 : Int32)) = true then
        if wk_in ((0 : Int32) + x1) 47 = true then
          if wk_in ((9 : Int32) + x1) 47 = true then
            if wk_in ((18 : Int32) + x1) 47 = true then
              if wk_in ((27 : Int32) + x1) 47 = true then
                if wk_in ((36 : Int32) + x1) 47 = true then
                  some (true, (wk_si (wk_si (wk_si (wk_si (wk_si s 1 (((0 : Int32) + x1).toNatClampNeg) (1 : Int32)) 1 (((9 : Int32) + x1).toNatClampNeg) x3) 1 (((18 : Int32) + x1).toNatClampNeg) x2) 1 (((27 : Int32) + x1).toNatClampNeg) (0 : Int32)) 1 (((36 : Int32) + x1).toNatClampNeg) (-2 : Int32)))
                else none
              else none
            else none
          else none
        else none
      else
        some (false, s)
def f_X12_first (x1 : Int32) (s : wk_St) : Bool × wk_St :=
  if (f_X12_in x1 (0 : Int32) (6 : Int32)) = true then
    (true, (wk_si s 0 5 x1))
  else
    (false, s)
def S_X12_laysSteps_2 (x1 : Int32) (p : Int32 × wk_St) : Option ((wk_St) ⊕ (Int32 × wk_St)) := match p with
  | (x2, s) =>
    if x2 ≥ (12 : Int32) then
      some (Sum.inl s)
    else
      if wk_in x2 12 = true then
        some (Sum.inr ((x2 + (1 : Int32)), (wk_si s 5 (x2.toNatClampNeg) (-1 : Int32))))
      else none
def S_X12_laysSteps_31 (x3 : Int32) (p : Int32 × Int32 × wk_St) : Option ((Int32 × wk_St) ⊕ (Int32 × Int32 × wk_St)) := match p with
  | (x2, x4, s) =>
    if x4 ≥ (12 : Int32) then
      some (Sum.inl (x2, s))
    else
      if wk_in x3 12 = true then
        if wk_in (s.1 6 (x3.toNatClampNeg)) 12 = true then
          if (f_X12_has (s.1 4 ((s.1 6 (x3.toNatClampNeg)).toNatClampNeg)) x4) = false then
            some (Sum.inr (x2, (x4 + (1 : Int32)), s))
          else
            if wk_in x4 12 = true then
              if (s.1 5 (x4.toNatClampNeg)) = (-1 : Int32) then
                if wk_in x3 12 = true then
                  if wk_in (s.1 6 (x3.toNatClampNeg)) 12 = true then
                    if wk_in x4 12 = true then
                      if wk_in x2 12 = true then
                        wk_let ((x2 + (1 : Int32)) : Int32) fun v4 =>
                        some (Sum.inr (v4, (x4 + (1 : Int32)), (wk_si (wk_si s 5 (x4.toNatClampNeg) ((s.1 5 ((s.1 6 (x3.toNatClampNeg)).toNatClampNeg)) + (1 : Int32))) 6 (x2.toNatClampNeg) x4)))
                      else none
                    else none
                  else none
                else none
              else
                some (Sum.inr (x2, (x4 + (1 : Int32)), s))
            else none
        else none
      else none
def S_X12_laysSteps_26 (p : Int32 × Int32 × wk_St) : Option ((Int32 × wk_St) ⊕ (Int32 × Int32 × wk_St)) := match p with
  | (x2, x3, s) =>
    if x3 ≥ x2 then
      some (Sum.inl (x2, s))
    else
      Option.bind (wk_loop (S_X12_laysSteps_31 x3) wk_F (x2, (0 : Int32), s)) fun v5 =>
      some (Sum.inr (v5.1, (x3 + (1 : Int32)), v5.2))
def f_X12_laysSteps (x1 : Int32) (s : wk_St) : Option (Int32 × wk_St) :=
  Option.bind (wk_loop (S_X12_laysSteps_2 x1) wk_F ((0 : Int32), s)) fun v1 =>
  if wk_in x1 12 = true then
    Option.bind (wk_loop S_X12_laysSteps_26 wk_F ((1 : Int32), (0 : Int32), (wk_si (wk_si v1 5 (x1.toNatClampNeg) (0 : Int32)) 6 0 x1))) fun v8 =>
    some (v8.1, v8.2)
  else none
def f_X12_stepsBetween (x1 : Int32) (x2 : Int32) (s : wk_St) : Option (Int32 × wk_St) :=
  Option.bind (f_X12_laysSteps x1 s) fun v1 =>
  if wk_in x2 12 = true then
    some ((v1.2.1 5 (x2.toNatClampNeg)), v1.2)
  else none
def f_X12_toClothes (x1 : Int32) (x2 : Int32) (s : wk_St) : Option (Int32 × wk_St) :=
  if wk_in ((36 : Int32) + x1) 47 = true then
    if ¬ (s.1 1 (((36 : Int32) + x1).toNatClampNeg)) = (-2 : Int32) then
      if wk_in ((36 : Int32) + x1) 47 = true then
        Option.bind (f_X12_stepsBetween x2 (s.1 1 (((36 : Int32) + x1).toNatClampNeg)) s) fun v1 =>
        if ¬ v1.1 = (-1 : Int32) then
          some (v1.1, v1.2)
        else
          some ((99 : Int32), v1.2)
      else none
    else
      some ((99 : Int32), s)
  else none
def S_X12_types_2 (x1 : Int32) (p : Int32 × wk_St) : Option ((wk_St) ⊕ (Int32 × wk_St)) := match p with
  | (x2, s) =>
    if x2 < 0 then
      some (Sum.inl s)
    else
      if wk_in (s.1 0 9) 260 = true then
        some (Sum.inr ((x2 + (-1 : Int32)), (wk_si (wk_si s 7 ((s.1 0 9).toNatClampNeg) (((x1 >>> (((8 : Int32) * x2) &&& 31)).toInt8.toInt32).toInt8.toInt32)) 0 9 (((wk_si s 7 ((s.1 0 9).toNatClampNeg) (((x1 >>> (((8 : Int32) * x2) &&& 31)).toInt8.toInt32).toInt8.toInt32)).1 0 9) + (1 : Int32)))))
      else none
def f_X12_types (x1 : Int32) (s : wk_St) : Option (wk_St) :=
  Option.bind (wk_loop (S_X12_types_2 x1) wk_F ((3 : Int32), s)) fun v1 =>
  some v1
def f_X12_feed (x1 : Int32) (x2 : Int32) (x3 : Int32) (x4 : Int32) (x5 : Int32) (s : wk_St) : Option (Int32 × wk_St) :=
  if ((s.1 0 9) + (20 : Int32)) ≤ (260 : Int32) then
    Option.bind (f_X12_types x1 s) fun v1 =>
    Option.bind (f_X12_types x2 v1) fun v2 =>
    Option.bind (f_X12_types x3 v2) fun v3 =>
    Option.bind (f_X12_types x4 v3) fun v4 =>
    Option.bind (f_X12_types x5 v4) fun v5 =>
    some ((v5.1 0 9), v5)
  else
    some ((-1 : Int32), s)
def f_X12_octet (x1 : Int32) (s : wk_St) : Option (Int32) :=
  if wk_in x1 260 = true then
    some ((s.1 7 (x1.toNatClampNeg)) &&& (255 : Int32))
  else none
def f_X12_here (s : wk_St) : Option (Int32) :=
  if (s.1 0 10) ≥ (s.1 0 11) then
    some (-1 : Int32)
  else
    if wk_in (s.1 0 10) 260 = true then
      some ((s.1 7 ((s.1 0 10).toNatClampNeg)) &&& (255 : Int32))
    else none
def f_X12_isDigit (s : wk_St) : Option (Bool) :=
  Option.bind (f_X12_here s) fun v1 =>
  if v1 < (48 : Int32) then
    some false
  else
    Option.bind (f_X12_here s) fun v2 =>
    if v2 > (57 : Int32) then
      some false
    else
      some true
def f_X12_wrongAt (x1 : Int32) (x2 : Int32) (s : wk_St) : Bool × wk_St :=
  (false, (wk_si s 0 12 (((-1000 : Int32) * x1) - x2)))
def f_X12_takes (x1 : Int32) (s : wk_St) : Option (Bool × wk_St) :=
  Option.bind (f_X12_here s) fun v1 =>
  if v1 = x1 then
    some (true, (wk_si s 0 10 ((s.1 0 10) + (1 : Int32))))
  else
    wk_let (f_X12_wrongAt (1 : Int32) (s.1 0 10) s) fun v2 =>
    some (v2.1, v2.2)
def S_X12_readsNumber_6 (x1 : Int32) (s : wk_St) : Option (((Bool × wk_St) ⊕ (wk_St)) ⊕ (wk_St)) :=
  Option.bind (f_X12_isDigit s) fun v1 =>
  if v1 = false then
    some (Sum.inl (Sum.inr s))
  else
    if ¬ (s.1 0 10) = (x1 + (5 : Int32)) then
      Option.bind (f_X12_here s) fun v2 =>
      some (Sum.inr (wk_si (wk_si s 0 13 ((((10 : Int32) * (s.1 0 13)) + v2) - (48 : Int32))) 0 10 (((wk_si s 0 13 ((((10 : Int32) * (s.1 0 13)) + v2) - (48 : Int32))).1 0 10) + (1 : Int32))))
    else
      wk_let (f_X12_wrongAt (2 : Int32) (s.1 0 10) s) fun v3 =>
      some (Sum.inl (Sum.inl (v3.1, v3.2)))
def f_X12_readsNumber (s : wk_St) : Option (Bool × wk_St) :=
  Option.bind (wk_loop (S_X12_readsNumber_6 (s.1 0 10)) wk_F (wk_si s 0 13 (0 : Int32))) fun v4 =>
  match v4 with
  | Sum.inl v4r => some v4r
  | Sum.inr v4 =>
    some (true, v4)
def f_X12_notes (x1 : Int32) (x2 : Int32) (s : wk_St) : Option (wk_St) :=
  if wk_in (s.1 0 15) 260 = true then
    some (wk_si (wk_si s 8 ((s.1 0 15).toNatClampNeg) (((1048576 : Int32) * x1) + x2)) 0 15 (((wk_si s 8 ((s.1 0 15).toNatClampNeg) (((1048576 : Int32) * x1) + x2)).1 0 15) + (1 : Int32)))
  else none
def f_X12_opens (x1 : Int32) (s : wk_St) : Option (Bool × wk_St) :=
  if ¬ (s.1 0 14) = (6 : Int32) then
    if wk_in ((wk_si s 0 14 ((s.1 0 14) + (1 : Int32))).1 0 16) 260 = true then
      some (true, (wk_si (wk_si (wk_si (wk_si s 0 14 ((s.1 0 14) + (1 : Int32))) 9 (((wk_si s 0 14 ((s.1 0 14) + (1 : Int32))).1 0 16).toNatClampNeg) ((1048576 : Int32) * x1)) 0 16 (((wk_si (wk_si s 0 14 ((s.1 0 14) + (1 : Int32))) 9 (((wk_si s 0 14 ((s.1 0 14) + (1 : Int32))).1 0 16).toNatClampNeg) ((1048576 : Int32) * x1)).1 0 16) + (1 : Int32))) 0 10 (((wk_si (wk_si (wk_si s 0 14 ((s.1 0 14) + (1 : Int32))) 9 (((wk_si s 0 14 ((s.1 0 14) + (1 : Int32))).1 0 16).toNatClampNeg) ((1048576 : Int32) * x1)) 0 16 (((wk_si (wk_si s 0 14 ((s.1 0 14) + (1 : Int32))) 9 (((wk_si s 0 14 ((s.1 0 14) + (1 : Int32))).1 0 16).toNatClampNeg) ((1048576 : Int32) * x1)).1 0 16) + (1 : Int32))).1 0 10) + (1 : Int32))))
    else none
  else
    wk_let (f_X12_wrongAt (5 : Int32) (s.1 0 10) s) fun v1 =>
    some (v1.1, v1.2)
def f_X12_waitTop (s : wk_St) : Option (Int32) :=
  if ¬ (s.1 0 16) = 0 then
    if wk_in ((s.1 0 16) - (1 : Int32)) 260 = true then
      some ((s.1 9 (((s.1 0 16) - (1 : Int32)).toNatClampNeg)) / (1048576 : Int32))
    else none
  else
    some (-1 : Int32)
def j_X12_factOf_18 : Int32 :=
  (-1 : Int32)
def f_X12_factOf (x0 : Int32) : Int32 :=
  if x0 = (102 : Int32) then
    (4 : Int32)
  else
  if x0 = (106 : Int32) then
    (3 : Int32)
  else
  if x0 = (107 : Int32) then
    (0 : Int32)
  else
  if x0 = (110 : Int32) then
    (2 : Int32)
  else
  if x0 = (111 : Int32) then
    (5 : Int32)
  else
  if x0 = (112 : Int32) then
    (1 : Int32)
  else
  if x0 = (116 : Int32) then
    (7 : Int32)
  else
  if x0 = (119 : Int32) then
    (6 : Int32)
  else
  j_X12_factOf_18
def f_X12_sumSign (x0 : Int32) : Int32 :=
  if ¬ x0 = (43 : Int32) then
    if ¬ x0 = (45 : Int32) then
      if ¬ x0 = (42 : Int32) then
        if ¬ x0 = (47 : Int32) then
          if ¬ x0 = (37 : Int32) then
            (-1 : Int32)
          else
            (6 : Int32)
        else
          (5 : Int32)
      else
        (4 : Int32)
    else
      (3 : Int32)
  else
    (2 : Int32)
def j_X12_closesSums_18_l0 (x1 : Int32) (s : wk_St) : Option ((wk_St) ⊕ (wk_St)) :=
  Option.bind (f_X12_waitTop s) fun v3 =>
  Option.bind (f_X12_notes v3 (0 : Int32) s) fun v4 =>
  some (Sum.inr (wk_si v4 0 16 ((v4.1 0 16) - (1 : Int32))))
def j_X12_closesSums_8_l0 (x1 : Int32) (s : wk_St) : Option ((wk_St) ⊕ (wk_St)) :=
  if x1 = 0 then
    some (Sum.inl s)
  else
    Option.bind (f_X12_waitTop s) fun v2 =>
    if v2 = (2 : Int32) then
      j_X12_closesSums_18_l0 x1 s
    else
      Option.bind (f_X12_waitTop s) fun v5 =>
      if ¬ v5 = (3 : Int32) then
        some (Sum.inl s)
      else
        j_X12_closesSums_18_l0 x1 s
def S_X12_closesSums_0 (x1 : Int32) (s : wk_St) : Option ((wk_St) ⊕ (wk_St)) :=
  Option.bind (f_X12_waitTop s) fun v1 =>
  if v1 < (4 : Int32) then
    j_X12_closesSums_8_l0 x1 s
  else
    Option.bind (f_X12_waitTop s) fun v6 =>
    if v6 ≤ (6 : Int32) then
      j_X12_closesSums_18_l0 x1 s
    else
      j_X12_closesSums_8_l0 x1 s
def f_X12_closesSums (x1 : Int32) (s : wk_St) : Option (wk_St) :=
  Option.bind (wk_loop (S_X12_closesSums_0 x1) wk_F s) fun v7 =>
  some v7
def S_X12_readsFactor_0 (s : wk_St) : Option (((Bool × wk_St) ⊕ (wk_St)) ⊕ (wk_St)) :=
  Option.bind (f_X12_here s) fun v1 =>
  if ¬ v1 = (91 : Int32) then
    some (Sum.inl (Sum.inr s))
  else
    Option.bind (f_X12_opens (14 : Int32) s) fun v2 =>
    if v2.1 = true then
      some (Sum.inr v2.2)
    else
      some (Sum.inl (Sum.inl (false, v2.2)))
def f_X12_readsFactor (s : wk_St) : Option (Bool × wk_St) :=
  Option.bind (wk_loop S_X12_readsFactor_0 wk_F s) fun v3 =>
  match v3 with
  | Sum.inl v3r => some v3r
  | Sum.inr v3 =>
    Option.bind (f_X12_isDigit v3) fun v4 =>
    if v4 = false then
      Option.bind (f_X12_here v3) fun v5 =>
      wk_let ((f_X12_factOf v5) : Int32) fun v7 =>
      if ¬ v7 = (-1 : Int32) then
        Option.bind (f_X12_notes (1 : Int32) v7 v3) fun v8 =>
        some (true, (wk_si v8 0 10 ((v8.1 0 10) + (1 : Int32))))
      else
        wk_let (f_X12_wrongAt (1 : Int32) (v3.1 0 10) v3) fun v9 =>
        some (v9.1, v9.2)
    else
      Option.bind (f_X12_readsNumber v3) fun v10 =>
      if v10.1 = true then
        Option.bind (f_X12_notes (0 : Int32) (v10.2.1 0 13) v10.2) fun v11 =>
        some (true, v11)
      else
        some (false, v10.2)
def S_X12_hasOpenSum_2 (s : wk_St) (x2 : Int32) : Option (((Bool) ⊕ (Unit)) ⊕ (Int32)) :=
  if x2 ≥ (s.1 0 16) then
    some (Sum.inl (Sum.inr ()))
  else
    if wk_in x2 260 = true then
      if ¬ ((s.1 9 (x2.toNatClampNeg)) / (1048576 : Int32)) = (14 : Int32) then
        some (Sum.inr (x2 + (1 : Int32)))
      else
        some (Sum.inl (Sum.inl true))
    else none
def f_X12_hasOpenSum (x1 : Int32) (s : wk_St) : Option (Bool) :=
  Option.bind (wk_loop (S_X12_hasOpenSum_2 s) wk_F x1) fun v1 =>
  match v1 with
  | Sum.inl v1r => some v1r
  | Sum.inr v1 =>
    some false
def j_X12_readsSum_78_l8 (x1 : Int32) (s : wk_St) : Option ((Bool × wk_St) ⊕ (wk_St)) :=
  Option.bind (f_X12_hasOpenSum x1 s) fun v6 =>
  if v6 = false then
    Option.bind (f_X12_closesSums (1 : Int32) s) fun v7 =>
    some (Sum.inl (true, v7))
  else
    wk_let (f_X12_wrongAt (1 : Int32) (s.1 0 10) s) fun v8 =>
    some (Sum.inl (v8.1, v8.2))
def j_X12_readsSum_22_l8 (x1 : Int32) (x2 : Int32) (s_0 : Int32) (s : wk_St) : Option ((Bool × wk_St) ⊕ (wk_St)) :=
  Option.bind (f_X12_closesSums s_0 s) fun v11 =>
  if wk_in (v11.1 0 16) 260 = true then
    Option.bind (f_X12_readsFactor (wk_si (wk_si (wk_si v11 9 ((v11.1 0 16).toNatClampNeg) ((1048576 : Int32) * x2)) 0 16 (((wk_si v11 9 ((v11.1 0 16).toNatClampNeg) ((1048576 : Int32) * x2)).1 0 16) + (1 : Int32))) 0 10 (((wk_si (wk_si v11 9 ((v11.1 0 16).toNatClampNeg) ((1048576 : Int32) * x2)) 0 16 (((wk_si v11 9 ((v11.1 0 16).toNatClampNeg) ((1048576 : Int32) * x2)).1 0 16) + (1 : Int32))).1 0 10) + (1 : Int32)))) fun v12 =>
    if v12.1 = true then
      some (Sum.inr v12.2)
    else
      some (Sum.inl (false, v12.2))
  else none
def S_X12_readsSum_8 (x1 : Int32) (s : wk_St) : Option ((Bool × wk_St) ⊕ (wk_St)) :=
  Option.bind (f_X12_here s) fun v2 =>
  wk_let ((f_X12_sumSign v2) : Int32) fun v4 =>
  if v4 = (-1 : Int32) then
    Option.bind (f_X12_here s) fun v5 =>
    if ¬ v5 = (93 : Int32) then
      j_X12_readsSum_78_l8 x1 s
    else
      Option.bind (f_X12_hasOpenSum x1 s) fun v9 =>
      if v9 = false then
        j_X12_readsSum_78_l8 x1 s
      else
        Option.bind (f_X12_closesSums (1 : Int32) s) fun v10 =>
        some (Sum.inr (wk_si (wk_si (wk_si v10 0 16 ((v10.1 0 16) - (1 : Int32))) 0 14 (((wk_si v10 0 16 ((v10.1 0 16) - (1 : Int32))).1 0 14) - (1 : Int32))) 0 10 (((wk_si (wk_si v10 0 16 ((v10.1 0 16) - (1 : Int32))) 0 14 (((wk_si v10 0 16 ((v10.1 0 16) - (1 : Int32))).1 0 14) - (1 : Int32))).1 0 10) + (1 : Int32))))
  else
    if v4 ≥ (4 : Int32) then
      j_X12_readsSum_22_l8 x1 v4 (0 : Int32) s
    else
      j_X12_readsSum_22_l8 x1 v4 (1 : Int32) s
def f_X12_readsSum (s : wk_St) : Option (Bool × wk_St) :=
  Option.bind (f_X12_readsFactor s) fun v1 =>
  if v1.1 = true then
    Option.bind (wk_loop (S_X12_readsSum_8 (s.1 0 16)) wk_F v1.2) fun v13 =>
    some v13
  else
    some (false, v1.2)
def S_X12_endsPiece_0 (s : wk_St) : Option ((wk_St) ⊕ (wk_St)) :=
  Option.bind (f_X12_waitTop s) fun v1 =>
  if ¬ v1 = (10 : Int32) then
    some (Sum.inl s)
  else
    Option.bind (f_X12_notes (10 : Int32) (0 : Int32) s) fun v2 =>
    some (Sum.inr (wk_si (wk_si v2 0 16 ((v2.1 0 16) - (1 : Int32))) 0 14 (((wk_si v2 0 16 ((v2.1 0 16) - (1 : Int32))).1 0 14) - (1 : Int32))))
def f_X12_endsPiece (s : wk_St) : Option (wk_St) :=
  Option.bind (wk_loop S_X12_endsPiece_0 wk_F s) fun v3 =>
  some v3
def j_X12_lands_10_l0 (x1 : Int32) (s : wk_St) : Option ((wk_St) ⊕ (wk_St)) :=
  if wk_in ((s.1 0 16) - (1 : Int32)) 260 = true then
    wk_let ((wk_rem (s.1 9 (((s.1 0 16) - (1 : Int32)).toNatClampNeg)) (1048576 : Int32)) : Int32) fun v2 =>
    if wk_in v2 260 = true then
      if wk_in v2 260 = true then
        some (Sum.inr (wk_si (wk_si s 8 (v2.toNatClampNeg) (((1048576 : Int32) * ((s.1 8 (v2.toNatClampNeg)) / (1048576 : Int32))) + (s.1 0 15))) 0 16 (((wk_si s 8 (v2.toNatClampNeg) (((1048576 : Int32) * ((s.1 8 (v2.toNatClampNeg)) / (1048576 : Int32))) + (s.1 0 15))).1 0 16) - (1 : Int32))))
      else none
    else none
  else none
def S_X12_lands_0 (x1 : Int32) (s : wk_St) : Option ((wk_St) ⊕ (wk_St)) :=
  Option.bind (f_X12_waitTop s) fun v1 =>
  if v1 = (11 : Int32) then
    j_X12_lands_10_l0 x1 s
  else
    if x1 = 0 then
      some (Sum.inl s)
    else
      Option.bind (f_X12_waitTop s) fun v3 =>
      if ¬ v3 = (12 : Int32) then
        some (Sum.inl s)
      else
        j_X12_lands_10_l0 x1 s
def f_X12_lands (x1 : Int32) (s : wk_St) : Option (wk_St) :=
  Option.bind (wk_loop (S_X12_lands_0 x1) wk_F s) fun v4 =>
  some v4
def f_X12_jumps (x1 : Int32) (s : wk_St) : Option (wk_St) :=
  if wk_in (s.1 0 16) 260 = true then
    Option.bind (f_X12_notes x1 (0 : Int32) (wk_si (wk_si s 9 ((s.1 0 16).toNatClampNeg) (((1048576 : Int32) * x1) + (s.1 0 15))) 0 16 (((wk_si s 9 ((s.1 0 16).toNatClampNeg) (((1048576 : Int32) * x1) + (s.1 0 15))).1 0 16) + (1 : Int32)))) fun v1 =>
    some (wk_si v1 0 10 ((v1.1 0 10) + (1 : Int32)))
  else none
def j_X12_readsCompared_24 (s_0 : Int32) (s : wk_St) : Option (Bool × wk_St) :=
  if ¬ s_0 = (-1 : Int32) then
    Option.bind (f_X12_readsSum (wk_si s 0 10 ((s.1 0 10) + (1 : Int32)))) fun v5 =>
    if v5.1 = true then
      Option.bind (f_X12_notes s_0 (0 : Int32) v5.2) fun v6 =>
      Option.bind (f_X12_endsPiece v6) fun v7 =>
      some (true, v7)
    else
      some (false, v5.2)
  else
    wk_let (f_X12_wrongAt (1 : Int32) (s.1 0 10) s) fun v8 =>
    some (v8.1, v8.2)
def f_X12_readsCompared (s : wk_St) : Option (Bool × wk_St) :=
  Option.bind (f_X12_readsSum s) fun v1 =>
  if v1.1 = true then
    Option.bind (f_X12_here v1.2) fun v2 =>
    if ¬ v2 = (60 : Int32) then
      Option.bind (f_X12_here v1.2) fun v3 =>
      if ¬ v3 = (62 : Int32) then
        Option.bind (f_X12_here v1.2) fun v4 =>
        if ¬ v4 = (61 : Int32) then
          j_X12_readsCompared_24 (-1 : Int32) v1.2
        else
          j_X12_readsCompared_24 (9 : Int32) v1.2
      else
        j_X12_readsCompared_24 (8 : Int32) v1.2
    else
      j_X12_readsCompared_24 (7 : Int32) v1.2
  else
    some (false, v1.2)
def j_X12_readsCondition_30_l22 (s : wk_St) : Option ((Bool × wk_St) ⊕ (wk_St)) :=
  Option.bind (f_X12_here s) fun v4 =>
  if ¬ v4 = (33 : Int32) then
    Option.bind (f_X12_opens (13 : Int32) s) fun v5 =>
    if v5.1 = true then
      some (Sum.inr v5.2)
    else
      some (Sum.inl (false, v5.2))
  else
    Option.bind (f_X12_opens (10 : Int32) s) fun v6 =>
    if v6.1 = true then
      some (Sum.inr v6.2)
    else
      some (Sum.inl (false, v6.2))
def S_X12_readsCondition_47 (s : wk_St) : Option (((Bool × wk_St) ⊕ (wk_St)) ⊕ (wk_St)) :=
  Option.bind (f_X12_here s) fun v9 =>
  if ¬ v9 = (41 : Int32) then
    some (Sum.inl (Sum.inr s))
  else
    Option.bind (f_X12_lands (1 : Int32) s) fun v10 =>
    if ¬ ((wk_si (wk_si (wk_si v10 0 16 ((v10.1 0 16) - (1 : Int32))) 0 14 (((wk_si v10 0 16 ((v10.1 0 16) - (1 : Int32))).1 0 14) - (1 : Int32))) 0 10 (((wk_si (wk_si v10 0 16 ((v10.1 0 16) - (1 : Int32))) 0 14 (((wk_si v10 0 16 ((v10.1 0 16) - (1 : Int32))).1 0 14) - (1 : Int32))).1 0 10) + (1 : Int32))).1 0 16) = 0 then
      Option.bind (f_X12_endsPiece (wk_si (wk_si (wk_si v10 0 16 ((v10.1 0 16) - (1 : Int32))) 0 14 (((wk_si v10 0 16 ((v10.1 0 16) - (1 : Int32))).1 0 14) - (1 : Int32))) 0 10 (((wk_si (wk_si v10 0 16 ((v10.1 0 16) - (1 : Int32))) 0 14 (((wk_si v10 0 16 ((v10.1 0 16) - (1 : Int32))).1 0 14) - (1 : Int32))).1 0 10) + (1 : Int32)))) fun v11 =>
      some (Sum.inr v11)
    else
      some (Sum.inl (Sum.inl (true, (wk_si (wk_si (wk_si v10 0 16 ((v10.1 0 16) - (1 : Int32))) 0 14 (((wk_si v10 0 16 ((v10.1 0 16) - (1 : Int32))).1 0 14) - (1 : Int32))) 0 10 (((wk_si (wk_si v10 0 16 ((v10.1 0 16) - (1 : Int32))) 0 14 (((wk_si v10 0 16 ((v10.1 0 16) - (1 : Int32))).1 0 14) - (1 : Int32))).1 0 10) + (1 : Int32))))))
def j_X12_readsCondition_102_l22 (s_0 : Int32) (s : wk_St) : Option ((Bool × wk_St) ⊕ (wk_St)) :=
  Option.bind (f_X12_lands s_0 s) fun v15 =>
  Option.bind (f_X12_here v15) fun v16 =>
  if ¬ v16 = (38 : Int32) then
    Option.bind (f_X12_jumps (12 : Int32) v15) fun v17 =>
    some (Sum.inr v17)
  else
    Option.bind (f_X12_jumps (11 : Int32) v15) fun v18 =>
    some (Sum.inr v18)
def S_X12_readsCondition_22 (s : wk_St) : Option ((Bool × wk_St) ⊕ (wk_St)) :=
  Option.bind (f_X12_here s) fun v3 =>
  if v3 = (33 : Int32) then
    j_X12_readsCondition_30_l22 s
  else
    Option.bind (f_X12_here s) fun v7 =>
    if ¬ v7 = (40 : Int32) then
      Option.bind (f_X12_readsCompared s) fun v8 =>
      if v8.1 = true then
        Option.bind (wk_loop S_X12_readsCondition_47 wk_F v8.2) fun v12 =>
        match v12 with
        | Sum.inl v12r => some (Sum.inl v12r)
        | Sum.inr v12 =>
          Option.bind (f_X12_here v12) fun v13 =>
          if v13 = (38 : Int32) then
            Option.bind (f_X12_here v12) fun v14 =>
            if ¬ v14 = (124 : Int32) then
              j_X12_readsCondition_102_l22 (0 : Int32) v12
            else
              j_X12_readsCondition_102_l22 (1 : Int32) v12
          else
            Option.bind (f_X12_here v12) fun v19 =>
            if v19 = (124 : Int32) then
              Option.bind (f_X12_here v12) fun v20 =>
              if ¬ v20 = (124 : Int32) then
                j_X12_readsCondition_102_l22 (0 : Int32) v12
              else
                j_X12_readsCondition_102_l22 (1 : Int32) v12
            else
              wk_let (f_X12_wrongAt (1 : Int32) (v12.1 0 10) v12) fun v21 =>
              some (Sum.inl (v21.1, v21.2))
      else
        some (Sum.inl (false, v8.2))
    else
      j_X12_readsCondition_30_l22 s
def f_X12_readsCondition (s : wk_St) : Option (Bool × wk_St) :=
  Option.bind (f_X12_here s) fun v1 =>
  if v1 = (40 : Int32) then
    Option.bind (f_X12_opens (13 : Int32) (wk_si (wk_si s 0 14 (0 : Int32)) 0 16 (0 : Int32))) fun v2 =>
    if v2.1 = true then
      Option.bind (wk_loop S_X12_readsCondition_22 wk_F v2.2) fun v22 =>
      some v22
    else
      some (false, v2.2)
  else
    wk_let (f_X12_wrongAt (1 : Int32) (s.1 0 10) s) fun v23 =>
    some (v23.1, v23.2)
def j_X12_readsRule_61 (s : wk_St) : Option (Bool × wk_St) :=
  if wk_in (s.1 0 17) 16 = true then
    Option.bind (f_X12_readsCondition (wk_si s 12 ((s.1 0 17).toNatClampNeg) (s.1 0 15))) fun v2 =>
    if v2.1 = true then
      if wk_in (v2.2.1 0 17) 16 = true then
        some (true, (wk_si (wk_si v2.2 13 ((v2.2.1 0 17).toNatClampNeg) (v2.2.1 0 15)) 0 17 (((wk_si v2.2 13 ((v2.2.1 0 17).toNatClampNeg) (v2.2.1 0 15)).1 0 17) + (1 : Int32))))
      else none
    else
      some (false, v2.2)
  else none
def j_X12_readsRule_18 (x1 : Int32) (s : wk_St) : Option (Bool × wk_St) :=
  if ¬ (s.1 0 17) = (16 : Int32) then
    if wk_in (s.1 0 17) 16 = true then
      if wk_in ((wk_si (wk_si s 10 ((s.1 0 17).toNatClampNeg) x1) 0 10 (((wk_si s 10 ((s.1 0 17).toNatClampNeg) x1).1 0 10) + (1 : Int32))).1 0 17) 16 = true then
        if x1 = (115 : Int32) then
          j_X12_readsRule_61 (wk_si (wk_si (wk_si (wk_si (wk_si s 10 ((s.1 0 17).toNatClampNeg) x1) 0 10 (((wk_si s 10 ((s.1 0 17).toNatClampNeg) x1).1 0 10) + (1 : Int32))) 11 (((wk_si (wk_si s 10 ((s.1 0 17).toNatClampNeg) x1) 0 10 (((wk_si s 10 ((s.1 0 17).toNatClampNeg) x1).1 0 10) + (1 : Int32))).1 0 17).toNatClampNeg) ((wk_si (wk_si s 10 ((s.1 0 17).toNatClampNeg) x1) 0 10 (((wk_si s 10 ((s.1 0 17).toNatClampNeg) x1).1 0 10) + (1 : Int32))).1 0 15)) 0 14 (0 : Int32)) 0 16 (0 : Int32))
        else
          Option.bind (f_X12_readsSum (wk_si (wk_si (wk_si (wk_si (wk_si s 10 ((s.1 0 17).toNatClampNeg) x1) 0 10 (((wk_si s 10 ((s.1 0 17).toNatClampNeg) x1).1 0 10) + (1 : Int32))) 11 (((wk_si (wk_si s 10 ((s.1 0 17).toNatClampNeg) x1) 0 10 (((wk_si s 10 ((s.1 0 17).toNatClampNeg) x1).1 0 10) + (1 : Int32))).1 0 17).toNatClampNeg) ((wk_si (wk_si s 10 ((s.1 0 17).toNatClampNeg) x1) 0 10 (((wk_si s 10 ((s.1 0 17).toNatClampNeg) x1).1 0 10) + (1 : Int32))).1 0 15)) 0 14 (0 : Int32)) 0 16 (0 : Int32))) fun v3 =>
          if v3.1 = true then
            j_X12_readsRule_61 v3.2
          else
            some (false, v3.2)
      else none
    else none
  else
    wk_let (f_X12_wrongAt (4 : Int32) (s.1 0 10) s) fun v4 =>
    some (v4.1, v4.2)
def f_X12_readsRule (s : wk_St) : Option (Bool × wk_St) :=
  Option.bind (f_X12_here s) fun v1 =>
  if v1 = (101 : Int32) then
    j_X12_readsRule_18 v1 s
  else
    if v1 = (104 : Int32) then
      j_X12_readsRule_18 v1 s
    else
      if v1 = (115 : Int32) then
        j_X12_readsRule_18 v1 s
      else
        wk_let (f_X12_wrongAt (1 : Int32) (s.1 0 10) s) fun v5 =>
        some (v5.1, v5.2)
def f_X12_beginsText (x1 : Int32) (s : wk_St) : wk_St :=
  (wk_si (wk_si (wk_si (wk_si s 0 10 (0 : Int32)) 0 11 x1) 0 15 (0 : Int32)) 0 17 (0 : Int32))
def S_X12_law_17 (p : Int32 × wk_St) : Option ((Int32 × wk_St) ⊕ (Int32 × wk_St)) := match p with
  | (x2, s) =>
    if x2 = 0 then
      some (Sum.inl (x2, s))
    else
      if (s.1 0 10) ≥ (s.1 0 11) then
        some (Sum.inl (x2, s))
      else
        Option.bind (f_X12_takes (59 : Int32) s) fun v4 =>
        if v4.1 = false then
          some (Sum.inr ((0 : Int32), v4.2))
        else
          Option.bind (f_X12_readsRule v4.2) fun v5 =>
          if v5.1 = false then
            some (Sum.inr ((0 : Int32), v5.2))
          else
            some (Sum.inr ((1 : Int32), v5.2))
def S_X12_law_50 (p : Int32 × wk_St) : Option ((wk_St) ⊕ (Int32 × wk_St)) := match p with
  | (x3, s) =>
    if x3 ≥ (s.1 0 15) then
      some (Sum.inl s)
    else
      if wk_in x3 260 = true then
        if wk_in x3 260 = true then
          some (Sum.inr ((x3 + (1 : Int32)), (wk_si s 14 (x3.toNatClampNeg) (s.1 8 (x3.toNatClampNeg)))))
        else none
      else none
def S_X12_law_66 (p : Int32 × wk_St) : Option ((wk_St) ⊕ (Int32 × wk_St)) := match p with
  | (x3, s) =>
    if x3 ≥ (s.1 0 17) then
      some (Sum.inl s)
    else
      if wk_in x3 16 = true then
        if wk_in x3 16 = true then
          if wk_in x3 16 = true then
            if wk_in x3 16 = true then
              if wk_in x3 16 = true then
                if wk_in x3 16 = true then
                  if wk_in x3 16 = true then
                    if wk_in x3 16 = true then
                      some (Sum.inr ((x3 + (1 : Int32)), (wk_si (wk_si (wk_si (wk_si s 15 (x3.toNatClampNeg) (s.1 10 (x3.toNatClampNeg))) 16 (x3.toNatClampNeg) ((wk_si s 15 (x3.toNatClampNeg) (s.1 10 (x3.toNatClampNeg))).1 11 (x3.toNatClampNeg))) 17 (x3.toNatClampNeg) ((wk_si (wk_si s 15 (x3.toNatClampNeg) (s.1 10 (x3.toNatClampNeg))) 16 (x3.toNatClampNeg) ((wk_si s 15 (x3.toNatClampNeg) (s.1 10 (x3.toNatClampNeg))).1 11 (x3.toNatClampNeg))).1 12 (x3.toNatClampNeg))) 18 (x3.toNatClampNeg) ((wk_si (wk_si (wk_si s 15 (x3.toNatClampNeg) (s.1 10 (x3.toNatClampNeg))) 16 (x3.toNatClampNeg) ((wk_si s 15 (x3.toNatClampNeg) (s.1 10 (x3.toNatClampNeg))).1 11 (x3.toNatClampNeg))) 17 (x3.toNatClampNeg) ((wk_si (wk_si s 15 (x3.toNatClampNeg) (s.1 10 (x3.toNatClampNeg))) 16 (x3.toNatClampNeg) ((wk_si s 15 (x3.toNatClampNeg) (s.1 10 (x3.toNatClampNeg))).1 11 (x3.toNatClampNeg))).1 12 (x3.toNatClampNeg))).1 13 (x3.toNatClampNeg)))))
                    else none
                  else none
                else none
              else none
            else none
          else none
        else none
      else none
def j_X12_law_36 (x2 : Int32) (s : wk_St) : Option (Int32 × wk_St) :=
  if ¬ x2 = 0 then
    Option.bind (wk_loop S_X12_law_50 wk_F ((0 : Int32), (wk_si (wk_si s 0 9 (0 : Int32)) 0 18 ((wk_si s 0 9 (0 : Int32)).1 0 17)))) fun v8 =>
    Option.bind (wk_loop S_X12_law_66 wk_F ((0 : Int32), v8)) fun v11 =>
    some ((v11.1 0 17), v11)
  else
    some (((wk_si s 0 9 (0 : Int32)).1 0 12), (wk_si s 0 9 (0 : Int32)))
def f_X12_law (x1 : Int32) (s : wk_St) : Option (Int32 × wk_St) :=
  if (f_X12_in x1 (1 : Int32) (240 : Int32)) = false then
    some ((-1 : Int32), s)
  else
    if x1 ≤ (s.1 0 9) then
      wk_let (f_X12_beginsText x1 s) fun v2 =>
      Option.bind (f_X12_readsRule v2) fun v3 =>
      Option.bind (wk_loop S_X12_law_17 wk_F ((b2i v3.1), v3.2)) fun v6 =>
      j_X12_law_36 v6.1 v6.2
    else
      some ((-1 : Int32), s)
def f_X12_reckon (x0 : Int32) (x1 : Int32) (x2 : Int32) : Option (Int32) :=
  if x0 = (2 : Int32) then
    some (x1 + x2)
  else
  if x0 = (3 : Int32) then
    some (x1 - x2)
  else
  if x0 = (4 : Int32) then
    some (x1 * x2)
  else
  if x0 = (5 : Int32) then
    if x2 = 0 then none else
    some (x1 / x2)
  else
  if x0 = (6 : Int32) then
    if x2 = 0 then none else
    some (wk_rem x1 x2)
  else
  if x0 = (7 : Int32) then
    if x1 ≥ x2 then
      some (0 : Int32)
    else
      some (1 : Int32)
  else
  if x0 = (8 : Int32) then
    if x1 ≤ x2 then
      some (0 : Int32)
    else
      some (1 : Int32)
  else
  if ¬ x1 = x2 then
    some (0 : Int32)
  else
    some (1 : Int32)
def j_X12_comesTo_36_l10 (x2 : Int32) (x3 : Int32) (x4 : Int32) (x5 : Int32) (x6 : Int32) (x7 : Int32) (s : wk_St) : Option (((Int32 × wk_St) ⊕ (wk_St)) ⊕ (Int32 × Int32 × wk_St)) :=
  if ¬ x6 = 0 then
    if wk_in x7 8 = true then
      if wk_in x3 260 = true then
        wk_let ((x3 + (1 : Int32)) : Int32) fun v5 =>
        some (Sum.inr (v5, x5, (wk_si s 19 (x3.toNatClampNeg) (s.1 20 (x7.toNatClampNeg)))))
      else none
    else none
  else
    if wk_in x3 260 = true then
      wk_let ((x3 + (1 : Int32)) : Int32) fun v6 =>
      some (Sum.inr (v6, x5, (wk_si s 19 (x3.toNatClampNeg) x7)))
    else none
def j_X12_comesTo_89_l10 (x2 : Int32) (x3 : Int32) (x4 : Int32) (x5 : Int32) (x7 : Int32) (s_0 : Int32) (s_1 : Int32) (s : wk_St) : Option (((Int32 × wk_St) ⊕ (wk_St)) ⊕ (Int32 × Int32 × wk_St)) :=
  if ¬ s_1 = s_0 then
    wk_let ((x3 - (1 : Int32)) : Int32) fun v7 =>
    some (Sum.inr (v7, x5, s))
  else
    some (Sum.inr (x3, (x4 + x7), s))
def j_X12_comesTo_77_l10 (x2 : Int32) (x3 : Int32) (x4 : Int32) (x5 : Int32) (x6 : Int32) (x7 : Int32) (s : wk_St) : Option (((Int32 × wk_St) ⊕ (wk_St)) ⊕ (Int32 × Int32 × wk_St)) :=
  if wk_in (x3 - (1 : Int32)) 260 = true then
    if ¬ x6 = (12 : Int32) then
      j_X12_comesTo_89_l10 x2 x3 x4 x5 x7 (0 : Int32) (s.1 19 ((x3 - (1 : Int32)).toNatClampNeg)) s
    else
      j_X12_comesTo_89_l10 x2 x3 x4 x5 x7 (1 : Int32) (s.1 19 ((x3 - (1 : Int32)).toNatClampNeg)) s
  else none
def j_X12_comesTo_117_l10 (x2 : Int32) (x3 : Int32) (x4 : Int32) (x5 : Int32) (x6 : Int32) (s : wk_St) : Option (((Int32 × wk_St) ⊕ (wk_St)) ⊕ (Int32 × Int32 × wk_St)) :=
  if wk_in (x3 - (1 : Int32)) 260 = true then
    if wk_in x3 260 = true then
      Option.bind (f_X12_reckon x6 (s.1 19 ((x3 - (1 : Int32)).toNatClampNeg)) (s.1 19 (x3.toNatClampNeg))) fun v9 =>
      if wk_in (x3 - (1 : Int32)) 260 = true then
        some (Sum.inr (x3, x5, (wk_si s 19 ((x3 - (1 : Int32)).toNatClampNeg) v9)))
      else none
    else none
  else none
def S_X12_comesTo_10 (x2 : Int32) (x4 : Int32) (p : Int32 × Int32 × wk_St) : Option (((Int32 × wk_St) ⊕ (wk_St)) ⊕ (Int32 × Int32 × wk_St)) := match p with
  | (x3, x5, s) =>
    if x5 ≥ x2 then
      some (Sum.inl (Sum.inr s))
    else
      if wk_in x5 260 = true then
        wk_let (((s.1 14 (x5.toNatClampNeg)) / (1048576 : Int32)) : Int32) fun v2 =>
        if wk_in x5 260 = true then
          wk_let ((wk_rem (s.1 14 (x5.toNatClampNeg)) (1048576 : Int32)) : Int32) fun v3 =>
          wk_let ((x5 + (1 : Int32)) : Int32) fun v4 =>
          if v2 = 0 then
            j_X12_comesTo_36_l10 x2 x3 x4 v4 v2 v3 s
          else
            if ¬ v2 = (1 : Int32) then
              if ¬ v2 = (10 : Int32) then
                if v2 = (11 : Int32) then
                  j_X12_comesTo_77_l10 x2 x3 x4 v4 v2 v3 s
                else
                  if ¬ v2 = (12 : Int32) then
                    wk_let ((x3 - (1 : Int32)) : Int32) fun v8 =>
                    if v2 = (5 : Int32) then
                      if wk_in v8 260 = true then
                        if ¬ (s.1 19 (v8.toNatClampNeg)) = 0 then
                          j_X12_comesTo_117_l10 x2 v8 x4 v4 v2 s
                        else
                          some (Sum.inl (Sum.inl ((0 : Int32), s)))
                      else none
                    else
                      if ¬ v2 = (6 : Int32) then
                        j_X12_comesTo_117_l10 x2 v8 x4 v4 v2 s
                      else
                        if wk_in v8 260 = true then
                          if ¬ (s.1 19 (v8.toNatClampNeg)) = 0 then
                            j_X12_comesTo_117_l10 x2 v8 x4 v4 v2 s
                          else
                            some (Sum.inl (Sum.inl ((0 : Int32), s)))
                        else none
                  else
                    j_X12_comesTo_77_l10 x2 x3 x4 v4 v2 v3 s
              else
                if wk_in (x3 - (1 : Int32)) 260 = true then
                  if wk_in (x3 - (1 : Int32)) 260 = true then
                    some (Sum.inr (x3, v4, (wk_si s 19 ((x3 - (1 : Int32)).toNatClampNeg) ((1 : Int32) - (s.1 19 ((x3 - (1 : Int32)).toNatClampNeg))))))
                  else none
                else none
            else
              j_X12_comesTo_36_l10 x2 x3 x4 v4 v2 v3 s
        else none
      else none
def f_X12_comesTo (x1 : Int32) (x2 : Int32) (s : wk_St) : Option (Int32 × wk_St) :=
  wk_let (((260 : Int32) * (x1 / (260 : Int32))) : Int32) fun v1 =>
  Option.bind (wk_loop (S_X12_comesTo_10 x2 v1) wk_F ((0 : Int32), x1, s)) fun v10 =>
  match v10 with
  | Sum.inl v10r => some v10r
  | Sum.inr v10 =>
    some ((v10.1 19 0), v10)
def S_X12_byLaw_2 (x1 : Int32) (x2 : Int32) (p : Int32 × wk_St) : Option (((Int32 × wk_St) ⊕ (wk_St)) ⊕ (Int32 × wk_St)) := match p with
  | (x3, s) =>
    if x3 ≥ (s.1 0 18) then
      some (Sum.inl (Sum.inr s))
    else
      if wk_in x3 16 = true then
        if ¬ (s.1 15 (x3.toNatClampNeg)) = x1 then
          some (Sum.inr ((x3 + (1 : Int32)), s))
        else
          if wk_in x3 16 = true then
            if wk_in x3 16 = true then
              Option.bind (f_X12_comesTo (s.1 17 (x3.toNatClampNeg)) (s.1 18 (x3.toNatClampNeg)) s) fun v1 =>
              if v1.1 = (1 : Int32) then
                if wk_in x3 16 = true then
                  if wk_in x3 16 = true then
                    Option.bind (f_X12_comesTo (v1.2.1 16 (x3.toNatClampNeg)) (v1.2.1 17 (x3.toNatClampNeg)) v1.2) fun v2 =>
                    if v2.1 ≥ 0 then
                      if v2.1 ≤ x2 then
                        some (Sum.inl (Sum.inl (v2.1, v2.2)))
                      else
                        some (Sum.inl (Sum.inl (x2, v2.2)))
                    else
                      some (Sum.inl (Sum.inl ((0 : Int32), v2.2)))
                  else none
                else none
              else
                some (Sum.inr ((x3 + (1 : Int32)), v1.2))
            else none
          else none
      else none
def f_X12_byLaw (x1 : Int32) (x2 : Int32) (s : wk_St) : Option (Int32 × wk_St) :=
  Option.bind (wk_loop (S_X12_byLaw_2 x1 x2) wk_F ((0 : Int32), s)) fun v3 =>
  match v3 with
  | Sum.inl v3r => some v3r
  | Sum.inr v3 =>
    some ((0 : Int32), v3)
def S_X12_holdsAny_2 (x1 : Int32) (p : Int32 × wk_St) : Option (((Bool × wk_St) ⊕ (wk_St)) ⊕ (Int32 × wk_St)) := match p with
  | (x2, s) =>
    if x2 ≥ (s.1 0 18) then
      some (Sum.inl (Sum.inr s))
    else
      if wk_in x2 16 = true then
        if ¬ (s.1 15 (x2.toNatClampNeg)) = x1 then
          some (Sum.inr ((x2 + (1 : Int32)), s))
        else
          if wk_in x2 16 = true then
            if wk_in x2 16 = true then
              Option.bind (f_X12_comesTo (s.1 17 (x2.toNatClampNeg)) (s.1 18 (x2.toNatClampNeg)) s) fun v1 =>
              if ¬ v1.1 = (1 : Int32) then
                some (Sum.inr ((x2 + (1 : Int32)), v1.2))
              else
                some (Sum.inl (Sum.inl (true, v1.2)))
            else none
          else none
      else none
def f_X12_holdsAny (x1 : Int32) (s : wk_St) : Option (Bool × wk_St) :=
  Option.bind (wk_loop (S_X12_holdsAny_2 x1) wk_F ((0 : Int32), s)) fun v2 =>
  match v2 with
  | Sum.inl v2r => some v2r
  | Sum.inr v2 =>
    some (false, v2)
def S_X12_othersAt_4 (x1 : Int32) (x2 : Int32) (s : wk_St) (p : Int32 × Int32) : Option ((Int32) ⊕ (Int32 × Int32)) := match p with
  | (x3, x4) =>
    if x4 ≥ (9 : Int32) then
      some (Sum.inl x3)
    else
      if x4 = x1 then
        some (Sum.inr (x3, (x4 + (1 : Int32))))
      else
        Option.bind (f_X12_isLiving x4 s) fun v1 =>
        if v1 = false then
          some (Sum.inr (x3, (x4 + (1 : Int32))))
        else
          if wk_in ((18 : Int32) + x4) 47 = true then
            if ¬ (s.1 1 (((18 : Int32) + x4).toNatClampNeg)) = x2 then
              some (Sum.inr (x3, (x4 + (1 : Int32))))
            else
              wk_let ((x3 + (1 : Int32)) : Int32) fun v2 =>
              some (Sum.inr (v2, (x4 + (1 : Int32))))
          else none
def f_X12_othersAt (x1 : Int32) (x2 : Int32) (s : wk_St) : Option (Int32) :=
  Option.bind (wk_loop (S_X12_othersAt_4 x1 x2 s) wk_F ((0 : Int32), (0 : Int32))) fun v3 =>
  some v3
def f_X12_isHunted (x1 : Int32) (x2 : Int32) (s : wk_St) : Option (Bool) :=
  if wk_in x1 12 = true then
    if (s.1 22 (x1.toNatClampNeg)) ≤ 0 then
      some false
    else
      if wk_in x1 12 = true then
        if (s.1 22 (x1.toNatClampNeg)) = 0 then none else
        if wk_in (((48 : Int32) * x1) + (wk_rem ((s.1 1 45) + x2) (s.1 22 (x1.toNatClampNeg)))) 576 = true then
          if ¬ (s.1 21 ((((48 : Int32) * x1) + (wk_rem ((s.1 1 45) + x2) (s.1 22 (x1.toNatClampNeg)))).toNatClampNeg)) = (1 : Int32) then
            some false
          else
            some true
        else none
      else none
  else none
def j_X12_feels_39 (x1 : Int32) (x2 : Int32) (s_0 : Int32) (s_1 : Int32) (s : wk_St) : Option (wk_St) :=
  if wk_in s_1 8 = true then
    Option.bind (f_X12_othersAt x1 x2 (wk_si s 20 (s_1.toNatClampNeg) s_0)) fun v3 =>
    some (wk_si (wk_si (wk_si (wk_si s 20 (s_1.toNatClampNeg) s_0) 20 5 v3) 20 6 (f_X12_weekdayIn (0 : Int32) (wk_si (wk_si s 20 (s_1.toNatClampNeg) s_0) 20 5 v3))) 20 7 (wk_rem ((wk_si (wk_si (wk_si s 20 (s_1.toNatClampNeg) s_0) 20 5 v3) 20 6 (f_X12_weekdayIn (0 : Int32) (wk_si (wk_si s 20 (s_1.toNatClampNeg) s_0) 20 5 v3))).1 1 45) (100 : Int32)))
  else none
def f_X12_feels (x1 : Int32) (x2 : Int32) (s : wk_St) : Option (wk_St) :=
  if wk_in ((18 : Int32) + x1) 47 = true then
    Option.bind (f_X12_toClothes x1 x2 (wk_si (wk_si (wk_si s 20 0 x1) 20 1 x2) 20 2 ((wk_si (wk_si s 20 0 x1) 20 1 x2).1 1 (((18 : Int32) + x1).toNatClampNeg)))) fun v1 =>
    Option.bind (f_X12_isHunted x2 (0 : Int32) (wk_si v1.2 20 3 v1.1)) fun v2 =>
    if v2 = false then
      j_X12_feels_39 x1 x2 (0 : Int32) (4 : Int32) (wk_si v1.2 20 3 v1.1)
    else
      j_X12_feels_39 x1 x2 (1 : Int32) (4 : Int32) (wk_si v1.2 20 3 v1.1)
  else none
def S_X12_repeats_19 (x1 : Int32) (x2 : Int32) (x4 : Int32) (p : Int32 × wk_St) : Option ((wk_St) ⊕ (Int32 × wk_St)) := match p with
  | (x5, s) =>
    if x5 ≥ (x4 * x2) then
      some (Sum.inl s)
    else
      if wk_in ((x1 + x5) - x4) 48 = true then
        if wk_in (x1 + x5) 48 = true then
          some (Sum.inr ((x5 + (1 : Int32)), (wk_si s 23 ((x1 + x5).toNatClampNeg) (s.1 23 (((x1 + x5) - x4).toNatClampNeg)))))
        else none
      else none
def f_X12_repeats (x1 : Int32) (x2 : Int32) (x3 : Int32) (s : wk_St) : Option (Bool × wk_St) :=
  wk_let (((s.1 0 38) - x1) : Int32) fun v1 =>
  if (x1 + (v1 * x2)) ≤ (48 : Int32) then
    Option.bind (wk_loop (S_X12_repeats_19 x1 x2 v1) wk_F (v1, s)) fun v2 =>
    some (true, (wk_si v2 0 38 (x1 + (v1 * x2))))
  else
    wk_let (f_X12_wrongAt (6 : Int32) x3 s) fun v4 =>
    some (v4.1, v4.2)
def f_X12_readsTimes (s : wk_St) : Option (wk_St) :=
  Option.bind (f_X12_here (wk_si (wk_si s 0 40 (s.1 0 10)) 0 41 (1 : Int32))) fun v1 =>
  if (f_X12_in v1 (50 : Int32) (57 : Int32)) = true then
    Option.bind (f_X12_here (wk_si (wk_si s 0 40 (s.1 0 10)) 0 41 (1 : Int32))) fun v3 =>
    some (wk_si (wk_si (wk_si (wk_si s 0 40 (s.1 0 10)) 0 41 (1 : Int32)) 0 41 (v3 - (48 : Int32))) 0 10 (((wk_si (wk_si (wk_si s 0 40 (s.1 0 10)) 0 41 (1 : Int32)) 0 41 (v3 - (48 : Int32))).1 0 10) + (1 : Int32)))
  else
    some (wk_si (wk_si s 0 40 (s.1 0 10)) 0 41 (1 : Int32))
def S_X12_readsItem_2 (s : wk_St) : Option (((Bool × wk_St) ⊕ (wk_St)) ⊕ (wk_St)) :=
  Option.bind (f_X12_here s) fun v2 =>
  if ¬ v2 = (40 : Int32) then
    some (Sum.inl (Sum.inr s))
  else
    if ¬ (s.1 0 39) = (2 : Int32) then
      if wk_in (s.1 0 39) 2 = true then
        if wk_in ((wk_si s 24 ((s.1 0 39).toNatClampNeg) (s.1 0 40)).1 0 39) 2 = true then
          if wk_in ((wk_si (wk_si s 24 ((s.1 0 39).toNatClampNeg) (s.1 0 40)) 25 (((wk_si s 24 ((s.1 0 39).toNatClampNeg) (s.1 0 40)).1 0 39).toNatClampNeg) ((wk_si s 24 ((s.1 0 39).toNatClampNeg) (s.1 0 40)).1 0 38)).1 0 39) 2 = true then
            Option.bind (f_X12_readsTimes (wk_si (wk_si (wk_si (wk_si (wk_si s 24 ((s.1 0 39).toNatClampNeg) (s.1 0 40)) 25 (((wk_si s 24 ((s.1 0 39).toNatClampNeg) (s.1 0 40)).1 0 39).toNatClampNeg) ((wk_si s 24 ((s.1 0 39).toNatClampNeg) (s.1 0 40)).1 0 38)) 26 (((wk_si (wk_si s 24 ((s.1 0 39).toNatClampNeg) (s.1 0 40)) 25 (((wk_si s 24 ((s.1 0 39).toNatClampNeg) (s.1 0 40)).1 0 39).toNatClampNeg) ((wk_si s 24 ((s.1 0 39).toNatClampNeg) (s.1 0 40)).1 0 38)).1 0 39).toNatClampNeg) ((wk_si (wk_si s 24 ((s.1 0 39).toNatClampNeg) (s.1 0 40)) 25 (((wk_si s 24 ((s.1 0 39).toNatClampNeg) (s.1 0 40)).1 0 39).toNatClampNeg) ((wk_si s 24 ((s.1 0 39).toNatClampNeg) (s.1 0 40)).1 0 38)).1 0 41)) 0 39 (((wk_si (wk_si (wk_si s 24 ((s.1 0 39).toNatClampNeg) (s.1 0 40)) 25 (((wk_si s 24 ((s.1 0 39).toNatClampNeg) (s.1 0 40)).1 0 39).toNatClampNeg) ((wk_si s 24 ((s.1 0 39).toNatClampNeg) (s.1 0 40)).1 0 38)) 26 (((wk_si (wk_si s 24 ((s.1 0 39).toNatClampNeg) (s.1 0 40)) 25 (((wk_si s 24 ((s.1 0 39).toNatClampNeg) (s.1 0 40)).1 0 39).toNatClampNeg) ((wk_si s 24 ((s.1 0 39).toNatClampNeg) (s.1 0 40)).1 0 38)).1 0 39).toNatClampNeg) ((wk_si (wk_si s 24 ((s.1 0 39).toNatClampNeg) (s.1 0 40)) 25 (((wk_si s 24 ((s.1 0 39).toNatClampNeg) (s.1 0 40)).1 0 39).toNatClampNeg) ((wk_si s 24 ((s.1 0 39).toNatClampNeg) (s.1 0 40)).1 0 38)).1 0 41)).1 0 39) + (1 : Int32))) 0 10 (((wk_si (wk_si (wk_si (wk_si s 24 ((s.1 0 39).toNatClampNeg) (s.1 0 40)) 25 (((wk_si s 24 ((s.1 0 39).toNatClampNeg) (s.1 0 40)).1 0 39).toNatClampNeg) ((wk_si s 24 ((s.1 0 39).toNatClampNeg) (s.1 0 40)).1 0 38)) 26 (((wk_si (wk_si s 24 ((s.1 0 39).toNatClampNeg) (s.1 0 40)) 25 (((wk_si s 24 ((s.1 0 39).toNatClampNeg) (s.1 0 40)).1 0 39).toNatClampNeg) ((wk_si s 24 ((s.1 0 39).toNatClampNeg) (s.1 0 40)).1 0 38)).1 0 39).toNatClampNeg) ((wk_si (wk_si s 24 ((s.1 0 39).toNatClampNeg) (s.1 0 40)) 25 (((wk_si s 24 ((s.1 0 39).toNatClampNeg) (s.1 0 40)).1 0 39).toNatClampNeg) ((wk_si s 24 ((s.1 0 39).toNatClampNeg) (s.1 0 40)).1 0 38)).1 0 41)) 0 39 (((wk_si (wk_si (wk_si s 24 ((s.1 0 39).toNatClampNeg) (s.1 0 40)) 25 (((wk_si s 24 ((s.1 0 39).toNatClampNeg) (s.1 0 40)).1 0 39).toNatClampNeg) ((wk_si s 24 ((s.1 0 39).toNatClampNeg) (s.1 0 40)).1 0 38)) 26 (((wk_si (wk_si s 24 ((s.1 0 39).toNatClampNeg) (s.1 0 40)) 25 (((wk_si s 24 ((s.1 0 39).toNatClampNeg) (s.1 0 40)).1 0 39).toNatClampNeg) ((wk_si s 24 ((s.1 0 39).toNatClampNeg) (s.1 0 40)).1 0 38)).1 0 39).toNatClampNeg) ((wk_si (wk_si s 24 ((s.1 0 39).toNatClampNeg) (s.1 0 40)) 25 (((wk_si s 24 ((s.1 0 39).toNatClampNeg) (s.1 0 40)).1 0 39).toNatClampNeg) ((wk_si s 24 ((s.1 0 39).toNatClampNeg) (s.1 0 40)).1 0 38)).1 0 41)).1 0 39) + (1 : Int32))).1 0 10) + (1 : Int32)))) fun v3 =>
            some (Sum.inr v3)
          else none
        else none
      else none
    else
      wk_let (f_X12_wrongAt (5 : Int32) (s.1 0 10) s) fun v4 =>
      some (Sum.inl (Sum.inl (v4.1, v4.2)))
def S_X12_readsItem_118 (s : wk_St) : Option (((Bool × wk_St) ⊕ (wk_St)) ⊕ (wk_St)) :=
  Option.bind (f_X12_here s) fun v8 =>
  if ¬ v8 = (41 : Int32) then
    some (Sum.inl (Sum.inr s))
  else
    if (s.1 0 39) ≤ 0 then
      some (Sum.inl (Sum.inr s))
    else
      if wk_in ((wk_si (wk_si s 0 10 ((s.1 0 10) + (1 : Int32))) 0 39 (((wk_si s 0 10 ((s.1 0 10) + (1 : Int32))).1 0 39) - (1 : Int32))).1 0 39) 2 = true then
        if wk_in ((wk_si (wk_si s 0 10 ((s.1 0 10) + (1 : Int32))) 0 39 (((wk_si s 0 10 ((s.1 0 10) + (1 : Int32))).1 0 39) - (1 : Int32))).1 0 39) 2 = true then
          if wk_in ((wk_si (wk_si s 0 10 ((s.1 0 10) + (1 : Int32))) 0 39 (((wk_si s 0 10 ((s.1 0 10) + (1 : Int32))).1 0 39) - (1 : Int32))).1 0 39) 2 = true then
            Option.bind (f_X12_repeats ((wk_si (wk_si s 0 10 ((s.1 0 10) + (1 : Int32))) 0 39 (((wk_si s 0 10 ((s.1 0 10) + (1 : Int32))).1 0 39) - (1 : Int32))).1 25 (((wk_si (wk_si s 0 10 ((s.1 0 10) + (1 : Int32))) 0 39 (((wk_si s 0 10 ((s.1 0 10) + (1 : Int32))).1 0 39) - (1 : Int32))).1 0 39).toNatClampNeg)) ((wk_si (wk_si s 0 10 ((s.1 0 10) + (1 : Int32))) 0 39 (((wk_si s 0 10 ((s.1 0 10) + (1 : Int32))).1 0 39) - (1 : Int32))).1 26 (((wk_si (wk_si s 0 10 ((s.1 0 10) + (1 : Int32))) 0 39 (((wk_si s 0 10 ((s.1 0 10) + (1 : Int32))).1 0 39) - (1 : Int32))).1 0 39).toNatClampNeg)) ((wk_si (wk_si s 0 10 ((s.1 0 10) + (1 : Int32))) 0 39 (((wk_si s 0 10 ((s.1 0 10) + (1 : Int32))).1 0 39) - (1 : Int32))).1 24 (((wk_si (wk_si s 0 10 ((s.1 0 10) + (1 : Int32))) 0 39 (((wk_si s 0 10 ((s.1 0 10) + (1 : Int32))).1 0 39) - (1 : Int32))).1 0 39).toNatClampNeg)) (wk_si (wk_si s 0 10 ((s.1 0 10) + (1 : Int32))) 0 39 (((wk_si s 0 10 ((s.1 0 10) + (1 : Int32))).1 0 39) - (1 : Int32)))) fun v9 =>
            if v9.1 = true then
              some (Sum.inr v9.2)
            else
              some (Sum.inl (Sum.inl (false, v9.2)))
          else none
        else none
      else none
def j_X12_readsItem_94 (x1 : Int32) (x2 : Int32) (s_0 : Int32) (s_1 : Int32) (s : wk_St) : Option (Bool × wk_St) :=
  if wk_in s_1 48 = true then
    Option.bind (f_X12_repeats (((wk_si (wk_si (wk_si s 23 (s_1.toNatClampNeg) s_0) 0 38 (((wk_si s 23 (s_1.toNatClampNeg) s_0).1 0 38) + (1 : Int32))) 0 10 (((wk_si (wk_si s 23 (s_1.toNatClampNeg) s_0) 0 38 (((wk_si s 23 (s_1.toNatClampNeg) s_0).1 0 38) + (1 : Int32))).1 0 10) + (1 : Int32))).1 0 38) - (1 : Int32)) x2 x1 (wk_si (wk_si (wk_si s 23 (s_1.toNatClampNeg) s_0) 0 38 (((wk_si s 23 (s_1.toNatClampNeg) s_0).1 0 38) + (1 : Int32))) 0 10 (((wk_si (wk_si s 23 (s_1.toNatClampNeg) s_0) 0 38 (((wk_si s 23 (s_1.toNatClampNeg) s_0).1 0 38) + (1 : Int32))).1 0 10) + (1 : Int32)))) fun v7 =>
    if v7.1 = true then
      Option.bind (wk_loop S_X12_readsItem_118 wk_F v7.2) fun v10 =>
      match v10 with
      | Sum.inl v10r => some v10r
      | Sum.inr v10 =>
        some (true, v10)
    else
      some (false, v7.2)
  else none
def j_X12_readsItem_73 (x1 : Int32) (x2 : Int32) (x3 : Int32) (s : wk_St) : Option (Bool × wk_St) :=
  if ((s.1 0 38) + x2) ≤ (48 : Int32) then
    if ¬ x3 = (104 : Int32) then
      j_X12_readsItem_94 x1 x2 (0 : Int32) (s.1 0 38) s
    else
      j_X12_readsItem_94 x1 x2 (1 : Int32) (s.1 0 38) s
  else
    wk_let (f_X12_wrongAt (6 : Int32) x1 s) fun v11 =>
    some (v11.1, v11.2)
def f_X12_readsItem (s : wk_St) : Option (Bool × wk_St) :=
  Option.bind (f_X12_readsTimes s) fun v1 =>
  Option.bind (wk_loop S_X12_readsItem_2 wk_F v1) fun v5 =>
  match v5 with
  | Sum.inl v5r => some v5r
  | Sum.inr v5 =>
    Option.bind (f_X12_here v5) fun v6 =>
    if v6 = (46 : Int32) then
      j_X12_readsItem_73 (v5.1 0 40) (v5.1 0 41) v6 v5
    else
      if v6 = (104 : Int32) then
        j_X12_readsItem_73 (v5.1 0 40) (v5.1 0 41) v6 v5
      else
        wk_let (f_X12_wrongAt (1 : Int32) (v5.1 0 10) v5) fun v12 =>
        some (v12.1, v12.2)
def S_X12_hunts_28 (x1 : Int32) (p : Int32 × wk_St) : Option ((Int32 × wk_St) ⊕ (Int32 × wk_St)) := match p with
  | (x3, s) =>
    if x3 = 0 then
      some (Sum.inl (x3, s))
    else
      if (s.1 0 10) < (s.1 0 11) then
        Option.bind (f_X12_readsItem s) fun v5 =>
        some (Sum.inr ((b2i v5.1), v5.2))
      else
        if (s.1 0 39) ≤ 0 then
          some (Sum.inl (x3, s))
        else
          Option.bind (f_X12_readsItem s) fun v6 =>
          some (Sum.inr ((b2i v6.1), v6.2))
def S_X12_hunts_58 (x1 : Int32) (p : Int32 × wk_St) : Option ((wk_St) ⊕ (Int32 × wk_St)) := match p with
  | (x4, s) =>
    if x4 ≥ (s.1 0 38) then
      some (Sum.inl s)
    else
      if wk_in x4 48 = true then
        if wk_in (((48 : Int32) * x1) + x4) 576 = true then
          some (Sum.inr ((x4 + (1 : Int32)), (wk_si s 21 ((((48 : Int32) * x1) + x4).toNatClampNeg) (((s.1 23 (x4.toNatClampNeg)).toInt8.toInt32).toInt8.toInt32))))
        else none
      else none
def j_X12_hunts_42 (x1 : Int32) (x3 : Int32) (s : wk_St) : Option (Int32 × wk_St) :=
  if ¬ x3 = 0 then
    if wk_in x1 12 = true then
      Option.bind (wk_loop (S_X12_hunts_58 x1) wk_F ((0 : Int32), (wk_si (wk_si s 0 9 (0 : Int32)) 22 (x1.toNatClampNeg) ((wk_si s 0 9 (0 : Int32)).1 0 38)))) fun v9 =>
      some ((v9.1 0 38), v9)
    else none
  else
    some (((wk_si s 0 9 (0 : Int32)).1 0 12), (wk_si s 0 9 (0 : Int32)))
def f_X12_hunts (x1 : Int32) (x2 : Int32) (s : wk_St) : Option (Int32 × wk_St) :=
  if (f_X12_in x1 (0 : Int32) (11 : Int32)) = false then
    some ((-1 : Int32), s)
  else
    if (f_X12_in x2 (1 : Int32) (40 : Int32)) = false then
      some ((-1 : Int32), s)
    else
      if x2 ≤ (s.1 0 9) then
        wk_let (f_X12_beginsText x2 s) fun v3 =>
        Option.bind (f_X12_readsItem (wk_si (wk_si v3 0 38 (0 : Int32)) 0 39 (0 : Int32))) fun v4 =>
        Option.bind (wk_loop (S_X12_hunts_28 x1) wk_F ((b2i v4.1), v4.2)) fun v7 =>
        j_X12_hunts_42 x1 v7.1 v7.2
      else
        some ((-1 : Int32), s)
def f_X12_hunted (x1 : Int32) (x2 : Int32) (s : wk_St) : Option (Int32) :=
  if (f_X12_in x1 (0 : Int32) (11 : Int32)) = false then
    some (-1 : Int32)
  else
    if (f_X12_in x2 (0 : Int32) (9999 : Int32)) = true then
      Option.bind (f_X12_isHunted x1 x2 s) fun v3 =>
      if v3 = false then
        some (0 : Int32)
      else
        some (1 : Int32)
    else
      some (-1 : Int32)
def S_X12_readsWhere_15 (x1 : Int32) (s : wk_St) : Option (((Bool × wk_St) ⊕ (wk_St)) ⊕ (wk_St)) :=
  Option.bind (f_X12_isDigit s) fun v2 =>
  if v2 = false then
    some (Sum.inl (Sum.inr s))
  else
    if ¬ (s.1 0 10) = (x1 + (2 : Int32)) then
      Option.bind (f_X12_here s) fun v3 =>
      some (Sum.inr (wk_si (wk_si s 0 13 ((((10 : Int32) * (s.1 0 13)) + v3) - (48 : Int32))) 0 10 (((wk_si s 0 13 ((((10 : Int32) * (s.1 0 13)) + v3) - (48 : Int32))).1 0 10) + (1 : Int32))))
    else
      wk_let (f_X12_wrongAt (2 : Int32) (s.1 0 10) s) fun v4 =>
      some (Sum.inl (Sum.inl (v4.1, v4.2)))
def f_X12_readsWhere (s : wk_St) : Option (Bool × wk_St) :=
  Option.bind (f_X12_isDigit s) fun v1 =>
  if v1 = true then
    Option.bind (wk_loop (S_X12_readsWhere_15 (s.1 0 10)) wk_F (wk_si s 0 13 (0 : Int32))) fun v5 =>
    match v5 with
    | Sum.inl v5r => some v5r
    | Sum.inr v5 =>
      if (f_X12_isPlace (v5.1 0 13) v5) = true then
        some (true, v5)
      else
        wk_let (f_X12_wrongAt (7 : Int32) (s.1 0 10) v5) fun v7 =>
        if v7.1 = false then
          some (false, v7.2)
        else
          some (true, v7.2)
  else
    wk_let (f_X12_wrongAt (1 : Int32) (s.1 0 10) s) fun v8 =>
    some (v8.1, v8.2)
def f_X12_turns (x1 : Int32) (x2 : Int32) (x3 : Int32) (s : wk_St) : Option (wk_St) :=
  if wk_in ((27 : Int32) + x1) 47 = true then
    if wk_in ((36 : Int32) + x1) 47 = true then
      some (wk_si (wk_si s 1 (((27 : Int32) + x1).toNatClampNeg) x2) 1 (((36 : Int32) + x1).toNatClampNeg) x3)
    else none
  else none
def j_X12_readsLine_100 (x1 : Int32) (x2 : Int32) (s : wk_St) : Option (Bool × wk_St) :=
  if x2 = (43 : Int32) then
    if wk_in ((18 : Int32) + x1) 47 = true then
      Option.bind (f_X12_turns x1 (1 : Int32) ((wk_si s 0 10 ((s.1 0 10) + (1 : Int32))).1 1 (((18 : Int32) + x1).toNatClampNeg)) (wk_si s 0 10 ((s.1 0 10) + (1 : Int32)))) fun v7 =>
      some (true, v7)
    else none
  else
  if x2 = (45 : Int32) then
    Option.bind (f_X12_turns x1 (0 : Int32) (-2 : Int32) (wk_si s 0 10 ((s.1 0 10) + (1 : Int32)))) fun v8 =>
    some (true, v8)
  else
  Option.bind (f_X12_readsWhere (wk_si s 0 10 ((s.1 0 10) + (1 : Int32)))) fun v9 =>
  if v9.1 = true then
    if ¬ x2 = (62 : Int32) then
      if wk_in ((36 : Int32) + x1) 47 = true then
        some (true, (wk_si v9.2 1 (((36 : Int32) + x1).toNatClampNeg) (v9.2.1 0 13)))
      else none
    else
      if wk_in ((18 : Int32) + x1) 47 = true then
        some (true, (wk_si v9.2 1 (((18 : Int32) + x1).toNatClampNeg) (v9.2.1 0 13)))
      else none
  else
    some (false, v9.2)
def j_X12_readsLine_89 (x1 : Int32) (x2 : Int32) (x3 : Int32) (s : wk_St) : Option (Bool × wk_St) :=
  if ¬ x2 = (43 : Int32) then
    j_X12_readsLine_100 x1 x2 s
  else
    if x3 = 0 then
      j_X12_readsLine_100 x1 x2 s
    else
      wk_let (f_X12_wrongAt (9 : Int32) (s.1 0 10) s) fun v10 =>
      some (v10.1, v10.2)
def j_X12_readsLine_80 (x1 : Int32) (x2 : Int32) (s_0 : Int32) (s : wk_St) : Option (Bool × wk_St) :=
  if x2 = (64 : Int32) then
    if s_0 = 0 then
      wk_let (f_X12_wrongAt (9 : Int32) (s.1 0 10) s) fun v6 =>
      some (v6.1, v6.2)
    else
      j_X12_readsLine_89 x1 x2 s_0 s
  else
    if ¬ x2 = (45 : Int32) then
      j_X12_readsLine_89 x1 x2 s_0 s
    else
      if s_0 = 0 then
        wk_let (f_X12_wrongAt (9 : Int32) (s.1 0 10) s) fun v11 =>
        some (v11.1, v11.2)
      else
        j_X12_readsLine_89 x1 x2 s_0 s
def j_X12_readsLine_69 (x1 : Int32) (x2 : Int32) (s : wk_St) : Option (Bool × wk_St) :=
  if wk_in ((27 : Int32) + x1) 47 = true then
    if ¬ (s.1 1 (((27 : Int32) + x1).toNatClampNeg)) = (1 : Int32) then
      j_X12_readsLine_80 x1 x2 (0 : Int32) s
    else
      j_X12_readsLine_80 x1 x2 (1 : Int32) s
  else none
def f_X12_readsLine (s : wk_St) : Option (Bool × wk_St) :=
  Option.bind (f_X12_here s) fun v1 =>
  wk_let ((v1 - (97 : Int32)) : Int32) fun v2 =>
  if (f_X12_in v2 (0 : Int32) (8 : Int32)) = true then
    if ¬ (s.1 0 42) = (20 : Int32) then
      Option.bind (f_X12_isLiving v2 s) fun v4 =>
      if v4 = true then
        Option.bind (f_X12_here (wk_si (wk_si s 0 10 ((s.1 0 10) + (1 : Int32))) 0 42 (((wk_si s 0 10 ((s.1 0 10) + (1 : Int32))).1 0 42) + (1 : Int32)))) fun v5 =>
        if v5 = (62 : Int32) then
          j_X12_readsLine_69 v2 v5 (wk_si (wk_si s 0 10 ((s.1 0 10) + (1 : Int32))) 0 42 (((wk_si s 0 10 ((s.1 0 10) + (1 : Int32))).1 0 42) + (1 : Int32)))
        else
          if v5 = (64 : Int32) then
            j_X12_readsLine_69 v2 v5 (wk_si (wk_si s 0 10 ((s.1 0 10) + (1 : Int32))) 0 42 (((wk_si s 0 10 ((s.1 0 10) + (1 : Int32))).1 0 42) + (1 : Int32)))
          else
            if v5 = (43 : Int32) then
              j_X12_readsLine_69 v2 v5 (wk_si (wk_si s 0 10 ((s.1 0 10) + (1 : Int32))) 0 42 (((wk_si s 0 10 ((s.1 0 10) + (1 : Int32))).1 0 42) + (1 : Int32)))
            else
              if v5 = (45 : Int32) then
                j_X12_readsLine_69 v2 v5 (wk_si (wk_si s 0 10 ((s.1 0 10) + (1 : Int32))) 0 42 (((wk_si s 0 10 ((s.1 0 10) + (1 : Int32))).1 0 42) + (1 : Int32)))
              else
                wk_let (f_X12_wrongAt (1 : Int32) ((wk_si (wk_si s 0 10 ((s.1 0 10) + (1 : Int32))) 0 42 (((wk_si s 0 10 ((s.1 0 10) + (1 : Int32))).1 0 42) + (1 : Int32))).1 0 10) (wk_si (wk_si s 0 10 ((s.1 0 10) + (1 : Int32))) 0 42 (((wk_si s 0 10 ((s.1 0 10) + (1 : Int32))).1 0 42) + (1 : Int32)))) fun v12 =>
                some (v12.1, v12.2)
      else
        wk_let (f_X12_wrongAt (7 : Int32) (s.1 0 10) s) fun v13 =>
        some (v13.1, v13.2)
    else
      wk_let (f_X12_wrongAt (4 : Int32) (s.1 0 10) s) fun v14 =>
      some (v14.1, v14.2)
  else
    wk_let (f_X12_wrongAt (1 : Int32) (s.1 0 10) s) fun v15 =>
    some (v15.1, v15.2)
def S_X12_diary_25 (p : Int32 × wk_St) : Option ((Int32 × wk_St) ⊕ (Int32 × wk_St)) := match p with
  | (x2, s) =>
    if x2 = 0 then
      some (Sum.inl (x2, s))
    else
      if (s.1 0 10) ≥ (s.1 0 11) then
        some (Sum.inl (x2, s))
      else
        Option.bind (f_X12_takes (59 : Int32) s) fun v5 =>
        if v5.1 = false then
          some (Sum.inr ((0 : Int32), v5.2))
        else
          Option.bind (f_X12_readsLine v5.2) fun v6 =>
          if v6.1 = false then
            some (Sum.inr ((0 : Int32), v6.2))
          else
            some (Sum.inr ((1 : Int32), v6.2))
def j_X12_diary_44 (x2 : Int32) (s : wk_St) : Option (Int32 × wk_St) :=
  if x2 = 0 then
    Option.bind (f_X12_copies 2 1 (wk_si s 0 9 (0 : Int32))) fun v9 =>
    some ((v9.1 0 12), v9)
  else
    some (((wk_si s 0 9 (0 : Int32)).1 0 42), (wk_si s 0 9 (0 : Int32)))
def f_X12_diary (x1 : Int32) (s : wk_St) : Option (Int32 × wk_St) :=
  if (f_X12_in x1 (1 : Int32) (120 : Int32)) = false then
    some ((-1 : Int32), s)
  else
    if x1 ≤ (s.1 0 9) then
      wk_let (f_X12_beginsText x1 s) fun v2 =>
      Option.bind (f_X12_copies 1 2 (wk_si v2 0 42 (0 : Int32))) fun v3 =>
      Option.bind (f_X12_readsLine v3) fun v4 =>
      Option.bind (wk_loop S_X12_diary_25 wk_F ((b2i v4.1), v4.2)) fun v7 =>
      j_X12_diary_44 v7.1 v7.2
    else
      some ((-1 : Int32), s)
def f_X12_likedNow (x1 : Int32) (x2 : Int32) (s : wk_St) : Option (Int32 × wk_St) :=
  Option.bind (f_X12_feels x1 x2 s) fun v1 =>
  Option.bind (f_X12_byLaw (101 : Int32) (9999 : Int32) v1) fun v2 =>
  some (v2.1, v2.2)
def S_X12_goesOn_6 (x1 : Int32) (p : Int32 × Int32 × Int32 × wk_St) : Option ((Int32 × wk_St) ⊕ (Int32 × Int32 × Int32 × wk_St)) := match p with
  | (x2, x3, x4, s) =>
    if x4 ≥ (12 : Int32) then
      some (Sum.inl (x2, s))
    else
      if wk_in ((18 : Int32) + x1) 47 = true then
        if wk_in (s.1 1 (((18 : Int32) + x1).toNatClampNeg)) 12 = true then
          if (f_X12_has (s.1 4 ((s.1 1 (((18 : Int32) + x1).toNatClampNeg)).toNatClampNeg)) x4) = false then
            some (Sum.inr (x2, x3, (x4 + (1 : Int32)), s))
          else
            if (f_X12_isPlace x4 s) = true then
              Option.bind (f_X12_likedNow x1 x4 s) fun v3 =>
              if v3.1 > x3 then
                some (Sum.inr (x4, v3.1, (x4 + (1 : Int32)), v3.2))
              else
                some (Sum.inr (x2, x3, (x4 + (1 : Int32)), v3.2))
            else
              some (Sum.inr (x2, x3, (x4 + (1 : Int32)), s))
        else none
      else none
def f_X12_goesOn (x1 : Int32) (s : wk_St) : Option (wk_St) :=
  Option.bind (wk_loop (S_X12_goesOn_6 x1) wk_F ((-1 : Int32), (0 : Int32), (0 : Int32), s)) fun v4 =>
  if v4.1 = (-1 : Int32) then
    some v4.2
  else
    if wk_in ((18 : Int32) + x1) 47 = true then
      some (wk_si v4.2 1 (((18 : Int32) + x1).toNatClampNeg) v4.1)
    else none
def S_X12_mayLoseClothes_46 (x1 : Int32) (x2 : Int32) (p : Int32 × wk_St) : Option ((Int32 × wk_St) ⊕ (Int32 × wk_St)) := match p with
  | (x4, s) =>
    if wk_in x2 12 = true then
      if (f_X12_has (s.1 4 (x2.toNatClampNeg)) x4) = true then
        some (Sum.inl (x4, s))
      else
        wk_let ((x4 + (1 : Int32)) : Int32) fun v5 =>
        some (Sum.inr (v5, s))
    else none
def f_X12_mayLoseClothes (x1 : Int32) (s : wk_St) : Option (wk_St) :=
  if wk_in ((36 : Int32) + x1) 47 = true then
    wk_let ((s.1 1 (((36 : Int32) + x1).toNatClampNeg)) : Int32) fun v1 =>
    Option.bind (f_X12_feels x1 v1 s) fun v2 =>
    Option.bind (f_X12_byLaw (104 : Int32) (10 : Int32) v2) fun v3 =>
    if (wk_rem ((wk_si v3.2 1 46 (wk_rem (((25173 : Int32) * (v3.2.1 1 46)) + (13849 : Int32)) (65536 : Int32))).1 1 46) (10 : Int32)) ≥ v3.1 then
      some (wk_si v3.2 1 46 (wk_rem (((25173 : Int32) * (v3.2.1 1 46)) + (13849 : Int32)) (65536 : Int32)))
    else
      if wk_in v1 12 = true then
        if ¬ ((wk_si v3.2 1 46 (wk_rem (((25173 : Int32) * (v3.2.1 1 46)) + (13849 : Int32)) (65536 : Int32))).1 4 (v1.toNatClampNeg)) = 0 then
          Option.bind (wk_loop (S_X12_mayLoseClothes_46 x1 v1) wk_F ((0 : Int32), (wk_si v3.2 1 46 (wk_rem (((25173 : Int32) * (v3.2.1 1 46)) + (13849 : Int32)) (65536 : Int32))))) fun v6 =>
          if wk_in ((36 : Int32) + x1) 47 = true then
            some (wk_si (wk_si v6.2 1 (((36 : Int32) + x1).toNatClampNeg) v6.1) 0 46 (((wk_si v6.2 1 (((36 : Int32) + x1).toNatClampNeg) v6.1).1 0 46) + (1 : Int32)))
          else none
        else
          some (wk_si v3.2 1 46 (wk_rem (((25173 : Int32) * (v3.2.1 1 46)) + (13849 : Int32)) (65536 : Int32)))
      else none
  else none
def j_X12_dayOf_91 (x1 : Int32) (x2 : Int32) (x3 : Int32) (s : wk_St) : Option (wk_St) :=
  if wk_in ((27 : Int32) + x1) 47 = true then
    if ¬ (s.1 1 (((27 : Int32) + x1).toNatClampNeg)) = (1 : Int32) then
      Option.bind (f_X12_mayLoseClothes x1 s) fun v6 =>
      some v6
    else
      if ¬ x2 = 0 then
        Option.bind (f_X12_mayLoseClothes x1 s) fun v7 =>
        some v7
      else
        if wk_in ((36 : Int32) + x1) 47 = true then
          if ¬ (s.1 1 (((36 : Int32) + x1).toNatClampNeg)) = x3 then
            Option.bind (f_X12_mayLoseClothes x1 s) fun v8 =>
            some v8
          else
            Option.bind (f_X12_turns x1 (0 : Int32) (-2 : Int32) s) fun v9 =>
            some (wk_si v9 0 45 ((v9.1 0 45) + (1 : Int32)))
        else none
  else none
def j_X12_dayOf_36 (x1 : Int32) (x2 : Int32) (s : wk_St) : Option (wk_St) :=
  if wk_in ((27 : Int32) + x1) 47 = true then
    if ¬ (s.1 1 (((27 : Int32) + x1).toNatClampNeg)) = 0 then
      Option.bind (f_X12_goesOn x1 s) fun v3 =>
      if wk_in ((18 : Int32) + x1) 47 = true then
        wk_let ((v3.1 1 (((18 : Int32) + x1).toNatClampNeg)) : Int32) fun v4 =>
        Option.bind (f_X12_isHunted v4 (0 : Int32) v3) fun v5 =>
        if v5 = false then
          j_X12_dayOf_91 x1 x2 v4 v3
        else
          Option.bind (f_X12_feels x1 v4 v3) fun v10 =>
          Option.bind (f_X12_holdsAny (115 : Int32) v10) fun v11 =>
          if v11.1 = true then
            j_X12_dayOf_91 x1 x2 v4 v11.2
          else
            if wk_in ((27 : Int32) + x1) 47 = true then
              if ¬ ((wk_si (wk_si v11.2 1 (((27 : Int32) + x1).toNatClampNeg) (2 : Int32)) 0 43 (((wk_si v11.2 1 (((27 : Int32) + x1).toNatClampNeg) (2 : Int32)).1 0 43) + (1 : Int32))).1 0 48) = (-1 : Int32) then
                j_X12_dayOf_91 x1 x2 v4 (wk_si (wk_si v11.2 1 (((27 : Int32) + x1).toNatClampNeg) (2 : Int32)) 0 43 (((wk_si v11.2 1 (((27 : Int32) + x1).toNatClampNeg) (2 : Int32)).1 0 43) + (1 : Int32)))
              else
                j_X12_dayOf_91 x1 x2 v4 (wk_si (wk_si (wk_si (wk_si v11.2 1 (((27 : Int32) + x1).toNatClampNeg) (2 : Int32)) 0 43 (((wk_si v11.2 1 (((27 : Int32) + x1).toNatClampNeg) (2 : Int32)).1 0 43) + (1 : Int32))) 0 48 x1) 0 49 ((wk_si (wk_si (wk_si v11.2 1 (((27 : Int32) + x1).toNatClampNeg) (2 : Int32)) 0 43 (((wk_si v11.2 1 (((27 : Int32) + x1).toNatClampNeg) (2 : Int32)).1 0 43) + (1 : Int32))) 0 48 x1).1 0 47))
            else none
      else none
    else
      some s
  else none
def f_X12_dayOf (x1 : Int32) (s : wk_St) : Option (wk_St) :=
  if wk_in ((9 : Int32) + x1) 47 = true then
    if wk_in ((27 : Int32) + x1) 47 = true then
      if ¬ (s.1 1 (((27 : Int32) + x1).toNatClampNeg)) = 0 then
        j_X12_dayOf_36 x1 (b2i (f_X12_has (s.1 1 (((9 : Int32) + x1).toNatClampNeg)) (f_X12_weekdayIn (0 : Int32) s))) s
      else
        if (f_X12_has (s.1 1 (((9 : Int32) + x1).toNatClampNeg)) (f_X12_weekdayIn (0 : Int32) s)) = false then
          j_X12_dayOf_36 x1 (b2i (f_X12_has (s.1 1 (((9 : Int32) + x1).toNatClampNeg)) (f_X12_weekdayIn (0 : Int32) s))) s
        else
          if wk_in ((18 : Int32) + x1) 47 = true then
            Option.bind (f_X12_turns x1 (1 : Int32) (s.1 1 (((18 : Int32) + x1).toNatClampNeg)) s) fun v12 =>
            j_X12_dayOf_36 x1 (b2i (f_X12_has (s.1 1 (((9 : Int32) + x1).toNatClampNeg)) (f_X12_weekdayIn (0 : Int32) s))) (wk_si v12 0 44 ((v12.1 0 44) + (1 : Int32)))
          else none
    else none
  else none
def S_X12_dayGoes_8 (p : Int32 × wk_St) : Option ((wk_St) ⊕ (Int32 × wk_St)) := match p with
  | (x1, s) =>
    if x1 ≥ (9 : Int32) then
      some (Sum.inl s)
    else
      Option.bind (f_X12_isLiving x1 s) fun v1 =>
      if v1 = false then
        some (Sum.inr ((x1 + (1 : Int32)), s))
      else
        Option.bind (f_X12_dayOf x1 s) fun v2 =>
        some (Sum.inr ((x1 + (1 : Int32)), v2))
def f_X12_dayGoes (s : wk_St) : Option (wk_St) :=
  Option.bind (wk_loop S_X12_dayGoes_8 wk_F ((0 : Int32), (wk_si s 0 47 ((s.1 0 47) + (1 : Int32))))) fun v3 =>
  some (wk_si v3 1 45 ((v3.1 1 45) + (1 : Int32)))
def f_X12_beginsDays (s : wk_St) : wk_St :=
  (wk_si (wk_si (wk_si (wk_si (wk_si (wk_si (wk_si s 0 43 (0 : Int32)) 0 44 (0 : Int32)) 0 45 (0 : Int32)) 0 46 (0 : Int32)) 0 47 (0 : Int32)) 0 48 (-1 : Int32)) 0 49 (0 : Int32))
def S_X12_daysGo_4 (x1 : Int32) (p : Int32 × wk_St) : Option ((wk_St) ⊕ (Int32 × wk_St)) := match p with
  | (x2, s) =>
    if x2 ≥ x1 then
      some (Sum.inl s)
    else
      if (s.1 1 45) ≥ (9999 : Int32) then
        some (Sum.inl s)
      else
        Option.bind (f_X12_dayGoes s) fun v2 =>
        some (Sum.inr ((x2 + (1 : Int32)), v2))
def f_X12_daysGo (x1 : Int32) (s : wk_St) : Option (wk_St) :=
  wk_let (f_X12_beginsDays s) fun v1 =>
  Option.bind (wk_loop (S_X12_daysGo_4 x1) wk_F ((0 : Int32), v1)) fun v3 =>
  some v3
def f_X12_days (x1 : Int32) (s : wk_St) : Option (Int32 × wk_St) :=
  if (f_X12_in x1 (1 : Int32) (240 : Int32)) = true then
    Option.bind (f_X12_daysGo x1 s) fun v2 =>
    some ((v2.1 0 43), v2)
  else
    some ((-1 : Int32), s)
def j_X12_tried_71 (x3 : Int32) (s : wk_St) : Option (Int32 × wk_St) :=
  Option.bind (f_X12_copies 2 1 s) fun v5 =>
  some (x3, v5)
def j_X12_tried_24 (x1 : Int32) (x2 : Int32) (s : wk_St) : Option (Int32 × wk_St) :=
  Option.bind (f_X12_copies 1 2 s) fun v3 =>
  Option.bind (f_X12_daysGo x1 v3) fun v4 =>
  if x2 = (0 : Int32) then
    j_X12_tried_71 (v4.1 0 43) v4
  else
  if x2 = (1 : Int32) then
    j_X12_tried_71 (v4.1 0 44) v4
  else
  if x2 = (2 : Int32) then
    j_X12_tried_71 (v4.1 0 45) v4
  else
  if x2 = (3 : Int32) then
    j_X12_tried_71 (v4.1 0 46) v4
  else
  if x2 ≥ (20 : Int32) then
    if wk_in (((27 : Int32) + x2) - (20 : Int32)) 47 = true then
      wk_let ((v4.1 1 ((((27 : Int32) + x2) - (20 : Int32)).toNatClampNeg)) : Int32) fun v6 =>
      j_X12_tried_71 v6 v4
    else none
  else
    if wk_in (((18 : Int32) + x2) - (10 : Int32)) 47 = true then
      wk_let ((v4.1 1 ((((18 : Int32) + x2) - (10 : Int32)).toNatClampNeg)) : Int32) fun v7 =>
      j_X12_tried_71 v7 v4
    else none
def f_X12_tried (x1 : Int32) (x2 : Int32) (s : wk_St) : Option (Int32 × wk_St) :=
  if (f_X12_in x1 (1 : Int32) (240 : Int32)) = false then
    some ((-1 : Int32), s)
  else
    if (f_X12_in x2 (0 : Int32) (3 : Int32)) = true then
      j_X12_tried_24 x1 x2 s
    else
      Option.bind (f_X12_isKnight (x2 - (10 : Int32)) s) fun v8 =>
      if v8 = true then
        j_X12_tried_24 x1 x2 s
      else
        Option.bind (f_X12_isKnight (x2 - (20 : Int32)) s) fun v9 =>
        if v9 = true then
          j_X12_tried_24 x1 x2 s
        else
          some ((-1 : Int32), s)
def f_X12_knightIs (x1 : Int32) (x2 : Int32) (s : wk_St) : Option (Int32 × wk_St) :=
  Option.bind (f_X12_isKnight x1 s) fun v1 =>
  if v1 = true then
    if x2 = (0 : Int32) then
      if wk_in ((18 : Int32) + x1) 47 = true then
        some ((s.1 1 (((18 : Int32) + x1).toNatClampNeg)), s)
      else none
    else
    if x2 = (1 : Int32) then
      if wk_in ((9 : Int32) + x1) 47 = true then
        some ((s.1 1 (((9 : Int32) + x1).toNatClampNeg)), s)
      else none
    else
    if x2 = (2 : Int32) then
      if wk_in ((27 : Int32) + x1) 47 = true then
        some ((s.1 1 (((27 : Int32) + x1).toNatClampNeg)), s)
      else none
    else
    if x2 = (3 : Int32) then
      if wk_in ((36 : Int32) + x1) 47 = true then
        some ((s.1 1 (((36 : Int32) + x1).toNatClampNeg)), s)
      else none
    else
    if x2 = (4 : Int32) then
      if wk_in ((18 : Int32) + x1) 47 = true then
        Option.bind (f_X12_toClothes x1 (s.1 1 (((18 : Int32) + x1).toNatClampNeg)) s) fun v2 =>
        some (v2.1, v2.2)
      else none
    else
    some ((-1 : Int32), s)
  else
    some ((-1 : Int32), s)
def f_X12_likes (x1 : Int32) (x2 : Int32) (s : wk_St) : Option (Int32 × wk_St) :=
  Option.bind (f_X12_isLiving x1 s) fun v1 =>
  if v1 = false then
    some ((-1 : Int32), s)
  else
    if (f_X12_isPlace x2 s) = false then
      some ((-1 : Int32), s)
    else
      Option.bind (f_X12_likedNow x1 x2 s) fun v3 =>
      some (v3.1, v3.2)
def S_X12_manAgain_32 (x1 : Int32) (x2 : Int32) (p : Int32 × Int32 × wk_St) : Option ((Int32 × wk_St) ⊕ (Int32 × Int32 × wk_St)) := match p with
  | (x3, x4, s) =>
    if x4 > x2 then
      some (Sum.inl (x3, s))
    else
      if ¬ x3 = (-2 : Int32) then
        some (Sum.inl (x3, s))
      else
        if (s.1 1 45) ≥ (9999 : Int32) then
          some (Sum.inl (x3, s))
        else
          Option.bind (f_X12_dayGoes s) fun v5 =>
          if wk_in ((27 : Int32) + x1) 47 = true then
            if ¬ (v5.1 1 (((27 : Int32) + x1).toNatClampNeg)) = 0 then
              some (Sum.inr (x3, (x4 + (1 : Int32)), v5))
            else
              some (Sum.inr (x4, (x4 + (1 : Int32)), v5))
          else none
def f_X12_manAgain (x1 : Int32) (x2 : Int32) (s : wk_St) : Option (Int32 × wk_St) :=
  Option.bind (f_X12_isKnight x1 s) fun v1 =>
  if v1 = false then
    some ((-1 : Int32), s)
  else
    if (f_X12_in x2 (1 : Int32) (240 : Int32)) = true then
      if wk_in ((27 : Int32) + x1) 47 = true then
        if (s.1 1 (((27 : Int32) + x1).toNatClampNeg)) = (1 : Int32) then
          Option.bind (f_X12_copies 1 2 s) fun v3 =>
          wk_let (f_X12_beginsDays v3) fun v4 =>
          Option.bind (wk_loop (S_X12_manAgain_32 x1 x2) wk_F ((-2 : Int32), (1 : Int32), v4)) fun v6 =>
          Option.bind (f_X12_copies 2 1 v6.2) fun v8 =>
          some (v6.1, v8)
        else
          some ((-3 : Int32), s)
      else none
    else
      some ((-1 : Int32), s)
def f_X12_deadFirst (x1 : Int32) (x2 : Int32) (s : wk_St) : Option (Int32 × wk_St) :=
  if (f_X12_in x1 (1 : Int32) (240 : Int32)) = false then
    some ((-1 : Int32), s)
  else
    if (f_X12_in x2 (0 : Int32) (1 : Int32)) = true then
      Option.bind (f_X12_copies 1 2 s) fun v3 =>
      Option.bind (f_X12_daysGo x1 v3) fun v4 =>
      Option.bind (f_X12_copies 2 1 v4) fun v5 =>
      if ¬ (v5.1 0 48) = (-1 : Int32) then
        if ¬ x2 = 0 then
          some ((v5.1 0 49), v5)
        else
          some ((v5.1 0 48), v5)
      else
        some ((-2 : Int32), v5)
    else
      some ((-1 : Int32), s)
def j_X12_daysHome_76_l48 (x1 : Int32) (x2 : Int32) (x3 : Int32) (x4 : Int32) (x5 : Int32) (x6 : Int32) (s_0 : Int32) (s : wk_St) : Option ((Int32 × wk_St) ⊕ (Int32 × Int32 × wk_St)) :=
  if s_0 = 0 then
    some (Sum.inr (x5, (x6 + (1 : Int32)), s))
  else
    if wk_in x6 12 = true then
      if wk_in x4 61 = true then
        if (((s.1 4 (x6.toNatClampNeg)) ||| ((1 : Int32) <<< (x6 &&& 31))) &&& (s.1 27 (x4.toNatClampNeg))) = 0 then
          some (Sum.inr (x5, (x6 + (1 : Int32)), s))
        else
          wk_let ((x5 ||| ((1 : Int32) <<< (x6 &&& 31))) : Int32) fun v6 =>
          some (Sum.inr (v6, (x6 + (1 : Int32)), s))
      else none
    else none
def S_X12_daysHome_48 (x1 : Int32) (x2 : Int32) (x3 : Int32) (x4 : Int32) (p : Int32 × Int32 × wk_St) : Option ((Int32 × wk_St) ⊕ (Int32 × Int32 × wk_St)) := match p with
  | (x5, x6, s) =>
    if x6 ≥ (12 : Int32) then
      some (Sum.inl (x5, s))
    else
      if ¬ x4 = (1 : Int32) then
        Option.bind (f_X12_isHunted x6 (x4 - (2 : Int32)) s) fun v5 =>
        if v5 = true then
          j_X12_daysHome_76_l48 x1 x2 x3 x4 x5 x6 (0 : Int32) s
        else
          j_X12_daysHome_76_l48 x1 x2 x3 x4 x5 x6 (1 : Int32) s
      else
        if wk_in ((18 : Int32) + x1) 47 = true then
          if ¬ x6 = (s.1 1 (((18 : Int32) + x1).toNatClampNeg)) then
            j_X12_daysHome_76_l48 x1 x2 x3 x4 x5 x6 (0 : Int32) s
          else
            j_X12_daysHome_76_l48 x1 x2 x3 x4 x5 x6 (1 : Int32) s
        else none
def S_X12_daysHome_42 (x1 : Int32) (x2 : Int32) (x3 : Int32) (p : Int32 × wk_St) : Option ((wk_St) ⊕ (Int32 × wk_St)) := match p with
  | (x4, s) =>
    if x4 ≤ 0 then
      some (Sum.inl s)
    else
      Option.bind (wk_loop (S_X12_daysHome_48 x1 x2 x3 x4) wk_F ((0 : Int32), (0 : Int32), s)) fun v7 =>
      if wk_in (x4 - (1 : Int32)) 61 = true then
        some (Sum.inr ((x4 + (-1 : Int32)), (wk_si v7.2 27 ((x4 - (1 : Int32)).toNatClampNeg) v7.1)))
      else none
def S_X12_daysHome_9 (x1 : Int32) (x2 : Int32) (p : Int32 × wk_St) : Option (((Int32 × wk_St) ⊕ (wk_St)) ⊕ (Int32 × wk_St)) := match p with
  | (x3, s) =>
    if x3 > (60 : Int32) then
      some (Sum.inl (Sum.inr s))
    else
      if wk_in ((9 : Int32) + x1) 47 = true then
        if (f_X12_has (s.1 1 (((9 : Int32) + x1).toNatClampNeg)) (f_X12_weekdayIn (x3 - (1 : Int32)) s)) = true then
          some (Sum.inr ((x3 + (1 : Int32)), s))
        else
          Option.bind (f_X12_isHunted x2 (x3 - (1 : Int32)) s) fun v4 =>
          if v4 = false then
            if wk_in x3 61 = true then
              Option.bind (wk_loop (S_X12_daysHome_42 x1 x2 x3) wk_F (x3, (wk_si s 27 (x3.toNatClampNeg) ((1 : Int32) <<< (x2 &&& 31))))) fun v10 =>
              if (v10.1 27 0) = 0 then
                some (Sum.inr ((x3 + (1 : Int32)), v10))
              else
                some (Sum.inl (Sum.inl (x3, v10)))
            else none
          else
            some (Sum.inr ((x3 + (1 : Int32)), s))
      else none
def f_X12_daysHome (x1 : Int32) (s : wk_St) : Option (Int32 × wk_St) :=
  if wk_in ((36 : Int32) + x1) 47 = true then
    wk_let ((s.1 1 (((36 : Int32) + x1).toNatClampNeg)) : Int32) fun v1 =>
    Option.bind (wk_loop (S_X12_daysHome_9 x1 v1) wk_F ((1 : Int32), s)) fun v15 =>
    match v15 with
    | Sum.inl v15r => some v15r
    | Sum.inr v15 =>
      some ((-1 : Int32), v15)
  else none
def S_X12_home_59 (x2 : Int32) (x4 : Int32) (x5 : Int32) (p : Int32 × wk_St) : Option ((Int32 × wk_St) ⊕ (Int32 × wk_St)) := match p with
  | (x6, s) =>
    if wk_in x4 12 = true then
      if wk_in x5 61 = true then
        if (f_X12_has (((s.1 4 (x4.toNatClampNeg)) ||| ((1 : Int32) <<< (x4 &&& 31))) &&& (s.1 27 (x5.toNatClampNeg))) x6) = true then
          some (Sum.inl (x6, s))
        else
          wk_let ((x6 + (1 : Int32)) : Int32) fun v6 =>
          some (Sum.inr (v6, s))
      else none
    else none
def S_X12_home_52 (x2 : Int32) (p : Int32 × Int32 × wk_St) : Option ((Int32 × wk_St) ⊕ (Int32 × Int32 × wk_St)) := match p with
  | (x4, x5, s) =>
    if x5 > (x2 + (1 : Int32)) then
      some (Sum.inl (x4, s))
    else
      Option.bind (wk_loop (S_X12_home_59 x2 x4 x5) wk_F ((0 : Int32), s)) fun v7 =>
      some (Sum.inr (v7.1, (x5 + (1 : Int32)), v7.2))
def j_X12_home_14 (x1 : Int32) (x2 : Int32) (s : wk_St) : Option (Int32 × wk_St) :=
  if wk_in ((27 : Int32) + x1) 47 = true then
    if (s.1 1 (((27 : Int32) + x1).toNatClampNeg)) = (1 : Int32) then
      Option.bind (f_X12_daysHome x1 s) fun v3 =>
      if ¬ v3.1 = (-1 : Int32) then
        if ¬ x2 = (100 : Int32) then
          if x2 < v3.1 then
            if wk_in ((18 : Int32) + x1) 47 = true then
              wk_let ((v3.2.1 1 (((18 : Int32) + x1).toNatClampNeg)) : Int32) fun v4 =>
              Option.bind (wk_loop (S_X12_home_52 x2) wk_F (v4, (1 : Int32), v3.2)) fun v8 =>
              some (v8.1, v8.2)
            else none
          else
            some ((-4 : Int32), v3.2)
        else
          some (v3.1, v3.2)
      else
        some ((-2 : Int32), v3.2)
    else
      some ((-3 : Int32), s)
  else none
def f_X12_home (x1 : Int32) (x2 : Int32) (s : wk_St) : Option (Int32 × wk_St) :=
  Option.bind (f_X12_isKnight x1 s) fun v1 =>
  if v1 = false then
    some ((-1 : Int32), s)
  else
    if (f_X12_in x2 (0 : Int32) (59 : Int32)) = true then
      j_X12_home_14 x1 x2 s
    else
      if x2 = (100 : Int32) then
        j_X12_home_14 x1 x2 s
      else
        some ((-1 : Int32), s)
def S_X12_huntsIn_4 (x1 : Int32) (x2 : Int32) (s : wk_St) (p : Int32 × Int32) : Option ((Int32) ⊕ (Int32 × Int32)) := match p with
  | (x3, x4) =>
    if x4 ≥ x2 then
      some (Sum.inl x3)
    else
      Option.bind (f_X12_isHunted x1 x4 s) fun v1 =>
      if v1 = false then
        some (Sum.inr (x3, (x4 + (1 : Int32))))
      else
        wk_let ((x3 + (1 : Int32)) : Int32) fun v2 =>
        some (Sum.inr (v2, (x4 + (1 : Int32))))
def f_X12_huntsIn (x1 : Int32) (x2 : Int32) (s : wk_St) : Option (Int32) :=
  Option.bind (wk_loop (S_X12_huntsIn_4 x1 x2 s) wk_F ((0 : Int32), (0 : Int32))) fun v3 =>
  some v3
def S_X12_safest_16 (x1 : Int32) (x2 : Int32) (s : wk_St) (p : Int32 × Int32) : Option ((Int32) ⊕ (Int32 × Int32)) := match p with
  | (x3, x4) =>
    if x4 ≥ (12 : Int32) then
      some (Sum.inl x3)
    else
      if (f_X12_isPlace x4 s) = false then
        some (Sum.inr (x3, (x4 + (1 : Int32))))
      else
        if x3 = (-2 : Int32) then
          some (Sum.inr (x4, (x4 + (1 : Int32))))
        else
          Option.bind (f_X12_huntsIn x4 x1 s) fun v4 =>
          Option.bind (f_X12_huntsIn x3 x1 s) fun v5 =>
          if v4 ≥ v5 then
            some (Sum.inr (x3, (x4 + (1 : Int32))))
          else
            some (Sum.inr (x4, (x4 + (1 : Int32))))
def f_X12_safest (x1 : Int32) (x2 : Int32) (s : wk_St) : Option (Int32) :=
  if (f_X12_in x1 (1 : Int32) (240 : Int32)) = false then
    some (-1 : Int32)
  else
    if (f_X12_in x2 (0 : Int32) (1 : Int32)) = true then
      Option.bind (wk_loop (S_X12_safest_16 x1 x2 s) wk_F ((-2 : Int32), (0 : Int32))) fun v6 =>
      if x2 = 0 then
        some v6
      else
        if ¬ v6 = (-2 : Int32) then
          Option.bind (f_X12_huntsIn v6 x1 s) fun v8 =>
          some v8
        else
          some v6
    else
      some (-1 : Int32)
def S_X12_calm_25 (x1 : Int32) (x2 : Int32) (x3 : Int32) (x4 : Int32) (x5 : Int32) (s : wk_St) (p : Int32 × Int32) : Option ((Int32) ⊕ (Int32 × Int32)) := match p with
  | (x6, x7) =>
    if x7 ≥ (9 : Int32) then
      some (Sum.inl x6)
    else
      if ¬ x6 = 0 then
        some (Sum.inr ((1 : Int32), (x7 + (1 : Int32))))
      else
        Option.bind (f_X12_isLiving x7 s) fun v3 =>
        if v3 = false then
          some (Sum.inr ((0 : Int32), (x7 + (1 : Int32))))
        else
          if wk_in ((9 : Int32) + x7) 47 = true then
            if (f_X12_has (s.1 1 (((9 : Int32) + x7).toNatClampNeg)) (f_X12_weekdayIn x5 s)) = false then
              some (Sum.inr ((0 : Int32), (x7 + (1 : Int32))))
            else
              some (Sum.inr ((1 : Int32), (x7 + (1 : Int32))))
          else none
def S_X12_calm_18 (x1 : Int32) (x2 : Int32) (s : wk_St) (p : Int32 × Int32 × Int32) : Option ((Int32 × Int32) ⊕ (Int32 × Int32 × Int32)) := match p with
  | (x3, x4, x5) =>
    if x5 ≥ x1 then
      some (Sum.inl (x3, x4))
    else
      Option.bind (wk_loop (S_X12_calm_25 x1 x2 x3 x4 x5 s) wk_F ((0 : Int32), (0 : Int32))) fun v6 =>
      if v6 = 0 then
        wk_let ((x3 + (1 : Int32)) : Int32) fun v8 =>
        if ¬ x4 = (-2 : Int32) then
          some (Sum.inr (v8, x4, (x5 + (1 : Int32))))
        else
          some (Sum.inr (v8, x5, (x5 + (1 : Int32))))
      else
        some (Sum.inr (x3, x4, (x5 + (1 : Int32))))
def f_X12_calm (x1 : Int32) (x2 : Int32) (s : wk_St) : Option (Int32) :=
  if (f_X12_in x1 (1 : Int32) (240 : Int32)) = false then
    some (-1 : Int32)
  else
    if (f_X12_in x2 (0 : Int32) (1 : Int32)) = true then
      Option.bind (wk_loop (S_X12_calm_18 x1 x2 s) wk_F ((0 : Int32), (-2 : Int32), (0 : Int32))) fun v9 =>
      if ¬ x2 = 0 then
        some v9.2
      else
        some v9.1
    else
      some (-1 : Int32)
def S_X12_farthest_4 (s : wk_St) (p : Int32 × Int32) : Option ((Int32) ⊕ (Int32 × Int32)) := match p with
  | (x1, x2) =>
    if x2 ≥ (12 : Int32) then
      some (Sum.inl x1)
    else
      if wk_in x2 12 = true then
        if (s.1 5 (x2.toNatClampNeg)) = (-1 : Int32) then
          some (Sum.inr (x1, (x2 + (1 : Int32))))
        else
          if x1 = (-1 : Int32) then
            some (Sum.inr (x2, (x2 + (1 : Int32))))
          else
            if wk_in x2 12 = true then
              if wk_in x1 12 = true then
                if (s.1 5 (x2.toNatClampNeg)) ≤ (s.1 5 (x1.toNatClampNeg)) then
                  some (Sum.inr (x1, (x2 + (1 : Int32))))
                else
                  some (Sum.inr (x2, (x2 + (1 : Int32))))
              else none
            else none
      else none
def f_X12_farthest (s : wk_St) : Option (Int32) :=
  Option.bind (wk_loop (S_X12_farthest_4 s) wk_F ((-1 : Int32), (0 : Int32))) fun v1 =>
  some v1
def f_X12_rumour (x1 : Int32) (x2 : Int32) (s : wk_St) : Option (Int32 × wk_St) :=
  if (f_X12_isPlace x1 s) = false then
    some ((-1 : Int32), s)
  else
    if (f_X12_in x2 (0 : Int32) (2 : Int32)) = true then
      Option.bind (f_X12_laysSteps x1 s) fun v3 =>
      Option.bind (f_X12_farthest v3.2) fun v4 =>
      if ¬ x2 = 0 then
        if ¬ x2 = (1 : Int32) then
          Option.bind (f_X12_bits (v3.2.1 0 4)) fun v5 =>
          some ((v5 - v3.1), v3.2)
        else
          some (v4, v3.2)
      else
        if wk_in v4 12 = true then
          some ((v3.2.1 5 (v4.toNatClampNeg)), v3.2)
        else none
    else
      some ((-1 : Int32), s)
def S_X12_middle_8 (p : Int32 × Int32 × Int32 × Int32 × wk_St) : Option ((Int32 × wk_St) ⊕ (Int32 × Int32 × Int32 × Int32 × wk_St)) := match p with
  | (x1, x2, x3, x4, s) =>
    if x4 ≥ (12 : Int32) then
      some (Sum.inl (x1, s))
    else
      if (f_X12_isPlace x4 s) = true then
        Option.bind (f_X12_laysSteps x4 s) fun v2 =>
        Option.bind (f_X12_farthest v2.2) fun v3 =>
        if wk_in v3 12 = true then
          wk_let ((v2.2.1 5 (v3.toNatClampNeg)) : Int32) fun v4 =>
          if v2.1 < x2 then
            some (Sum.inr (x1, x2, x3, (x4 + (1 : Int32)), v2.2))
          else
            if ¬ v2.1 = x2 then
              some (Sum.inr (x4, v2.1, v4, (x4 + (1 : Int32)), v2.2))
            else
              if v4 < x3 then
                some (Sum.inr (x4, v2.1, v4, (x4 + (1 : Int32)), v2.2))
              else
                some (Sum.inr (x1, x2, x3, (x4 + (1 : Int32)), v2.2))
        else none
      else
        some (Sum.inr (x1, x2, x3, (x4 + (1 : Int32)), s))
def f_X12_middle (s : wk_St) : Option (Int32 × wk_St) :=
  Option.bind (wk_loop S_X12_middle_8 wk_F ((-2 : Int32), (0 : Int32), (0 : Int32), (0 : Int32), s)) fun v5 =>
  some (v5.1, v5.2)
def S_X12_between_16 (x1 : Int32) (x2 : Int32) (p : Int32 × wk_St) : Option ((wk_St) ⊕ (Int32 × wk_St)) := match p with
  | (x3, s) =>
    if x3 ≥ (12 : Int32) then
      some (Sum.inl s)
    else
      if wk_in x3 12 = true then
        if wk_in x3 12 = true then
          some (Sum.inr ((x3 + (1 : Int32)), (wk_si s 28 (x3.toNatClampNeg) (s.1 5 (x3.toNatClampNeg)))))
        else none
      else none
def S_X12_between_37 (x2 : Int32) (p : Int32 × Int32 × wk_St) : Option ((Int32 × wk_St) ⊕ (Int32 × Int32 × wk_St)) := match p with
  | (x3, x4, s) =>
    if x4 ≥ (12 : Int32) then
      some (Sum.inl (x3, s))
    else
      if wk_in x4 12 = true then
        if (s.1 5 (x4.toNatClampNeg)) = (-1 : Int32) then
          some (Sum.inr (x3, (x4 + (1 : Int32)), s))
        else
          if wk_in x4 12 = true then
            if ¬ (s.1 28 (x4.toNatClampNeg)) = (-1 : Int32) then
              if wk_in x4 12 = true then
                if wk_in x4 12 = true then
                  if wk_in x2 12 = true then
                    if ¬ ((s.1 5 (x4.toNatClampNeg)) + (s.1 28 (x4.toNatClampNeg))) = (s.1 5 (x2.toNatClampNeg)) then
                      some (Sum.inr (x3, (x4 + (1 : Int32)), s))
                    else
                      wk_let ((x3 ||| ((1 : Int32) <<< (x4 &&& 31))) : Int32) fun v7 =>
                      some (Sum.inr (v7, (x4 + (1 : Int32)), s))
                  else none
                else none
              else none
            else
              some (Sum.inr (x3, (x4 + (1 : Int32)), s))
          else none
      else none
def f_X12_between (x1 : Int32) (x2 : Int32) (s : wk_St) : Option (Int32 × wk_St) :=
  if (f_X12_isPlace x1 s) = false then
    some ((-1 : Int32), s)
  else
    if (f_X12_isPlace x2 s) = true then
      Option.bind (f_X12_laysSteps x2 s) fun v3 =>
      Option.bind (wk_loop (S_X12_between_16 x1 x2) wk_F ((0 : Int32), v3.2)) fun v4 =>
      Option.bind (f_X12_laysSteps x1 v4) fun v6 =>
      Option.bind (wk_loop (S_X12_between_37 x2) wk_F ((0 : Int32), (0 : Int32), v6.2)) fun v8 =>
      some (v8.1, v8.2)
    else
      some ((-1 : Int32), s)
def j_X12_readsSeen_45_l6 (x1 : Int32) (x2 : Int32) (x3 : Int32) (s : wk_St) : Option (((Bool × wk_St) ⊕ (wk_St)) ⊕ (wk_St)) :=
  if x2 = (63 : Int32) then
    some (Sum.inr (wk_si s 0 10 ((s.1 0 10) + (1 : Int32))))
  else
    if (f_X12_isPlace x3 s) = true then
      some (Sum.inr (wk_si s 0 10 ((s.1 0 10) + (1 : Int32))))
    else
      wk_let (f_X12_wrongAt (7 : Int32) (s.1 0 10) s) fun v4 =>
      some (Sum.inl (Sum.inl (v4.1, v4.2)))
def j_X12_readsSeen_25_l6 (x1 : Int32) (x2 : Int32) (s_0 : Int32) (s : wk_St) : Option (((Bool × wk_St) ⊕ (wk_St)) ⊕ (wk_St)) :=
  if x2 = (63 : Int32) then
    j_X12_readsSeen_45_l6 x1 x2 s_0 s
  else
    if (f_X12_in x2 (97 : Int32) (108 : Int32)) = true then
      j_X12_readsSeen_45_l6 x1 x2 s_0 s
    else
      if (f_X12_in x2 (65 : Int32) (76 : Int32)) = true then
        j_X12_readsSeen_45_l6 x1 x2 s_0 s
      else
        wk_let (f_X12_wrongAt (1 : Int32) (s.1 0 10) s) fun v7 =>
        some (Sum.inl (Sum.inl (v7.1, v7.2)))
def S_X12_readsSeen_6 (x1 : Int32) (s : wk_St) : Option (((Bool × wk_St) ⊕ (wk_St)) ⊕ (wk_St)) :=
  if (s.1 0 10) ≥ x1 then
    some (Sum.inl (Sum.inr s))
  else
    Option.bind (f_X12_here s) fun v1 =>
    if (f_X12_in v1 (97 : Int32) (108 : Int32)) = false then
      j_X12_readsSeen_25_l6 x1 v1 (v1 - (65 : Int32)) s
    else
      j_X12_readsSeen_25_l6 x1 v1 (v1 - (97 : Int32)) s
def f_X12_readsSeen (x1 : Int32) (s : wk_St) : Option (Bool × wk_St) :=
  Option.bind (wk_loop (S_X12_readsSeen_6 x1) wk_F (wk_si (wk_si s 0 10 (0 : Int32)) 0 11 x1)) fun v8 =>
  match v8 with
  | Sum.inl v8r => some v8r
  | Sum.inr v8 =>
    some (true, v8)
def f_X12_fitsSeen (x0 : Int32) (x1 : Int32) : Bool :=
  if ¬ x0 = (63 : Int32) then
    if (f_X12_in x0 (97 : Int32) (108 : Int32)) = false then
      if (x0 - (65 : Int32)) = x1 then
        false
      else
        true
    else
      if ¬ (x0 - (97 : Int32)) = x1 then
        false
      else
        true
  else
    true
def S_X12_boots_34 (x1 : Int32) (x2 : Int32) (x3 : Int32) (p : Int32 × wk_St) : Option ((wk_St) ⊕ (Int32 × wk_St)) := match p with
  | (x5, s) =>
    if x5 ≥ (12 : Int32) then
      some (Sum.inl s)
    else
      if ¬ x5 = x1 then
        if wk_in x5 12 = true then
          some (Sum.inr ((x5 + (1 : Int32)), (wk_si s 29 (x5.toNatClampNeg) (0 : Int32))))
        else none
      else
        if wk_in x5 12 = true then
          some (Sum.inr ((x5 + (1 : Int32)), (wk_si s 29 (x5.toNatClampNeg) (1 : Int32))))
        else none
def S_X12_boots_66 (x2 : Int32) (x3 : Int32) (x5 : Int32) (x6 : Int32) (p : Int32 × wk_St) : Option ((wk_St) ⊕ (Int32 × wk_St)) := match p with
  | (x7, s) =>
    if x7 ≥ (12 : Int32) then
      some (Sum.inl s)
    else
      if wk_in x6 12 = true then
        if (f_X12_has ((s.1 4 (x6.toNatClampNeg)) ||| ((1 : Int32) <<< (x6 &&& 31))) x7) = false then
          some (Sum.inr ((x7 + (1 : Int32)), s))
        else
          Option.bind (f_X12_octet x5 s) fun v9 =>
          if (f_X12_fitsSeen v9 x6) = false then
            some (Sum.inr ((x7 + (1 : Int32)), s))
          else
            if wk_in x6 12 = true then
              if wk_in x7 12 = true then
                if wk_in x6 12 = true then
                  some (Sum.inr ((x7 + (1 : Int32)), (wk_si s 30 (x6.toNatClampNeg) (f_X12_min (1000000000 : Int32) ((s.1 30 (x6.toNatClampNeg)) + (s.1 29 (x7.toNatClampNeg)))))))
                else none
              else none
            else none
      else none
def S_X12_boots_56 (x2 : Int32) (x3 : Int32) (x5 : Int32) (p : Int32 × wk_St) : Option ((wk_St) ⊕ (Int32 × wk_St)) := match p with
  | (x6, s) =>
    if x6 ≥ (12 : Int32) then
      some (Sum.inl s)
    else
      if wk_in x6 12 = true then
        Option.bind (wk_loop (S_X12_boots_66 x2 x3 x5 x6) wk_F ((0 : Int32), (wk_si s 30 (x6.toNatClampNeg) (0 : Int32)))) fun v12 =>
        some (Sum.inr ((x6 + (1 : Int32)), v12))
      else none
def S_X12_boots_107 (x2 : Int32) (x3 : Int32) (x5 : Int32) (p : Int32 × wk_St) : Option ((wk_St) ⊕ (Int32 × wk_St)) := match p with
  | (x6, s) =>
    if x6 ≥ (12 : Int32) then
      some (Sum.inl s)
    else
      if wk_in x6 12 = true then
        if wk_in x6 12 = true then
          some (Sum.inr ((x6 + (1 : Int32)), (wk_si s 29 (x6.toNatClampNeg) (s.1 30 (x6.toNatClampNeg)))))
        else none
      else none
def S_X12_boots_51 (x2 : Int32) (x3 : Int32) (p : Int32 × wk_St) : Option ((wk_St) ⊕ (Int32 × wk_St)) := match p with
  | (x5, s) =>
    if x5 ≥ x2 then
      some (Sum.inl s)
    else
      Option.bind (wk_loop (S_X12_boots_56 x2 x3 x5) wk_F ((0 : Int32), s)) fun v14 =>
      Option.bind (wk_loop (S_X12_boots_107 x2 x3 x5) wk_F ((0 : Int32), v14)) fun v17 =>
      some (Sum.inr ((x5 + (1 : Int32)), v17))
def j_X12_boots_142_l128 (x3 : Int32) (x6 : Int32) (x7 : Int32) (s_0 : Int32) (s_1 : Int32) (s : wk_St) : Option ((Int32 × Int32 × wk_St) ⊕ (Int32 × Int32 × Int32 × wk_St)) :=
  if wk_in x7 12 = true then
    wk_let ((f_X12_min (1000000000 : Int32) (x6 + (s.1 29 (x7.toNatClampNeg)))) : Int32) fun v25 =>
    some (Sum.inr ((s_1 ||| s_0), v25, (x7 + (1 : Int32)), s))
  else none
def S_X12_boots_128 (x3 : Int32) (p : Int32 × Int32 × Int32 × wk_St) : Option ((Int32 × Int32 × wk_St) ⊕ (Int32 × Int32 × Int32 × wk_St)) := match p with
  | (x5, x6, x7, s) =>
    if x7 ≥ (12 : Int32) then
      some (Sum.inl (x5, x6, s))
    else
      if wk_in x7 12 = true then
        if (s.1 29 (x7.toNatClampNeg)) ≤ 0 then
          j_X12_boots_142_l128 x3 x6 x7 (0 : Int32) x5 s
        else
          j_X12_boots_142_l128 x3 x6 x7 ((1 : Int32) <<< (x7 &&& 31)) x5 s
      else none
def f_X12_boots (x1 : Int32) (x2 : Int32) (x3 : Int32) (s : wk_St) : Option (Int32 × wk_St) :=
  if (f_X12_isPlace x1 s) = false then
    some ((-1 : Int32), s)
  else
    if (f_X12_in x2 (1 : Int32) (20 : Int32)) = false then
      some ((-1 : Int32), s)
    else
      if (f_X12_in x3 (0 : Int32) (1 : Int32)) = false then
        some ((-1 : Int32), s)
      else
        if x2 ≤ (s.1 0 9) then
          Option.bind (f_X12_readsSeen x2 s) fun v4 =>
          if v4.1 = true then
            Option.bind (wk_loop (S_X12_boots_34 x1 x2 x3) wk_F ((0 : Int32), (wk_si v4.2 0 9 (0 : Int32)))) fun v5 =>
            Option.bind (wk_loop (S_X12_boots_51 x2 x3) wk_F ((0 : Int32), v5)) fun v19 =>
            Option.bind (wk_loop (S_X12_boots_128 x3) wk_F ((0 : Int32), (0 : Int32), (0 : Int32), v19)) fun v26 =>
            if ¬ x3 = 0 then
              some (v26.2.1, v26.2.2)
            else
              some (v26.1, v26.2.2)
          else
            some (((wk_si v4.2 0 9 (0 : Int32)).1 0 12), (wk_si v4.2 0 9 (0 : Int32)))
        else
          some ((-1 : Int32), s)
def j_X12_readsAbsences_56_l12 (x1 : Int32) (x2 : Int32) (x3 : Int32) (s : wk_St) : Option (((Bool × wk_St) ⊕ (wk_St)) ⊕ (wk_St)) :=
  if ¬ x2 = (97 : Int32) then
    some (Sum.inr (wk_si s 0 10 ((s.1 0 10) + (1 : Int32))))
  else
    some (Sum.inr (wk_si (wk_si s 0 55 ((s.1 0 55) ||| ((1 : Int32) <<< (x3 &&& 31)))) 0 10 (((wk_si s 0 55 ((s.1 0 55) ||| ((1 : Int32) <<< (x3 &&& 31)))).1 0 10) + (1 : Int32))))
def j_X12_readsAbsences_34_l12 (x1 : Int32) (x2 : Int32) (s : wk_St) : Option (((Bool × wk_St) ⊕ (wk_St)) ⊕ (wk_St)) :=
  wk_let ((wk_rem (((f_X12_weekdayIn (0 : Int32) s) + (336 : Int32)) - (s.1 0 10)) (7 : Int32)) : Int32) fun v3 =>
  if ¬ x2 = (112 : Int32) then
    j_X12_readsAbsences_56_l12 x1 x2 v3 s
  else
    j_X12_readsAbsences_56_l12 x1 x2 v3 (wk_si s 0 54 ((s.1 0 54) ||| ((1 : Int32) <<< (v3 &&& 31))))
def S_X12_readsAbsences_12 (x1 : Int32) (s : wk_St) : Option (((Bool × wk_St) ⊕ (wk_St)) ⊕ (wk_St)) :=
  if (s.1 0 10) ≥ x1 then
    some (Sum.inl (Sum.inr s))
  else
    Option.bind (f_X12_here s) fun v1 =>
    if v1 = (112 : Int32) then
      j_X12_readsAbsences_34_l12 x1 v1 s
    else
      if v1 = (97 : Int32) then
        j_X12_readsAbsences_34_l12 x1 v1 s
      else
        if v1 = (63 : Int32) then
          j_X12_readsAbsences_34_l12 x1 v1 s
        else
          wk_let (f_X12_wrongAt (1 : Int32) (s.1 0 10) s) fun v4 =>
          some (Sum.inl (Sum.inl (v4.1, v4.2)))
def f_X12_readsAbsences (x1 : Int32) (s : wk_St) : Option (Bool × wk_St) :=
  Option.bind (wk_loop (S_X12_readsAbsences_12 x1) wk_F (wk_si (wk_si (wk_si (wk_si s 0 10 (0 : Int32)) 0 11 x1) 0 54 (0 : Int32)) 0 55 (0 : Int32))) fun v5 =>
  match v5 with
  | Sum.inl v5r => some v5r
  | Sum.inr v5 =>
    some (true, v5)
def S_X12_absences_75 (x2 : Int32) (p : Int32 × Int32 × wk_St) : Option ((Int32 × wk_St) ⊕ (Int32 × Int32 × wk_St)) := match p with
  | (x4, x5, s) =>
    if x5 ≥ (9 : Int32) then
      some (Sum.inl (x4, s))
    else
      Option.bind (f_X12_isKnight x5 s) fun v4 =>
      if v4 = false then
        some (Sum.inr (x4, (x5 + (1 : Int32)), s))
      else
        if wk_in ((9 : Int32) + x5) 47 = true then
          if ((s.1 1 (((9 : Int32) + x5).toNatClampNeg)) &&& (s.1 0 54)) = 0 then
            if x2 = 0 then
              wk_let ((x4 ||| ((1 : Int32) <<< (x5 &&& 31))) : Int32) fun v5 =>
              some (Sum.inr (v5, (x5 + (1 : Int32)), s))
            else
              if wk_in ((9 : Int32) + x5) 47 = true then
                if ¬ ((s.1 0 55) &&& ((s.1 1 (((9 : Int32) + x5).toNatClampNeg)) ^^^ (-1 : Int32))) = 0 then
                  some (Sum.inr (x4, (x5 + (1 : Int32)), s))
                else
                  wk_let ((x4 ||| ((1 : Int32) <<< (x5 &&& 31))) : Int32) fun v6 =>
                  some (Sum.inr (v6, (x5 + (1 : Int32)), s))
              else none
          else
            some (Sum.inr (x4, (x5 + (1 : Int32)), s))
        else none
def S_X12_absences_35 (p : Int32 × Int32 × wk_St) : Option ((Int32 × wk_St) ⊕ (Int32 × Int32 × wk_St)) := match p with
  | (x4, x5, s) =>
    if x5 ≥ (7 : Int32) then
      some (Sum.inl (x4, s))
    else
      wk_let (((((1 : Int32) <<< (x5 &&& 31)) ||| ((1 : Int32) <<< ((wk_rem (x5 + (1 : Int32)) (7 : Int32)) &&& 31))) ||| ((1 : Int32) <<< ((wk_rem (x5 + (2 : Int32)) (7 : Int32)) &&& 31))) : Int32) fun v10 =>
      if ¬ (v10 &&& (s.1 0 54)) = 0 then
        some (Sum.inr (x4, (x5 + (1 : Int32)), s))
      else
        wk_let ((x4 ||| ((1 : Int32) <<< (x5 &&& 31))) : Int32) fun v11 =>
        some (Sum.inr (v11, (x5 + (1 : Int32)), s))
def f_X12_absences (x1 : Int32) (x2 : Int32) (s : wk_St) : Option (Int32 × wk_St) :=
  if (f_X12_in x1 (1 : Int32) (60 : Int32)) = false then
    some ((-1 : Int32), s)
  else
    if (f_X12_in x2 (0 : Int32) (2 : Int32)) = false then
      some ((-1 : Int32), s)
    else
      if x1 ≤ (s.1 0 9) then
        Option.bind (f_X12_readsAbsences x1 s) fun v3 =>
        if v3.1 = true then
          if ¬ x2 = (2 : Int32) then
            Option.bind (wk_loop (S_X12_absences_75 x2) wk_F ((0 : Int32), (0 : Int32), (wk_si v3.2 0 9 (0 : Int32)))) fun v7 =>
            some (v7.1, v7.2)
          else
            Option.bind (wk_loop S_X12_absences_35 wk_F ((0 : Int32), (0 : Int32), (wk_si v3.2 0 9 (0 : Int32)))) fun v12 =>
            some (v12.1, v12.2)
        else
          some (((wk_si v3.2 0 9 (0 : Int32)).1 0 12), (wk_si v3.2 0 9 (0 : Int32)))
      else
        some ((-1 : Int32), s)
def f_X12_twoOctets (x1 : Int32) (s : wk_St) : Option (Int32) :=
  Option.bind (f_X12_octet x1 s) fun v1 =>
  Option.bind (f_X12_octet (x1 + (1 : Int32)) s) fun v2 =>
  some (((256 : Int32) * v1) + v2)
def S_X12_isHated_2 (x1 : Int32) (x2 : Int32) (x3 : Int32) (s : wk_St) (x4 : Int32) : Option (((Bool) ⊕ (Unit)) ⊕ (Int32)) :=
  if x4 ≥ x1 then
    some (Sum.inl (Sum.inr ()))
  else
    Option.bind (f_X12_twoOctets ((2 : Int32) * x4) s) fun v1 =>
    if (f_X12_has v1 x2) = true then
      if (b2i (f_X12_has v1 (15 : Int32))) = (1 : Int32) then
        some (Sum.inr (x4 + (1 : Int32)))
      else
        some (Sum.inl (Sum.inl false))
    else
      if (f_X12_has v1 x3) = false then
        if (b2i (f_X12_has v1 (15 : Int32))) = (0 : Int32) then
          some (Sum.inr (x4 + (1 : Int32)))
        else
          some (Sum.inl (Sum.inl false))
      else
        if (b2i (f_X12_has v1 (15 : Int32))) = (1 : Int32) then
          some (Sum.inr (x4 + (1 : Int32)))
        else
          some (Sum.inl (Sum.inl false))
def f_X12_isHated (x1 : Int32) (x2 : Int32) (x3 : Int32) (s : wk_St) : Option (Bool) :=
  Option.bind (wk_loop (S_X12_isHated_2 x1 x2 x3 s) wk_F (0 : Int32)) fun v5 =>
  match v5 with
  | Sum.inl v5r => some v5r
  | Sum.inr v5 =>
    some true
def S_X12_hated_36 (x1 : Int32) (x2 : Int32) (x6 : Int32) (p : Int32 × Int32 × Int32 × Int32 × wk_St) : Option ((Int32 × Int32 × Int32 × wk_St) ⊕ (Int32 × Int32 × Int32 × Int32 × wk_St)) := match p with
  | (x3, x4, x5, x7, s) =>
    if x7 ≥ (12 : Int32) then
      some (Sum.inl (x3, x4, x5, s))
    else
      Option.bind (f_X12_isHated x1 x6 x7 s) fun v4 =>
      if v4 = true then
        wk_let ((x3 + (1 : Int32)) : Int32) fun v5 =>
        if x4 = (-2 : Int32) then
          some (Sum.inr (v5, x6, x7, (x7 + (1 : Int32)), s))
        else
          some (Sum.inr (v5, x4, x5, (x7 + (1 : Int32)), s))
      else
        some (Sum.inr (x3, x4, x5, (x7 + (1 : Int32)), s))
def S_X12_hated_29 (x1 : Int32) (x2 : Int32) (p : Int32 × Int32 × Int32 × Int32 × wk_St) : Option ((Int32 × Int32 × Int32 × wk_St) ⊕ (Int32 × Int32 × Int32 × Int32 × wk_St)) := match p with
  | (x3, x4, x5, x6, s) =>
    if x6 ≥ (12 : Int32) then
      some (Sum.inl (x3, x4, x5, s))
    else
      wk_let ((x6 + (1 : Int32)) : Int32) fun v3 =>
      Option.bind (wk_loop (S_X12_hated_36 x1 x2 x6) wk_F (x3, x4, x5, v3, s)) fun v6 =>
      some (Sum.inr (v6.1, v6.2.1, v6.2.2.1, (x6 + (1 : Int32)), v6.2.2.2))
def f_X12_hated (x1 : Int32) (x2 : Int32) (s : wk_St) : Option (Int32 × wk_St) :=
  if (f_X12_in x1 (1 : Int32) (16 : Int32)) = false then
    some ((-1 : Int32), s)
  else
    if (f_X12_in x2 (0 : Int32) (2 : Int32)) = false then
      some ((-1 : Int32), s)
    else
      if ((2 : Int32) * x1) ≤ (s.1 0 9) then
        Option.bind (wk_loop (S_X12_hated_29 x1 x2) wk_F ((0 : Int32), (-2 : Int32), (-2 : Int32), (0 : Int32), (wk_si s 0 9 (0 : Int32)))) fun v8 =>
        if ¬ x2 = 0 then
          if ¬ x2 = (1 : Int32) then
            some (v8.2.2.1, v8.2.2.2)
          else
            some (v8.2.1, v8.2.2.2)
        else
          some (v8.1, v8.2.2.2)
      else
        some ((-1 : Int32), s)
def S_X12_suits_58 (x1 : Int32) (x2 : Int32) (x3 : Int32) (x4 : Int32) (x5 : Int32) (p : Int32 × wk_St) : Option ((wk_St) ⊕ (Int32 × wk_St)) := match p with
  | (x6, s) =>
    if x6 ≥ (9 : Int32) then
      some (Sum.inl s)
    else
      if (f_X12_has x4 x6) = false then
        some (Sum.inr ((x6 + (1 : Int32)), s))
      else
        Option.bind (f_X12_twoOctets ((2 : Int32) * x5) s) fun v6 =>
        if (f_X12_has v6 x6) = false then
          some (Sum.inr ((x6 + (1 : Int32)), s))
        else
          if wk_in x4 512 = true then
            if wk_in (x4 &&& (((1 : Int32) <<< (x6 &&& 31)) ^^^ (-1 : Int32))) 512 = true then
              if wk_in x4 512 = true then
                some (Sum.inr ((x6 + (1 : Int32)), (wk_si s 31 (x4.toNatClampNeg) ((s.1 31 (x4.toNatClampNeg)) + (s.1 31 ((x4 &&& (((1 : Int32) <<< (x6 &&& 31)) ^^^ (-1 : Int32))).toNatClampNeg))))))
              else none
            else none
          else none
def j_X12_suits_56_l32 (x1 : Int32) (x2 : Int32) (x3 : Int32) (x4 : Int32) (x5 : Int32) (s : wk_St) : Option ((Int32 × wk_St) ⊕ (Int32 × Int32 × wk_St)) :=
  Option.bind (wk_loop (S_X12_suits_58 x1 x2 x3 x4 x5) wk_F ((0 : Int32), s)) fun v8 =>
  if ¬ x5 = (x1 - (1 : Int32)) then
    some (Sum.inr (x3, (x4 + (1 : Int32)), v8))
  else
    if wk_in x4 512 = true then
      wk_let ((x3 + (v8.1 31 (x4.toNatClampNeg))) : Int32) fun v10 =>
      some (Sum.inr (v10, (x4 + (1 : Int32)), v8))
    else none
def S_X12_suits_32 (x1 : Int32) (x2 : Int32) (p : Int32 × Int32 × wk_St) : Option ((Int32 × wk_St) ⊕ (Int32 × Int32 × wk_St)) := match p with
  | (x3, x4, s) =>
    if x4 ≥ (512 : Int32) then
      some (Sum.inl (x3, s))
    else
      Option.bind (f_X12_bits x4) fun v3 =>
      wk_let ((v3 - (1 : Int32)) : Int32) fun v4 =>
      if wk_in x4 512 = true then
        if v4 ≥ x1 then
          some (Sum.inr (x3, (x4 + (1 : Int32)), (wk_si s 31 (x4.toNatClampNeg) (0 : Int32))))
        else
          if x2 = (-1 : Int32) then
            j_X12_suits_56_l32 x1 x2 x3 x4 v4 (wk_si s 31 (x4.toNatClampNeg) (0 : Int32))
          else
            if (f_X12_has x4 x2) = false then
              j_X12_suits_56_l32 x1 x2 x3 x4 v4 (wk_si s 31 (x4.toNatClampNeg) (0 : Int32))
            else
              some (Sum.inr (x3, (x4 + (1 : Int32)), (wk_si s 31 (x4.toNatClampNeg) (0 : Int32))))
      else none
def f_X12_suits (x1 : Int32) (x2 : Int32) (s : wk_St) : Option (Int32 × wk_St) :=
  if (f_X12_in x1 (1 : Int32) (9 : Int32)) = false then
    some ((-1 : Int32), s)
  else
    if ((2 : Int32) * x1) ≤ (s.1 0 9) then
      if (f_X12_in x2 (-1 : Int32) (8 : Int32)) = true then
        Option.bind (wk_loop (S_X12_suits_32 x1 x2) wk_F ((0 : Int32), (1 : Int32), (wk_si (wk_si s 0 9 (0 : Int32)) 31 0 (1 : Int32)))) fun v12 =>
        some (v12.1, v12.2)
      else
        some ((-2 : Int32), (wk_si s 0 9 (0 : Int32)))
    else
      some ((-1 : Int32), s)
def f_X12_isLeap (x0 : Int32) : Bool :=
  if ¬ (wk_rem x0 (4 : Int32)) = 0 then
    false
  else
    if ¬ (wk_rem x0 (100 : Int32)) = 0 then
      true
    else
      if ¬ (wk_rem x0 (400 : Int32)) = 0 then
        false
      else
        true
def f_X12_daysIn (x0 : Int32) (x1 : Int32) : Int32 :=
  if ¬ x1 = (2 : Int32) then
    if x1 = (4 : Int32) then
      (30 : Int32)
    else
      if x1 = (6 : Int32) then
        (30 : Int32)
      else
        if x1 = (9 : Int32) then
          (30 : Int32)
        else
          if ¬ x1 = (11 : Int32) then
            (31 : Int32)
          else
            (30 : Int32)
  else
    if (f_X12_isLeap x0) = false then
      (28 : Int32)
    else
      (29 : Int32)
def f_X12_isMonth (x0 : Int32) (x1 : Int32) : Bool :=
  if (f_X12_in x0 (1 : Int32) (9999 : Int32)) = false then
    false
  else
    if (f_X12_in x1 (1 : Int32) (12 : Int32)) = false then
      false
    else
      true
def f_X12_isDate (x0 : Int32) (x1 : Int32) (x2 : Int32) : Bool :=
  if (f_X12_isMonth x0 x1) = false then
    false
  else
    if (f_X12_in x2 (1 : Int32) (f_X12_daysIn x0 x1)) = false then
      false
    else
      true
def S_X12_daysTo_26 (x0 : Int32) (x1 : Int32) (p : Int32 × Int32) : Option ((Int32) ⊕ (Int32 × Int32)) := match p with
  | (x4, x5) =>
    if x5 ≥ x1 then
      some (Sum.inl x4)
    else
      wk_let ((x4 + (f_X12_daysIn x0 x5)) : Int32) fun v4 =>
      some (Sum.inr (v4, (x5 + (1 : Int32))))
def f_X12_daysTo (x0 : Int32) (x1 : Int32) (x2 : Int32) : Option (Int32) :=
  wk_let ((x0 - (1 : Int32)) : Int32) fun v1 =>
  wk_let ((((((((365 : Int32) * v1) + (v1 / (4 : Int32))) - (v1 / (100 : Int32))) + (v1 / (400 : Int32))) + x2) - (1 : Int32)) : Int32) fun v2 =>
  Option.bind (wk_loop (S_X12_daysTo_26 x0 x1) wk_F (v2, (1 : Int32))) fun v5 =>
  some v5
def f_X12_weekdayOf (x0 : Int32) (x1 : Int32) (x2 : Int32) : Option (Int32) :=
  Option.bind (f_X12_daysTo x0 x1 x2) fun v1 =>
  some (wk_rem (v1 + (1 : Int32)) (7 : Int32))
def f_X12_weekday (x1 : Int32) (x2 : Int32) (x3 : Int32) : Option (Int32) :=
  if (f_X12_isDate x1 x2 x3) = false then
    some (-1 : Int32)
  else
    Option.bind (f_X12_weekdayOf x1 x2 x3) fun v2 =>
    some v2
def f_X12_daysBetween (x1 : Int32) (x2 : Int32) (x3 : Int32) (x4 : Int32) (x5 : Int32) (x6 : Int32) : Option (Int32) :=
  if (f_X12_isDate x1 x2 x3) = false then
    some (-10000000 : Int32)
  else
    if (f_X12_isDate x4 x5 x6) = true then
      Option.bind (f_X12_daysTo x4 x5 x6) fun v3 =>
      Option.bind (f_X12_daysTo x1 x2 x3) fun v4 =>
      some (v3 - v4)
    else
      some (-10000000 : Int32)
def f_X12_feast (x1 : Int32) (x2 : Int32) (x3 : Int32) (x4 : Int32) : Option (Int32) :=
  if (f_X12_isMonth x1 x2) = false then
    some (-1 : Int32)
  else
    if (f_X12_in x3 (1 : Int32) (5 : Int32)) = false then
      some (-1 : Int32)
    else
      if (f_X12_in x4 (0 : Int32) (6 : Int32)) = true then
        Option.bind (f_X12_weekdayOf x1 x2 (1 : Int32)) fun v4 =>
        wk_let ((((1 : Int32) + (wk_rem ((x4 + (7 : Int32)) - v4) (7 : Int32))) + ((7 : Int32) * (x3 - (1 : Int32)))) : Int32) fun v5 =>
        if v5 > (f_X12_daysIn x1 x2) then
          some (-2 : Int32)
        else
          some v5
      else
        some (-1 : Int32)
def f_X12_easter (x1 : Int32) : Int32 :=
  if (f_X12_in x1 (1 : Int32) (9999 : Int32)) = true then
    wk_let ((wk_rem x1 (19 : Int32)) : Int32) fun v2 =>
    wk_let ((x1 / (100 : Int32)) : Int32) fun v3 =>
    wk_let ((wk_rem x1 (100 : Int32)) : Int32) fun v4 =>
    wk_let ((wk_rem ((((((19 : Int32) * v2) + v3) - (v3 / (4 : Int32))) - (((v3 - ((v3 + (8 : Int32)) / (25 : Int32))) + (1 : Int32)) / (3 : Int32))) + (15 : Int32)) (30 : Int32)) : Int32) fun v5 =>
    wk_let ((wk_rem (((((32 : Int32) + ((2 : Int32) * (wk_rem v3 (4 : Int32)))) + ((2 : Int32) * (v4 / (4 : Int32)))) - v5) - (wk_rem v4 (4 : Int32))) (7 : Int32)) : Int32) fun v6 =>
    wk_let ((((v2 + ((11 : Int32) * v5)) + ((22 : Int32) * v6)) / (451 : Int32)) : Int32) fun v7 =>
    wk_let ((((v5 + v6) - ((7 : Int32) * v7)) + (114 : Int32)) : Int32) fun v8 =>
    ((((100 : Int32) * (v8 / (31 : Int32))) + (wk_rem v8 (31 : Int32))) + (1 : Int32))
  else
    (-1 : Int32)
def S_X12_date_21 (x1 : Int32) (p : Int32 × Int32) : Option ((Int32 × Int32) ⊕ (Int32 × Int32)) := match p with
  | (x3, x4) =>
    if x4 < (f_X12_daysIn x1 x3) then
      some (Sum.inl (x3, x4))
    else
      wk_let ((x4 - (f_X12_daysIn x1 x3)) : Int32) fun v6 =>
      wk_let ((x3 + (1 : Int32)) : Int32) fun v7 =>
      some (Sum.inr (v7, v6))
def j_X12_date_13 (x1 : Int32) (x2 : Int32) (s_0 : Int32) (s_1 : Int32) (s_2 : Int32) : Option (Int32) :=
  if (f_X12_in s_2 s_1 s_0) = true then
    Option.bind (wk_loop (S_X12_date_21 x1) wk_F ((1 : Int32), x2)) fun v8 =>
    some ((((100 : Int32) * v8.1) + v8.2) + (1 : Int32))
  else
    some (-1 : Int32)
def f_X12_date (x1 : Int32) (x2 : Int32) : Option (Int32) :=
  if (f_X12_in x1 (1 : Int32) (9999 : Int32)) = false then
    some (-1 : Int32)
  else
    if (f_X12_isLeap x1) = false then
      j_X12_date_13 x1 x2 (364 : Int32) (0 : Int32) x2
    else
      j_X12_date_13 x1 x2 (365 : Int32) (0 : Int32) x2
def f_X12_seed (x1 : Int32) (s : wk_St) : Bool × wk_St :=
  if (f_X12_in x1 (0 : Int32) (65535 : Int32)) = true then
    (true, (wk_si s 1 46 x1))
  else
    (false, s)
def f_X12_keep (s : wk_St) : Option (Int32 × wk_St) :=
  Option.bind (f_X12_copies 1 3 (wk_si s 0 57 (1 : Int32))) fun v1 =>
  some ((v1.1 1 45), v1)
def f_X12_undo (s : wk_St) : Option (Bool × wk_St) :=
  if ¬ (s.1 0 57) = 0 then
    Option.bind (f_X12_copies 3 1 s) fun v1 =>
    some (true, v1)
  else
    some (false, s)
def S_X12_check_16 (x1 : Int32) (p : Int32 × wk_St) : Option (((Int32 × wk_St) ⊕ (wk_St)) ⊕ (Int32 × wk_St)) := match p with
  | (x2, s) =>
    if x2 ≥ x1 then
      some (Sum.inl (Sum.inr s))
    else
      Option.bind (f_X12_octet x2 s) fun v2 =>
      Option.bind (f_X12_isKnight x2 s) fun v3 =>
      if v3 = false then
        if v2 = (255 : Int32) then
          some (Sum.inr ((x2 + (1 : Int32)), s))
        else
          some (Sum.inl (Sum.inl (x2, s)))
      else
        if wk_in ((18 : Int32) + x2) 47 = true then
          if v2 = (s.1 1 (((18 : Int32) + x2).toNatClampNeg)) then
            some (Sum.inr ((x2 + (1 : Int32)), s))
          else
            some (Sum.inl (Sum.inl (x2, s)))
        else none
def f_X12_check (x1 : Int32) (s : wk_St) : Option (Int32 × wk_St) :=
  if (f_X12_in x1 (0 : Int32) (9 : Int32)) = false then
    some ((-2 : Int32), s)
  else
    if x1 ≤ (s.1 0 9) then
      Option.bind (wk_loop (S_X12_check_16 x1) wk_F ((0 : Int32), (wk_si s 0 9 (0 : Int32)))) fun v4 =>
      match v4 with
      | Sum.inl v4r => some v4r
      | Sum.inr v4 =>
        some ((-1 : Int32), v4)
    else
      some ((-2 : Int32), s)
def S_X12_setOf_4 (x1 : Int32) (s : wk_St) (p : Int32 × Int32) : Option ((Int32) ⊕ (Int32 × Int32)) := match p with
  | (x2, x3) =>
    if x3 ≥ (9 : Int32) then
      some (Sum.inl x2)
    else
      Option.bind (f_X12_isKnight x3 s) fun v1 =>
      if v1 = false then
        some (Sum.inr (x2, (x3 + (1 : Int32))))
      else
        if wk_in ((27 : Int32) + x3) 47 = true then
          if ¬ (s.1 1 (((27 : Int32) + x3).toNatClampNeg)) = x1 then
            some (Sum.inr (x2, (x3 + (1 : Int32))))
          else
            wk_let ((x2 ||| ((1 : Int32) <<< (x3 &&& 31))) : Int32) fun v2 =>
            some (Sum.inr (v2, (x3 + (1 : Int32))))
        else none
def f_X12_setOf (x1 : Int32) (s : wk_St) : Option (Int32) :=
  Option.bind (wk_loop (S_X12_setOf_4 x1 s) wk_F ((0 : Int32), (0 : Int32))) fun v3 =>
  some v3
def f_X12_count (x1 : Int32) (s : wk_St) : Option (Int32) :=
  if x1 = (0 : Int32) then
    some (s.1 1 45)
  else
  if x1 = (1 : Int32) then
    some (f_X12_weekdayIn (0 : Int32) s)
  else
  if x1 = (2 : Int32) then
    some (s.1 0 4)
  else
  if x1 = (3 : Int32) then
    Option.bind (f_X12_setOf (0 : Int32) s) fun v2 =>
    Option.bind (f_X12_setOf (1 : Int32) s) fun v3 =>
    Option.bind (f_X12_setOf (2 : Int32) s) fun v4 =>
    some ((v2 ||| v3) ||| v4)
  else
  if x1 = (4 : Int32) then
    Option.bind (f_X12_setOf (1 : Int32) s) fun v5 =>
    some v5
  else
  if x1 = (5 : Int32) then
    Option.bind (f_X12_setOf (2 : Int32) s) fun v6 =>
    some v6
  else
  if x1 = (6 : Int32) then
    some (s.1 0 18)
  else
  if x1 = (7 : Int32) then
    some (s.1 0 9)
  else
  if x1 = (8 : Int32) then
    some (s.1 1 46)
  else
  if (f_X12_isPlace (x1 - (20 : Int32)) s) = false then
    if (f_X12_in x1 (40 : Int32) (51 : Int32)) = false then
      some (-1 : Int32)
    else
      if wk_in (x1 - (40 : Int32)) 12 = true then
        some (s.1 22 ((x1 - (40 : Int32)).toNatClampNeg))
      else none
  else
    if wk_in (x1 - (20 : Int32)) 12 = true then
      some (s.1 4 ((x1 - (20 : Int32)).toNatClampNeg))
    else none
