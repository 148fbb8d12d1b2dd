def f_X11_isWithin (x0 : Int32) (x1 : Int32) (x2 : Int32) : Bool :=
  if x0 < x1 then
    false
  else
    if x0 > x2 then
      false
    else
      true
def f_X11_hasBit (x0 : Int32) (x1 : Int32) : Bool :=
  if x1 < 0 then
    false
  else
    if x1 ≥ (32 : Int32) then
      false
    else
      if ((wk_ushr x0 x1) &&& (1 : Int32)) = 0 then
        false
      else
        true
def S_X2_spread_4 (x1 : Int32) (s : wk_St) (p : Int32 × Int32) : Option ((Int32) ⊕ (Int32 × Int32)) := match p with
  | (x2, x3) =>
    if x3 ≥ (12 : Int32) then
      some (Sum.inl x2)
    else
      if (f_X11_hasBit x1 x3) = false then
        some (Sum.inr (x2, (x3 + (1 : Int32))))
      else
        if wk_in x3 12 = true then
          wk_let ((x2 ||| (s.1 4 (x3.toNatClampNeg))) : Int32) fun v2 =>
          some (Sum.inr (v2, (x3 + (1 : Int32))))
        else none
def f_X2_spread (x1 : Int32) (s : wk_St) : Option (Int32) :=
  Option.bind (wk_loop (S_X2_spread_4 x1 s) wk_F (x1, (0 : Int32))) fun v3 =>
  some v3
def S_X2_noteSteps_2 (x1 : Int32) (x2 : Int32) (x3 : Int32) (p : Int32 × wk_St) : Option ((wk_St) ⊕ (Int32 × wk_St)) := match p with
  | (x4, s) =>
    if x4 ≥ (12 : Int32) then
      some (Sum.inl s)
    else
      wk_let (((x1 * (12 : Int32)) + x4) : Int32) fun v1 =>
      if (f_X11_hasBit x2 x4) = false then
        some (Sum.inr ((x4 + (1 : Int32)), s))
      else
        if v1 < 0 then
          some (Sum.inr ((x4 + (1 : Int32)), s))
        else
          if v1 ≥ (144 : Int32) then
            some (Sum.inr ((x4 + (1 : Int32)), s))
          else
            if wk_in v1 144 = true then
              some (Sum.inr ((x4 + (1 : Int32)), (wk_si s 5 (v1.toNatClampNeg) x3)))
            else none
def f_X2_noteSteps (x1 : Int32) (x2 : Int32) (x3 : Int32) (s : wk_St) : Option (wk_St) :=
  Option.bind (wk_loop (S_X2_noteSteps_2 x1 x2 x3) wk_F ((0 : Int32), s)) fun v3 =>
  some v3
def S_X2_reckonSteps_14 (x1 : Int32) (x2 : Int32) (p : Int32 × wk_St) : Option ((wk_St) ⊕ (Int32 × wk_St)) := match p with
  | (x3, s) =>
    if x3 ≥ (12 : Int32) then
      some (Sum.inl s)
    else
      if (f_X11_hasBit x2 x3) = false then
        if wk_in ((x1 * (12 : Int32)) + x3) 144 = true then
          some (Sum.inr ((x3 + (1 : Int32)), (wk_si s 5 (((x1 * (12 : Int32)) + x3).toNatClampNeg) (99 : Int32))))
        else none
      else
        if wk_in ((x1 * (12 : Int32)) + x3) 144 = true then
          some (Sum.inr ((x3 + (1 : Int32)), (wk_si s 5 (((x1 * (12 : Int32)) + x3).toNatClampNeg) (0 : Int32))))
        else none
def j_X2_reckonSteps_53_l38 (x1 : Int32) (x2 : Int32) (x4 : Int32) (x5 : Int32) (s_0 : Int32) (s : wk_St) : Option ((wk_St) ⊕ (Int32 × Int32 × Int32 × wk_St)) :=
  Option.bind (f_X2_noteSteps x1 (x5 &&& (x2 ^^^ (-1 : Int32))) x4 s) fun v6 =>
  some (Sum.inr (x5, s_0, (x4 + (1 : Int32)), v6))
def S_X2_reckonSteps_38 (x1 : Int32) (p : Int32 × Int32 × Int32 × wk_St) : Option ((wk_St) ⊕ (Int32 × Int32 × Int32 × wk_St)) := match p with
  | (x2, x3, x4, s) =>
    if x4 ≥ (12 : Int32) then
      some (Sum.inl s)
    else
      if ¬ x3 = 0 then
        some (Sum.inl s)
      else
        Option.bind (f_X2_spread x2 s) fun v5 =>
        if ¬ v5 = x2 then
          j_X2_reckonSteps_53_l38 x1 x2 x4 v5 (0 : Int32) s
        else
          j_X2_reckonSteps_53_l38 x1 x2 x4 v5 (1 : Int32) s
def S_X2_reckonSteps_2 (p : Int32 × wk_St) : Option ((wk_St) ⊕ (Int32 × wk_St)) := match p with
  | (x1, s) =>
    if x1 ≥ (12 : Int32) then
      some (Sum.inl s)
    else
      wk_let (((s.1 3 4) &&& ((1 : Int32) <<< (x1 &&& 31))) : Int32) fun v1 =>
      Option.bind (wk_loop (S_X2_reckonSteps_14 x1 v1) wk_F ((0 : Int32), s)) fun v3 =>
      Option.bind (wk_loop (S_X2_reckonSteps_38 x1) wk_F (v1, (0 : Int32), (1 : Int32), v3)) fun v7 =>
      some (Sum.inr ((x1 + (1 : Int32)), v7))
def f_X2_reckonSteps (s : wk_St) : Option (wk_St) :=
  Option.bind (wk_loop S_X2_reckonSteps_2 wk_F ((0 : Int32), s)) fun v12 =>
  some v12
def f_X2_tell (x1 : Int32) (s : wk_St) : Option (Bool × wk_St) :=
  if (f_X11_isWithin x1 (0 : Int32) (11 : Int32)) = true then
    Option.bind (f_X2_reckonSteps (wk_si s 3 4 ((s.1 3 4) ||| ((1 : Int32) <<< (x1 &&& 31))))) fun v2 =>
    some (true, v2)
  else
    some (false, s)
def f_X11_place (x1 : Int32) (s : wk_St) : Option (Bool × wk_St) :=
  Option.bind (f_X2_tell x1 s) fun v1 =>
  some (v1.1, v1.2)
def f_X2_isTold (x1 : Int32) (s : wk_St) : Bool :=
  if x1 ≥ (12 : Int32) then
    false
  else
    if (f_X11_hasBit (s.1 3 4) x1) = false then
      false
    else
      true
def f_X2_setNext (x1 : Int32) (x2 : Int32) (x3 : Int32) (s : wk_St) : Option (wk_St) :=
  if (f_X11_isWithin x1 (0 : Int32) (11 : Int32)) = false then
    some s
  else
    if (f_X11_isWithin x2 (0 : Int32) (11 : Int32)) = false then
      some s
    else
      wk_let (((1 : Int32) <<< (x2 &&& 31)) : Int32) fun v3 =>
      if x3 = 0 then
        if wk_in x1 12 = true then
          if wk_in x1 12 = true then
            some (wk_si s 4 (x1.toNatClampNeg) ((s.1 4 (x1.toNatClampNeg)) &&& (v3 ^^^ (-1 : Int32))))
          else none
        else none
      else
        if wk_in x1 12 = true then
          if wk_in x1 12 = true then
            some (wk_si s 4 (x1.toNatClampNeg) ((s.1 4 (x1.toNatClampNeg)) ||| v3))
          else none
        else none
def f_X2_join (x1 : Int32) (x2 : Int32) (x3 : Int32) (s : wk_St) : Option (Bool × wk_St) :=
  if (f_X2_isTold x1 s) = false then
    some (false, s)
  else
    if (f_X2_isTold x2 s) = false then
      some (false, s)
    else
      if ¬ x1 = x2 then
        Option.bind (f_X2_setNext x1 x2 x3 s) fun v3 =>
        Option.bind (f_X2_setNext x2 x1 x3 v3) fun v4 =>
        Option.bind (f_X2_reckonSteps v4) fun v5 =>
        some (true, v5)
      else
        some (false, s)
def f_X11_next (x1 : Int32) (x2 : Int32) (x3 : Int32) (s : wk_St) : Option (Bool × wk_St) :=
  Option.bind (f_X2_join x1 x2 x3 s) fun v1 =>
  some (v1.1, v1.2)
def f_X0_enter (x1 : Int32) (x2 : Int32) (x3 : Int32) (s : wk_St) : Option (Bool × wk_St) :=
  if (f_X11_isWithin x1 (0 : Int32) (8 : Int32)) = true then
    if wk_in x1 9 = true then
      if wk_in x1 9 = true then
        if wk_in x1 9 = true then
          if wk_in x1 9 = true then
            some (true, (wk_si (wk_si (wk_si (wk_si (wk_si s 8 4 ((s.1 8 4) ||| ((1 : Int32) <<< (x1 &&& 31)))) 9 (x1.toNatClampNeg) x2) 10 (x1.toNatClampNeg) x3) 11 (x1.toNatClampNeg) (0 : Int32)) 12 (x1.toNatClampNeg) (-2 : Int32)))
          else none
        else none
      else none
    else none
  else
    some (false, s)
def f_X11_knight (x1 : Int32) (x2 : Int32) (x3 : Int32) (s : wk_St) : Option (Bool × wk_St) :=
  if (f_X2_isTold x2 s) = false then
    some (false, s)
  else
    if (f_X11_isWithin x3 (0 : Int32) (127 : Int32)) = true then
      Option.bind (f_X0_enter x1 x2 x3 s) fun v3 =>
      some (v3.1, v3.2)
    else
      some (false, s)
def f_X2_beginWeekOn (x1 : Int32) (s : wk_St) : Bool × wk_St :=
  if (f_X11_isWithin x1 (0 : Int32) (6 : Int32)) = true then
    (true, (wk_si s 3 5 x1))
  else
    (false, s)
def f_X11_first (x1 : Int32) (s : wk_St) : Bool × wk_St :=
  wk_let (f_X2_beginWeekOn x1 s) fun v1 =>
  (v1.1, v1.2)
def f_X11_seed (x1 : Int32) (s : wk_St) : Bool × wk_St :=
  if (f_X11_isWithin x1 (0 : Int32) (65535 : Int32)) = true then
    (true, (wk_si s 8 6 x1))
  else
    (false, s)
def f_X8_hasRoom (s : wk_St) : Bool :=
  if ((s.1 1 1) + (20 : Int32)) > (260 : Int32) then
    false
  else
    true
def S_X8_append_2 (x1 : Int32) (p : Int32 × wk_St) : Option ((wk_St) ⊕ (Int32 × wk_St)) := match p with
  | (x2, s) =>
    if x2 < 0 then
      some (Sum.inl s)
    else
      if (s.1 1 1) < 0 then
        some (Sum.inr ((x2 + (-8 : Int32)), s))
      else
        if (s.1 1 1) ≥ (260 : Int32) then
          some (Sum.inr ((x2 + (-8 : Int32)), s))
        else
          if wk_in (s.1 1 1) 260 = true then
            some (Sum.inr ((x2 + (-8 : Int32)), (wk_si (wk_si s 2 ((s.1 1 1).toNatClampNeg) ((wk_ushr x1 x2) &&& (255 : Int32))) 1 1 (((wk_si s 2 ((s.1 1 1).toNatClampNeg) ((wk_ushr x1 x2) &&& (255 : Int32))).1 1 1) + (1 : Int32)))))
          else none
def f_X8_append (x1 : Int32) (s : wk_St) : Option (wk_St) :=
  Option.bind (wk_loop (S_X8_append_2 x1) wk_F ((24 : Int32), s)) fun v1 =>
  some v1
def f_X11_feed (x1 : Int32) (x2 : Int32) (x3 : Int32) (x4 : Int32) (x5 : Int32) (s : wk_St) : Option (Int32 × wk_St) :=
  if (f_X8_hasRoom s) = true then
    Option.bind (f_X8_append x1 s) fun v2 =>
    Option.bind (f_X8_append x2 v2) fun v3 =>
    Option.bind (f_X8_append x3 v3) fun v4 =>
    Option.bind (f_X8_append x4 v4) fun v5 =>
    Option.bind (f_X8_append x5 v5) fun v6 =>
    some ((v6.1 1 1), v6)
  else
    some ((-1 : Int32), s)
def S_X4_copyFrom_2 (p : Int32 × wk_St) : Option ((wk_St) ⊕ (Int32 × wk_St)) := match p with
  | (x2, s) =>
    if x2 ≥ (16 : Int32) then
      some (Sum.inl s)
    else
      if wk_in x2 16 = true then
        if wk_in x2 16 = true then
          if wk_in x2 16 = true then
            if wk_in x2 16 = true then
              if wk_in x2 16 = true then
                if wk_in x2 16 = true then
                  if wk_in x2 16 = true then
                    if wk_in x2 16 = true then
                      some (Sum.inr ((x2 + (1 : Int32)), (wk_si (wk_si (wk_si (wk_si s 38 (x2.toNatClampNeg) (s.1 46 (x2.toNatClampNeg))) 39 (x2.toNatClampNeg) ((wk_si s 38 (x2.toNatClampNeg) (s.1 46 (x2.toNatClampNeg))).1 47 (x2.toNatClampNeg))) 40 (x2.toNatClampNeg) ((wk_si (wk_si s 38 (x2.toNatClampNeg) (s.1 46 (x2.toNatClampNeg))) 39 (x2.toNatClampNeg) ((wk_si s 38 (x2.toNatClampNeg) (s.1 46 (x2.toNatClampNeg))).1 47 (x2.toNatClampNeg))).1 48 (x2.toNatClampNeg))) 41 (x2.toNatClampNeg) ((wk_si (wk_si (wk_si s 38 (x2.toNatClampNeg) (s.1 46 (x2.toNatClampNeg))) 39 (x2.toNatClampNeg) ((wk_si s 38 (x2.toNatClampNeg) (s.1 46 (x2.toNatClampNeg))).1 47 (x2.toNatClampNeg))) 40 (x2.toNatClampNeg) ((wk_si (wk_si s 38 (x2.toNatClampNeg) (s.1 46 (x2.toNatClampNeg))) 39 (x2.toNatClampNeg) ((wk_si s 38 (x2.toNatClampNeg) (s.1 46 (x2.toNatClampNeg))).1 47 (x2.toNatClampNeg))).1 48 (x2.toNatClampNeg))).1 49 (x2.toNatClampNeg)))))
                    else none
                  else none
                else none
              else none
            else none
          else none
        else none
      else none
def S_X4_copyFrom_41 (p : Int32 × wk_St) : Option ((wk_St) ⊕ (Int32 × wk_St)) := match p with
  | (x2, s) =>
    if x2 ≥ (240 : Int32) then
      some (Sum.inl s)
    else
      if wk_in x2 240 = true then
        if wk_in x2 240 = true then
          if wk_in x2 240 = true then
            if wk_in x2 240 = true then
              some (Sum.inr ((x2 + (1 : Int32)), (wk_si (wk_si s 42 (x2.toNatClampNeg) (s.1 50 (x2.toNatClampNeg))) 43 (x2.toNatClampNeg) ((wk_si s 42 (x2.toNatClampNeg) (s.1 50 (x2.toNatClampNeg))).1 51 (x2.toNatClampNeg)))))
            else none
          else none
        else none
      else none
def f_X4_copyFrom (s : wk_St) : Option (wk_St) :=
  Option.bind (wk_loop S_X4_copyFrom_2 wk_F ((0 : Int32), s)) fun v1 =>
  Option.bind (wk_loop S_X4_copyFrom_41 wk_F ((0 : Int32), v1)) fun v3 =>
  some (wk_si (wk_si v3 37 7 (v3.1 45 7)) 37 8 ((wk_si v3 37 7 (v3.1 45 7)).1 45 8))
def f_X4_clear (s : wk_St) : wk_St :=
  (wk_si (wk_si s 45 7 (0 : Int32)) 45 8 (0 : Int32))
def f_X4_closeRule (s : wk_St) : Option (wk_St) :=
  if (s.1 45 7) < 0 then
    some s
  else
    if (s.1 45 7) ≥ (16 : Int32) then
      some s
    else
      if wk_in (s.1 45 7) 16 = true then
        some (wk_si (wk_si s 49 ((s.1 45 7).toNatClampNeg) (s.1 45 8)) 45 7 (((wk_si s 49 ((s.1 45 7).toNatClampNeg) (s.1 45 8)).1 45 7) + (1 : Int32)))
      else none
def f_X4_isFull (s : wk_St) : Bool :=
  if (s.1 45 7) < (16 : Int32) then
    false
  else
    true
def f_X4_openRule (x1 : Int32) (s : wk_St) : Option (wk_St) :=
  if (s.1 45 7) < 0 then
    some s
  else
    if (s.1 45 7) ≥ (16 : Int32) then
      some s
    else
      if wk_in (s.1 45 7) 16 = true then
        if wk_in ((wk_si s 46 ((s.1 45 7).toNatClampNeg) x1).1 45 7) 16 = true then
          some (wk_si (wk_si s 46 ((s.1 45 7).toNatClampNeg) x1) 47 (((wk_si s 46 ((s.1 45 7).toNatClampNeg) x1).1 45 7).toNatClampNeg) ((wk_si s 46 ((s.1 45 7).toNatClampNeg) x1).1 45 8))
        else none
      else none
def f_X6_blame (k0 : Nat) (x1 : Int32) (x2 : Int32) (s : wk_St) : Bool × wk_St :=
  (false, (wk_si s k0 2 (((-1000 : Int32) * x1) - x2)))
def j_X5_readKind_15 (x1 : Int32) (s : wk_St) : Option (Bool × wk_St) :=
  if (f_X4_isFull s) = false then
    Option.bind (f_X4_openRule x1 (wk_si s 34 3 ((s.1 34 3) + (1 : Int32)))) fun v2 =>
    some (true, v2)
  else
    wk_let (f_X6_blame 34 (4 : Int32) (s.1 34 3) s) fun v3 =>
    some (v3.1, v3.2)
def f_X5_readKind (x1 : Int32) (s : wk_St) : Option (Bool × wk_St) :=
  if x1 = (101 : Int32) then
    j_X5_readKind_15 x1 s
  else
    if x1 = (104 : Int32) then
      j_X5_readKind_15 x1 s
    else
      if x1 = (115 : Int32) then
        j_X5_readKind_15 x1 s
      else
        wk_let (f_X6_blame 34 (1 : Int32) (s.1 34 3) s) fun v4 =>
        some (v4.1, v4.2)
def f_X4_openTests (s : wk_St) : Option (wk_St) :=
  if (s.1 45 7) < 0 then
    some s
  else
    if (s.1 45 7) ≥ (16 : Int32) then
      some s
    else
      if wk_in (s.1 45 7) 16 = true then
        some (wk_si s 48 ((s.1 45 7).toNatClampNeg) (s.1 45 8))
      else none
def f_X6_sign (k0 : Nat) (s : wk_St) : Option (Int32) :=
  if (s.1 k0 3) < 0 then
    some (-1 : Int32)
  else
    if (s.1 k0 3) ≥ (s.1 k0 1) then
      some (-1 : Int32)
    else
      if (s.1 k0 3) ≥ (240 : Int32) then
        some (-1 : Int32)
      else
        if wk_in (s.1 k0 3) 240 = true then
          some (s.1 (k0 + 1) ((s.1 k0 3).toNatClampNeg))
        else none
def f_X6_pass (k0 : Nat) (x1 : Int32) (s : wk_St) : Option (Bool × wk_St) :=
  Option.bind (f_X6_sign k0 s) fun v1 =>
  if v1 = x1 then
    some (true, (wk_si s k0 3 ((s.1 k0 3) + (1 : Int32))))
  else
    wk_let (f_X6_blame k0 (1 : Int32) (s.1 k0 3) s) fun v2 =>
    some (v2.1, v2.2)
def f_X5_openTests (s : wk_St) : Option (Bool × wk_St) :=
  Option.bind (f_X4_openTests s) fun v1 =>
  Option.bind (f_X6_pass 34 (40 : Int32) v1) fun v2 =>
  some (v2.1, v2.2)
def f_X4_put (x1 : Int32) (x2 : Int32) (s : wk_St) : Option (Int32 × wk_St) :=
  if (s.1 45 8) < 0 then
    some ((-1 : Int32), s)
  else
    if (s.1 45 8) < (240 : Int32) then
      if wk_in (s.1 45 8) 240 = true then
        if wk_in ((wk_si s 50 ((s.1 45 8).toNatClampNeg) x1).1 45 8) 240 = true then
          some ((((wk_si (wk_si (wk_si s 50 ((s.1 45 8).toNatClampNeg) x1) 51 (((wk_si s 50 ((s.1 45 8).toNatClampNeg) x1).1 45 8).toNatClampNeg) x2) 45 8 (((wk_si (wk_si s 50 ((s.1 45 8).toNatClampNeg) x1) 51 (((wk_si s 50 ((s.1 45 8).toNatClampNeg) x1).1 45 8).toNatClampNeg) x2).1 45 8) + (1 : Int32))).1 45 8) - (1 : Int32)), (wk_si (wk_si (wk_si s 50 ((s.1 45 8).toNatClampNeg) x1) 51 (((wk_si s 50 ((s.1 45 8).toNatClampNeg) x1).1 45 8).toNatClampNeg) x2) 45 8 (((wk_si (wk_si s 50 ((s.1 45 8).toNatClampNeg) x1) 51 (((wk_si s 50 ((s.1 45 8).toNatClampNeg) x1).1 45 8).toNatClampNeg) x2).1 45 8) + (1 : Int32))))
        else none
      else none
    else
      some ((-1 : Int32), s)
def f_X4_skipToHere (x1 : Int32) (s : wk_St) : Option (wk_St) :=
  if x1 < 0 then
    some s
  else
    if x1 ≥ (240 : Int32) then
      some s
    else
      if wk_in x1 240 = true then
        some (wk_si s 51 (x1.toNatClampNeg) (s.1 45 8))
      else none
def f_X5_open (x1 : Int32) (s : wk_St) : Bool × wk_St :=
  if x1 < (6 : Int32) then
    (true, (wk_si s 34 3 ((s.1 34 3) + (1 : Int32))))
  else
    wk_let (f_X6_blame 34 (5 : Int32) (s.1 34 3) s) fun v1 =>
    (v1.1, v1.2)
def j_X4_letterOf_18 : Int32 :=
  (-1 : Int32)
def f_X4_letterOf (x0 : Int32) : Int32 :=
  if x0 = (102 : Int32) then
    (4 : Int32)
  else
  if x0 = (106 : Int32) then
    (3 : Int32)
  else
  if x0 = (107 : Int32) then
    (0 : Int32)
  else
  if x0 = (110 : Int32) then
    (2 : Int32)
  else
  if x0 = (111 : Int32) then
    (5 : Int32)
  else
  if x0 = (112 : Int32) then
    (1 : Int32)
  else
  if x0 = (116 : Int32) then
    (7 : Int32)
  else
  if x0 = (119 : Int32) then
    (6 : Int32)
  else
  j_X4_letterOf_18
def f_X6_isDigit (x0 : Int32) : Bool :=
  if x0 < (48 : Int32) then
    false
  else
    if x0 > (57 : Int32) then
      false
    else
      true
def S_X6_readNumber_4 (k0 : Nat) (x1 : Int32) (p : Int32 × Int32 × wk_St) : Option ((Int32 × Int32 × wk_St) ⊕ (Int32 × Int32 × wk_St)) := match p with
  | (x2, x3, s) =>
    if x3 ≥ x1 then
      some (Sum.inl (x2, x3, s))
    else
      Option.bind (f_X6_sign k0 s) fun v1 =>
      if (f_X6_isDigit v1) = false then
        some (Sum.inl (x2, x3, s))
      else
        Option.bind (f_X6_sign k0 s) fun v3 =>
        wk_let (((((10 : Int32) * x2) + v3) - (48 : Int32)) : Int32) fun v4 =>
        some (Sum.inr (v4, (x3 + (1 : Int32)), (wk_si s k0 3 ((s.1 k0 3) + (1 : Int32)))))
def j_X6_readNumber_36 (k0 : Nat) (x4 : Int32) (s : wk_St) : Option (Int32 × wk_St) :=
  if x4 = 0 then
    wk_let (f_X6_blame k0 (1 : Int32) (s.1 k0 3) s) fun v8 =>
    some ((-1 : Int32), v8.2)
  else
    wk_let (f_X6_blame k0 (2 : Int32) (s.1 k0 3) s) fun v9 =>
    some ((-1 : Int32), v9.2)
def f_X6_readNumber (k0 : Nat) (x1 : Int32) (s : wk_St) : Option (Int32 × wk_St) :=
  Option.bind (wk_loop (S_X6_readNumber_4 k0 x1) wk_F ((0 : Int32), (0 : Int32), s)) fun v5 =>
  Option.bind (f_X6_sign k0 v5.2.2) fun v6 =>
  if (f_X6_isDigit v6) = true then
    j_X6_readNumber_36 k0 (b2i (f_X6_isDigit v6)) v5.2.2
  else
    if ¬ v5.2.1 = 0 then
      some (v5.1, v5.2.2)
    else
      j_X6_readNumber_36 k0 (b2i (f_X6_isDigit v6)) v5.2.2
def b_X5_readFactor (F_X5_readSum : Int32 → wk_St → Option (Bool × wk_St)) (F_X5_readFactor : Int32 → wk_St → Option (Bool × wk_St)) (x2 : Int32) (s : wk_St) : Option (Bool × wk_St) :=
  Option.bind (f_X6_sign 34 s) fun v1 =>
  if ¬ v1 = (91 : Int32) then
    if (f_X6_isDigit v1) = false then
      wk_let ((f_X4_letterOf v1) : Int32) fun v4 =>
      if ¬ v4 = (-1 : Int32) then
        Option.bind (f_X4_put (97 : Int32) v4 s) fun v5 =>
        some (true, (wk_si v5.2 34 3 ((v5.2.1 34 3) + (1 : Int32))))
      else
        wk_let (f_X6_blame 34 (1 : Int32) (s.1 34 3) s) fun v6 =>
        some (v6.1, v6.2)
    else
      Option.bind (f_X6_readNumber 34 (5 : Int32) s) fun v7 =>
      Option.bind (f_X4_put (48 : Int32) v7.1 v7.2) fun v8 =>
      if v7.1 = (-1 : Int32) then
        some (false, v8.2)
      else
        some (true, v8.2)
  else
    wk_let (f_X5_open x2 s) fun v9 =>
    if v9.1 = false then
      some (false, v9.2)
    else
      Option.bind (F_X5_readSum (x2 + (1 : Int32)) v9.2) fun v10 =>
      if v10.1 = false then
        some (false, v10.2)
      else
        Option.bind (f_X6_pass 34 (93 : Int32) v10.2) fun v11 =>
        if v11.1 = false then
          some (false, v11.2)
        else
          some (true, v11.2)
def j_X5_readSum_48_l6 (F_X5_readSum : Int32 → wk_St → Option (Bool × wk_St)) (F_X5_readFactor : Int32 → wk_St → Option (Bool × wk_St)) (x2 : Int32) (x3 : Int32) (x5 : Int32) (x6 : Int32) (s : wk_St) : Option (((Bool × wk_St) ⊕ (wk_St)) ⊕ (Int32 × Int32 × Int32 × wk_St)) :=
  if x6 = (43 : Int32) then
    some (Sum.inr (x3, x6, (x5 + (1 : Int32)), (wk_si s 34 3 ((s.1 34 3) + (1 : Int32)))))
  else
    if x6 = (45 : Int32) then
      some (Sum.inr (x3, x6, (x5 + (1 : Int32)), (wk_si s 34 3 ((s.1 34 3) + (1 : Int32)))))
    else
      some (Sum.inl (Sum.inl (true, s)))
def j_X5_readSum_38_l6 (F_X5_readSum : Int32 → wk_St → Option (Bool × wk_St)) (F_X5_readFactor : Int32 → wk_St → Option (Bool × wk_St)) (x2 : Int32) (x4 : Int32) (x5 : Int32) (x6 : Int32) (s_0 : Int32) (s : wk_St) : Option (((Bool × wk_St) ⊕ (wk_St)) ⊕ (Int32 × Int32 × Int32 × wk_St)) :=
  if ¬ s_0 = 0 then
    some (Sum.inr (s_0, x4, (x5 + (1 : Int32)), (wk_si s 34 3 ((s.1 34 3) + (1 : Int32)))))
  else
    if x4 = 0 then
      j_X5_readSum_48_l6 F_X5_readSum F_X5_readFactor x2 s_0 x5 x6 s
    else
      Option.bind (f_X4_put x4 (0 : Int32) s) fun v3 =>
      j_X5_readSum_48_l6 F_X5_readSum F_X5_readFactor x2 s_0 x5 x6 v3.2
def j_X5_readSum_23_l6 (F_X5_readSum : Int32 → wk_St → Option (Bool × wk_St)) (F_X5_readFactor : Int32 → wk_St → Option (Bool × wk_St)) (x2 : Int32) (x4 : Int32) (x5 : Int32) (s : wk_St) : Option (((Bool × wk_St) ⊕ (wk_St)) ⊕ (Int32 × Int32 × Int32 × wk_St)) :=
  Option.bind (f_X6_sign 34 s) fun v2 =>
  if v2 = (42 : Int32) then
    j_X5_readSum_38_l6 F_X5_readSum F_X5_readFactor x2 x4 x5 v2 v2 s
  else
    if v2 = (47 : Int32) then
      j_X5_readSum_38_l6 F_X5_readSum F_X5_readFactor x2 x4 x5 v2 v2 s
    else
      if ¬ v2 = (37 : Int32) then
        j_X5_readSum_38_l6 F_X5_readSum F_X5_readFactor x2 x4 x5 v2 (0 : Int32) s
      else
        j_X5_readSum_38_l6 F_X5_readSum F_X5_readFactor x2 x4 x5 v2 v2 s
def S_X5_readSum_6 (F_X5_readSum : Int32 → wk_St → Option (Bool × wk_St)) (F_X5_readFactor : Int32 → wk_St → Option (Bool × wk_St)) (x2 : Int32) (p : Int32 × Int32 × Int32 × wk_St) : Option (((Bool × wk_St) ⊕ (wk_St)) ⊕ (Int32 × Int32 × Int32 × wk_St)) := match p with
  | (x3, x4, x5, s) =>
    if x5 ≥ (240 : Int32) then
      some (Sum.inl (Sum.inr s))
    else
      Option.bind (F_X5_readFactor x2 s) fun v1 =>
      if v1.1 = true then
        if x3 = 0 then
          j_X5_readSum_23_l6 F_X5_readSum F_X5_readFactor x2 x4 x5 v1.2
        else
          Option.bind (f_X4_put x3 (0 : Int32) v1.2) fun v4 =>
          j_X5_readSum_23_l6 F_X5_readSum F_X5_readFactor x2 x4 x5 v4.2
      else
        some (Sum.inl (Sum.inl (false, v1.2)))
def b_X5_readSum (F_X5_readSum : Int32 → wk_St → Option (Bool × wk_St)) (F_X5_readFactor : Int32 → wk_St → Option (Bool × wk_St)) (x2 : Int32) (s : wk_St) : Option (Bool × wk_St) :=
  Option.bind (wk_loop (S_X5_readSum_6 F_X5_readSum F_X5_readFactor x2) wk_F ((0 : Int32), (0 : Int32), (0 : Int32), s)) fun v5 =>
  match v5 with
  | Sum.inl v5r => some v5r
  | Sum.inr v5 =>
    some (true, v5)
def g_X5_readSum : Nat → (Int32 → wk_St → Option (Bool × wk_St)) × (Int32 → wk_St → Option (Bool × wk_St))
  | 0 => ((fun _ _ => none), (fun _ _ => none))
  | q + 1 => (b_X5_readSum ((g_X5_readSum q).1) ((g_X5_readSum q).2), b_X5_readFactor ((g_X5_readSum q).1) ((g_X5_readSum q).2))
def f_X5_readSum : Int32 → wk_St → Option (Bool × wk_St) := (g_X5_readSum 20).1
def f_X5_readFactor : Int32 → wk_St → Option (Bool × wk_St) := (g_X5_readSum 20).2
def j_X5_readTest_74 (F_X5_readTests : Int32 → wk_St → Option (Bool × wk_St)) (F_X5_readTest : Int32 → wk_St → Option (Bool × wk_St)) (x2 : Int32) (x3 : Int32) (s : wk_St) : Option (Bool × wk_St) :=
  Option.bind (f_X5_readSum x2 (wk_si s 34 3 ((s.1 34 3) + (1 : Int32)))) fun v5 =>
  Option.bind (f_X4_put x3 (0 : Int32) v5.2) fun v6 =>
  some (v5.1, v6.2)
def b_X5_readTest (F_X5_readTests : Int32 → wk_St → Option (Bool × wk_St)) (F_X5_readTest : Int32 → wk_St → Option (Bool × wk_St)) (x2 : Int32) (s : wk_St) : Option (Bool × wk_St) :=
  Option.bind (f_X6_sign 34 s) fun v1 =>
  if ¬ v1 = (33 : Int32) then
    Option.bind (f_X6_sign 34 s) fun v2 =>
    if ¬ v2 = (40 : Int32) then
      Option.bind (f_X5_readSum x2 s) fun v3 =>
      if v3.1 = true then
        Option.bind (f_X6_sign 34 v3.2) fun v4 =>
        if v4 = (60 : Int32) then
          j_X5_readTest_74 F_X5_readTests F_X5_readTest x2 v4 v3.2
        else
          if v4 = (62 : Int32) then
            j_X5_readTest_74 F_X5_readTests F_X5_readTest x2 v4 v3.2
          else
            if v4 = (61 : Int32) then
              j_X5_readTest_74 F_X5_readTests F_X5_readTest x2 v4 v3.2
            else
              wk_let (f_X6_blame 34 (1 : Int32) (v3.2.1 34 3) v3.2) fun v7 =>
              some (v7.1, v7.2)
      else
        some (false, v3.2)
    else
      wk_let (f_X5_open x2 s) fun v8 =>
      if v8.1 = false then
        some (false, v8.2)
      else
        Option.bind (F_X5_readTests (x2 + (1 : Int32)) v8.2) fun v9 =>
        if v9.1 = false then
          some (false, v9.2)
        else
          Option.bind (f_X6_pass 34 (41 : Int32) v9.2) fun v10 =>
          if v10.1 = false then
            some (false, v10.2)
          else
            some (true, v10.2)
  else
    wk_let (f_X5_open x2 s) fun v11 =>
    if v11.1 = false then
      Option.bind (f_X4_put (33 : Int32) (0 : Int32) v11.2) fun v12 =>
      some (false, v12.2)
    else
      Option.bind (F_X5_readTest (x2 + (1 : Int32)) v11.2) fun v13 =>
      if v13.1 = false then
        Option.bind (f_X4_put (33 : Int32) (0 : Int32) v13.2) fun v14 =>
        some (false, v14.2)
      else
        Option.bind (f_X4_put (33 : Int32) (0 : Int32) v13.2) fun v15 =>
        some (true, v15.2)
def S_X5_readTests_6 (F_X5_readTests : Int32 → wk_St → Option (Bool × wk_St)) (F_X5_readTest : Int32 → wk_St → Option (Bool × wk_St)) (x2 : Int32) (p : Int32 × Int32 × Int32 × wk_St) : Option (((Bool × wk_St) ⊕ (wk_St)) ⊕ (Int32 × Int32 × Int32 × wk_St)) := match p with
  | (x3, x4, x5, s) =>
    if x5 ≥ (240 : Int32) then
      some (Sum.inl (Sum.inr s))
    else
      Option.bind (F_X5_readTest x2 s) fun v1 =>
      if v1.1 = true then
        Option.bind (f_X4_skipToHere x3 v1.2) fun v2 =>
        Option.bind (f_X6_sign 34 v2) fun v3 =>
        if ¬ v3 = (38 : Int32) then
          Option.bind (f_X4_skipToHere x4 v2) fun v4 =>
          if v3 = (124 : Int32) then
            Option.bind (f_X4_put v3 (0 : Int32) v4) fun v5 =>
            some (Sum.inr ((-1 : Int32), v5.1, (x5 + (1 : Int32)), (wk_si v5.2 34 3 ((v5.2.1 34 3) + (1 : Int32)))))
          else
            some (Sum.inl (Sum.inl (true, v4)))
        else
          Option.bind (f_X4_put v3 (0 : Int32) v2) fun v6 =>
          some (Sum.inr (v6.1, x4, (x5 + (1 : Int32)), (wk_si v6.2 34 3 ((v6.2.1 34 3) + (1 : Int32)))))
      else
        some (Sum.inl (Sum.inl (false, v1.2)))
def b_X5_readTests (F_X5_readTests : Int32 → wk_St → Option (Bool × wk_St)) (F_X5_readTest : Int32 → wk_St → Option (Bool × wk_St)) (x2 : Int32) (s : wk_St) : Option (Bool × wk_St) :=
  Option.bind (wk_loop (S_X5_readTests_6 F_X5_readTests F_X5_readTest x2) wk_F ((-1 : Int32), (-1 : Int32), (0 : Int32), s)) fun v7 =>
  match v7 with
  | Sum.inl v7r => some v7r
  | Sum.inr v7 =>
    some (true, v7)
def g_X5_readTests : Nat → (Int32 → wk_St → Option (Bool × wk_St)) × (Int32 → wk_St → Option (Bool × wk_St))
  | 0 => ((fun _ _ => none), (fun _ _ => none))
  | q + 1 => (b_X5_readTests ((g_X5_readTests q).1) ((g_X5_readTests q).2), b_X5_readTest ((g_X5_readTests q).1) ((g_X5_readTests q).2))
def f_X5_readTests : Int32 → wk_St → Option (Bool × wk_St) := (g_X5_readTests 20).1
def f_X5_readTest : Int32 → wk_St → Option (Bool × wk_St) := (g_X5_readTests 20).2
def f_X6_answer (k0 : Nat) (x1 : Int32) (x2 : Int32) (s : wk_St) : Int32 :=
  if x1 = 0 then
    (s.1 k0 2)
  else
    x2
def j_X5_readLaw_57_l8 (x3 : Int32) (x4 : Int32) (s_0 : Int32) (s : wk_St) : Option ((Int32 × wk_St) ⊕ (Int32 × Int32 × Int32 × wk_St)) :=
  if x3 = 0 then
    some (Sum.inr (s_0, (0 : Int32), (x4 + (1 : Int32)), s))
  else
    if s_0 = 0 then
      some (Sum.inr (s_0, (1 : Int32), (x4 + (1 : Int32)), s))
    else
      Option.bind (f_X6_pass 34 (59 : Int32) s) fun v6 =>
      if v6.1 = false then
        some (Sum.inr (s_0, (0 : Int32), (x4 + (1 : Int32)), v6.2))
      else
        some (Sum.inr (s_0, (1 : Int32), (x4 + (1 : Int32)), v6.2))
def j_X5_readLaw_46_l8 (x4 : Int32) (s : wk_St) : Option ((Int32 × wk_St) ⊕ (Int32 × Int32 × Int32 × wk_St)) :=
  Option.bind (f_X4_closeRule s) fun v4 =>
  Option.bind (f_X6_sign 34 v4) fun v5 =>
  if v5 = (-1 : Int32) then
    j_X5_readLaw_57_l8 (0 : Int32) x4 (0 : Int32) v4
  else
    j_X5_readLaw_57_l8 (0 : Int32) x4 (1 : Int32) v4
def j_X5_readLaw_31_l8 (x4 : Int32) (s : wk_St) : Option ((Int32 × wk_St) ⊕ (Int32 × Int32 × Int32 × wk_St)) :=
  Option.bind (f_X5_openTests s) fun v7 =>
  if v7.1 = false then
    j_X5_readLaw_46_l8 x4 v7.2
  else
    Option.bind (f_X5_readTests (1 : Int32) v7.2) fun v8 =>
    if v8.1 = false then
      j_X5_readLaw_46_l8 x4 v8.2
    else
      Option.bind (f_X6_pass 34 (41 : Int32) v8.2) fun v9 =>
      if v9.1 = false then
        j_X5_readLaw_46_l8 x4 v9.2
      else
        Option.bind (f_X4_closeRule v9.2) fun v10 =>
        Option.bind (f_X6_sign 34 v10) fun v11 =>
        if v11 = (-1 : Int32) then
          j_X5_readLaw_57_l8 (1 : Int32) x4 (0 : Int32) v10
        else
          j_X5_readLaw_57_l8 (1 : Int32) x4 (1 : Int32) v10
def S_X5_readLaw_8 (p : Int32 × Int32 × Int32 × wk_St) : Option ((Int32 × wk_St) ⊕ (Int32 × Int32 × Int32 × wk_St)) := match p with
  | (x2, x3, x4, s) =>
    if x4 ≥ (240 : Int32) then
      some (Sum.inl (x3, s))
    else
      if x3 = 0 then
        some (Sum.inl (x3, s))
      else
        if x2 = 0 then
          some (Sum.inl (x3, s))
        else
          Option.bind (f_X6_sign 34 s) fun v2 =>
          Option.bind (f_X5_readKind v2 s) fun v3 =>
          if v3.1 = false then
            j_X5_readLaw_46_l8 x4 v3.2
          else
            if v2 = (115 : Int32) then
              j_X5_readLaw_31_l8 x4 v3.2
            else
              Option.bind (f_X5_readSum (0 : Int32) v3.2) fun v12 =>
              if v12.1 = false then
                j_X5_readLaw_46_l8 x4 v12.2
              else
                j_X5_readLaw_31_l8 x4 v12.2
def f_X5_readLaw (s : wk_St) : Option (Int32 × wk_St) :=
  wk_let (f_X4_clear s) fun v1 =>
  Option.bind (wk_loop S_X5_readLaw_8 wk_F ((1 : Int32), (1 : Int32), (0 : Int32), v1)) fun v13 =>
  some ((f_X6_answer 34 v13.1 (v13.2.1 45 7) v13.2), v13.2)
def f_X8_byteAt (x1 : Int32) (s : wk_St) : Option (Int32) :=
  if x1 < 0 then
    some (-1 : Int32)
  else
    if x1 ≥ (s.1 1 1) then
      some (-1 : Int32)
    else
      if x1 ≥ (260 : Int32) then
        some (-1 : Int32)
      else
        if wk_in x1 260 = true then
          some (s.1 2 (x1.toNatClampNeg))
        else none
def S_X6_begin_5 (k0 : Nat) (x2 : Int32) (p : Int32 × wk_St) : Option ((wk_St) ⊕ (Int32 × wk_St)) := match p with
  | (x3, s) =>
    if x3 ≥ x2 then
      some (Sum.inl s)
    else
      if x3 ≥ (240 : Int32) then
        some (Sum.inl s)
      else
        Option.bind (f_X8_byteAt x3 s) fun v1 =>
        if wk_in x3 240 = true then
          some (Sum.inr ((x3 + (1 : Int32)), (wk_si s (k0 + 1) (x3.toNatClampNeg) v1)))
        else none
def f_X6_begin (k0 : Nat) (x2 : Int32) (s : wk_St) : Option (wk_St) :=
  Option.bind (wk_loop (S_X6_begin_5 k0 x2) wk_F ((0 : Int32), (wk_si s k0 1 x2))) fun v2 =>
  some (wk_si (wk_si v2 k0 3 (0 : Int32)) k0 2 (0 : Int32))
def f_X8_has (x1 : Int32) (x2 : Int32) (x3 : Int32) (s : wk_St) : Bool :=
  if (f_X11_isWithin x1 x2 x3) = false then
    false
  else
    if x1 > (s.1 1 1) then
      false
    else
      true
def f_X8_clear (s : wk_St) : wk_St :=
  (wk_si s 1 1 (0 : Int32))
def f_X11_law (x1 : Int32) (s : wk_St) : Option (Int32 × wk_St) :=
  if (f_X8_has x1 (1 : Int32) (240 : Int32) s) = true then
    Option.bind (f_X6_begin 34 x1 s) fun v2 =>
    wk_let (f_X8_clear v2) fun v3 =>
    Option.bind (f_X5_readLaw v3) fun v4 =>
    if v4.1 < 0 then
      some (v4.1, v4.2)
    else
      Option.bind (f_X4_copyFrom v4.2) fun v5 =>
      some (v4.1, v5)
  else
    some ((-1 : Int32), s)
def f_X2_setHunts (x1 : Int32) (x2 : Int32) (x3 : Int64) (s : wk_St) : Option (wk_St) :=
  if (f_X11_isWithin x1 (0 : Int32) (11 : Int32)) = false then
    some s
  else
    if (f_X11_isWithin x2 (0 : Int32) (48 : Int32)) = false then
      some s
    else
      if wk_in x1 12 = true then
        if wk_in x1 12 = true then
          some (wk_sl (wk_si s 6 (x1.toNatClampNeg) x2) 7 (x1.toNatClampNeg) x3)
        else none
      else none
def b_X3_readGroup (F_X3_readRow : Int32 → wk_St → Option (Bool × wk_St)) (F_X3_readPart : Int32 → wk_St → Option (Bool × wk_St)) (F_X3_readGroup : Int32 → wk_St → Option (Bool × wk_St)) (x1 : Int32) (s : wk_St) : Option (Bool × wk_St) :=
  if x1 < (2 : Int32) then
    Option.bind (F_X3_readRow (x1 + (1 : Int32)) (wk_si s 30 3 ((s.1 30 3) + (1 : Int32)))) fun v1 =>
    if v1.1 = false then
      some (false, v1.2)
    else
      Option.bind (f_X6_pass 30 (41 : Int32) v1.2) fun v2 =>
      if v2.1 = false then
        some (false, v2.2)
      else
        some (true, v2.2)
  else
    wk_let (f_X6_blame 30 (5 : Int32) (s.1 30 3) s) fun v3 =>
    some (v3.1, v3.2)
def j_X3_readOne_27 (s_0 : Int64) (s_1 : Int64) (s : wk_St) : Option (Bool × wk_St) :=
  some (true, (wk_si (wk_si (wk_sl s 30 4 (s_1 ||| s_0)) 30 5 (((wk_sl s 30 4 (s_1 ||| s_0)).1 30 5) + (1 : Int32))) 30 3 (((wk_si (wk_sl s 30 4 (s_1 ||| s_0)) 30 5 (((wk_sl s 30 4 (s_1 ||| s_0)).1 30 5) + (1 : Int32))).1 30 3) + (1 : Int32))))
def j_X3_readOne_14 (s : wk_St) : Option (Bool × wk_St) :=
  Option.bind (f_X6_sign 30 s) fun v2 =>
  if ¬ v2 = (104 : Int32) then
    j_X3_readOne_27 (0 : Int64) (s.2 30 4) s
  else
    j_X3_readOne_27 ((1 : Int64) <<< ((s.1 30 5).toInt64 &&& 63)) (s.2 30 4) s
def f_X3_readOne (s : wk_St) : Option (Bool × wk_St) :=
  Option.bind (f_X6_sign 30 s) fun v1 =>
  if v1 = (104 : Int32) then
    j_X3_readOne_14 s
  else
    Option.bind (f_X6_sign 30 s) fun v3 =>
    if v3 = (46 : Int32) then
      j_X3_readOne_14 s
    else
      wk_let (f_X6_blame 30 (1 : Int32) (s.1 30 3) s) fun v4 =>
      some (v4.1, v4.2)
def S_X3_repeat_24 (x2 : Int32) (x4 : Int32) (x5 : Int64) (p : Int32 × wk_St) : Option ((wk_St) ⊕ (Int32 × wk_St)) := match p with
  | (x7, s) =>
    if x7 ≥ x2 then
      some (Sum.inl s)
    else
      some (Sum.inr ((x7 + (1 : Int32)), (wk_si (wk_sl s 30 4 ((s.2 30 4) ||| (x5 <<< ((s.1 30 5).toInt64 &&& 63)))) 30 5 (((wk_sl s 30 4 ((s.2 30 4) ||| (x5 <<< ((s.1 30 5).toInt64 &&& 63)))).1 30 5) + x4))))
def f_X3_repeat (x1 : Int32) (x2 : Int32) (x3 : Int32) (s : wk_St) : Option (Bool × wk_St) :=
  wk_let (((s.1 30 5) - x1) : Int32) fun v1 =>
  if (x1 + (v1 * x2)) ≤ (48 : Int32) then
    wk_let ((wk_lushr (s.2 30 4) x1) : Int64) fun v2 =>
    Option.bind (wk_loop (S_X3_repeat_24 x2 v1 v2) wk_F ((1 : Int32), s)) fun v3 =>
    some (true, v3)
  else
    wk_let (f_X6_blame 30 (6 : Int32) x3 s) fun v6 =>
    some (v6.1, v6.2)
def j_X3_readPart_37 (F_X3_readRow : Int32 → wk_St → Option (Bool × wk_St)) (F_X3_readPart : Int32 → wk_St → Option (Bool × wk_St)) (F_X3_readGroup : Int32 → wk_St → Option (Bool × wk_St)) (x2 : Int32) (x3 : Int32) (x4 : Int32) (s_0 : Int32) (s : wk_St) : Option (Bool × wk_St) :=
  if s_0 = 0 then
    some (false, s)
  else
    Option.bind (f_X3_repeat x3 x4 x2 s) fun v5 =>
    if v5.1 = false then
      some (false, v5.2)
    else
      some (true, v5.2)
def j_X3_readPart_27 (F_X3_readRow : Int32 → wk_St → Option (Bool × wk_St)) (F_X3_readPart : Int32 → wk_St → Option (Bool × wk_St)) (F_X3_readGroup : Int32 → wk_St → Option (Bool × wk_St)) (x1 : Int32) (x2 : Int32) (x3 : Int32) (x4 : Int32) (s : wk_St) : Option (Bool × wk_St) :=
  Option.bind (f_X6_sign 30 s) fun v3 =>
  if ¬ v3 = (40 : Int32) then
    Option.bind (f_X3_readOne s) fun v4 =>
    j_X3_readPart_37 F_X3_readRow F_X3_readPart F_X3_readGroup x2 x3 x4 (b2i v4.1) v4.2
  else
    Option.bind (F_X3_readGroup x1 s) fun v6 =>
    j_X3_readPart_37 F_X3_readRow F_X3_readPart F_X3_readGroup x2 x3 x4 (b2i v6.1) v6.2
def b_X3_readPart (F_X3_readRow : Int32 → wk_St → Option (Bool × wk_St)) (F_X3_readPart : Int32 → wk_St → Option (Bool × wk_St)) (F_X3_readGroup : Int32 → wk_St → Option (Bool × wk_St)) (x1 : Int32) (s : wk_St) : Option (Bool × wk_St) :=
  Option.bind (f_X6_sign 30 s) fun v1 =>
  if (f_X6_isDigit v1) = false then
    j_X3_readPart_27 F_X3_readRow F_X3_readPart F_X3_readGroup x1 (s.1 30 3) (s.1 30 5) (1 : Int32) s
  else
    Option.bind (f_X6_sign 30 s) fun v7 =>
    if v7 < (50 : Int32) then
      j_X3_readPart_27 F_X3_readRow F_X3_readPart F_X3_readGroup x1 (s.1 30 3) (s.1 30 5) (1 : Int32) s
    else
      Option.bind (f_X6_sign 30 s) fun v8 =>
      wk_let ((v8 - (48 : Int32)) : Int32) fun v9 =>
      j_X3_readPart_27 F_X3_readRow F_X3_readPart F_X3_readGroup x1 (s.1 30 3) (s.1 30 5) v9 (wk_si s 30 3 ((s.1 30 3) + (1 : Int32)))
def S_X3_readRow_2 (F_X3_readRow : Int32 → wk_St → Option (Bool × wk_St)) (F_X3_readPart : Int32 → wk_St → Option (Bool × wk_St)) (F_X3_readGroup : Int32 → wk_St → Option (Bool × wk_St)) (x1 : Int32) (p : Int32 × wk_St) : Option (((Bool × wk_St) ⊕ (wk_St)) ⊕ (Int32 × wk_St)) := match p with
  | (x2, s) =>
    if x2 ≥ (240 : Int32) then
      some (Sum.inl (Sum.inr s))
    else
      Option.bind (F_X3_readPart x1 s) fun v1 =>
      if v1.1 = true then
        Option.bind (f_X6_sign 30 v1.2) fun v2 =>
        if v2 = (-1 : Int32) then
          some (Sum.inl (Sum.inl (true, v1.2)))
        else
          Option.bind (f_X6_sign 30 v1.2) fun v3 =>
          if ¬ v3 = (41 : Int32) then
            some (Sum.inr ((x2 + (1 : Int32)), v1.2))
          else
            some (Sum.inl (Sum.inl (true, v1.2)))
      else
        some (Sum.inl (Sum.inl (false, v1.2)))
def b_X3_readRow (F_X3_readRow : Int32 → wk_St → Option (Bool × wk_St)) (F_X3_readPart : Int32 → wk_St → Option (Bool × wk_St)) (F_X3_readGroup : Int32 → wk_St → Option (Bool × wk_St)) (x1 : Int32) (s : wk_St) : Option (Bool × wk_St) :=
  Option.bind (wk_loop (S_X3_readRow_2 F_X3_readRow F_X3_readPart F_X3_readGroup x1) wk_F ((0 : Int32), s)) fun v4 =>
  match v4 with
  | Sum.inl v4r => some v4r
  | Sum.inr v4 =>
    some (true, v4)
def g_X3_readRow : Nat → (Int32 → wk_St → Option (Bool × wk_St)) × (Int32 → wk_St → Option (Bool × wk_St)) × (Int32 → wk_St → Option (Bool × wk_St))
  | 0 => ((fun _ _ => none), (fun _ _ => none), (fun _ _ => none))
  | q + 1 => (b_X3_readRow ((g_X3_readRow q).1) ((g_X3_readRow q).2.1) ((g_X3_readRow q).2.2), b_X3_readPart ((g_X3_readRow q).1) ((g_X3_readRow q).2.1) ((g_X3_readRow q).2.2), b_X3_readGroup ((g_X3_readRow q).1) ((g_X3_readRow q).2.1) ((g_X3_readRow q).2.2))
def f_X3_readRow : Int32 → wk_St → Option (Bool × wk_St) := (g_X3_readRow 20).1
def f_X3_readPart : Int32 → wk_St → Option (Bool × wk_St) := (g_X3_readRow 20).2.1
def f_X3_readGroup : Int32 → wk_St → Option (Bool × wk_St) := (g_X3_readRow 20).2.2
def f_X3_readHunts (s : wk_St) : Option (Int32 × wk_St) :=
  Option.bind (f_X3_readRow (0 : Int32) (wk_si (wk_sl s 30 4 (0 : Int64)) 30 5 (0 : Int32))) fun v1 =>
  if v1.1 = false then
    some ((f_X6_answer 30 (0 : Int32) (v1.2.1 30 5) v1.2), v1.2)
  else
    Option.bind (f_X6_pass 30 (-1 : Int32) v1.2) fun v3 =>
    if v3.1 = false then
      some ((f_X6_answer 30 (0 : Int32) (v3.2.1 30 5) v3.2), v3.2)
    else
      some ((f_X6_answer 30 (1 : Int32) (v3.2.1 30 5) v3.2), v3.2)
def f_X11_hunts (x1 : Int32) (x2 : Int32) (s : wk_St) : Option (Int32 × wk_St) :=
  if (f_X11_isWithin x1 (0 : Int32) (11 : Int32)) = false then
    some ((-1 : Int32), s)
  else
    if (f_X8_has x2 (1 : Int32) (40 : Int32) s) = true then
      Option.bind (f_X6_begin 30 x2 s) fun v3 =>
      wk_let (f_X8_clear v3) fun v4 =>
      Option.bind (f_X3_readHunts v4) fun v5 =>
      if v5.1 < 0 then
        some (v5.1, v5.2)
      else
        Option.bind (f_X2_setHunts x1 v5.1 (v5.2.2 30 4) v5.2) fun v6 =>
        some (v5.1, v6)
    else
      some ((-1 : Int32), s)
def S_X0_copyFrom_2 (k0 : Nat) (k1 : Nat) (p : Int32 × wk_St) : Option ((wk_St) ⊕ (Int32 × wk_St)) := match p with
  | (x2, s) =>
    if x2 ≥ (9 : Int32) then
      some (Sum.inl s)
    else
      if wk_in x2 9 = true then
        if wk_in x2 9 = true then
          if wk_in x2 9 = true then
            if wk_in x2 9 = true then
              if wk_in x2 9 = true then
                if wk_in x2 9 = true then
                  if wk_in x2 9 = true then
                    if wk_in x2 9 = true then
                      some (Sum.inr ((x2 + (1 : Int32)), (wk_si (wk_si (wk_si (wk_si s (k0 + 1) (x2.toNatClampNeg) (s.1 (k1 + 1) (x2.toNatClampNeg))) (k0 + 2) (x2.toNatClampNeg) ((wk_si s (k0 + 1) (x2.toNatClampNeg) (s.1 (k1 + 1) (x2.toNatClampNeg))).1 (k1 + 2) (x2.toNatClampNeg))) (k0 + 3) (x2.toNatClampNeg) ((wk_si (wk_si s (k0 + 1) (x2.toNatClampNeg) (s.1 (k1 + 1) (x2.toNatClampNeg))) (k0 + 2) (x2.toNatClampNeg) ((wk_si s (k0 + 1) (x2.toNatClampNeg) (s.1 (k1 + 1) (x2.toNatClampNeg))).1 (k1 + 2) (x2.toNatClampNeg))).1 (k1 + 3) (x2.toNatClampNeg))) (k0 + 4) (x2.toNatClampNeg) ((wk_si (wk_si (wk_si s (k0 + 1) (x2.toNatClampNeg) (s.1 (k1 + 1) (x2.toNatClampNeg))) (k0 + 2) (x2.toNatClampNeg) ((wk_si s (k0 + 1) (x2.toNatClampNeg) (s.1 (k1 + 1) (x2.toNatClampNeg))).1 (k1 + 2) (x2.toNatClampNeg))) (k0 + 3) (x2.toNatClampNeg) ((wk_si (wk_si s (k0 + 1) (x2.toNatClampNeg) (s.1 (k1 + 1) (x2.toNatClampNeg))) (k0 + 2) (x2.toNatClampNeg) ((wk_si s (k0 + 1) (x2.toNatClampNeg) (s.1 (k1 + 1) (x2.toNatClampNeg))).1 (k1 + 2) (x2.toNatClampNeg))).1 (k1 + 3) (x2.toNatClampNeg))).1 (k1 + 4) (x2.toNatClampNeg)))))
                    else none
                  else none
                else none
              else none
            else none
          else none
        else none
      else none
def f_X0_copyFrom (k0 : Nat) (k1 : Nat) (s : wk_St) : Option (wk_St) :=
  Option.bind (wk_loop (S_X0_copyFrom_2 k0 k1) wk_F ((0 : Int32), s)) fun v1 =>
  some (wk_si (wk_si (wk_si v1 k0 4 (v1.1 k1 4)) k0 5 ((wk_si v1 k0 4 (v1.1 k1 4)).1 k1 5)) k0 6 ((wk_si (wk_si v1 k0 4 (v1.1 k1 4)) k0 5 ((wk_si v1 k0 4 (v1.1 k1 4)).1 k1 5)).1 k1 6))
def f_X0_isTold (k0 : Nat) (x1 : Int32) (s : wk_St) : Bool :=
  if x1 ≥ (9 : Int32) then
    false
  else
    if (f_X11_hasBit (s.1 k0 4) x1) = false then
      false
    else
      true
def f_X0_kindOf (k0 : Nat) (x1 : Int32) (s : wk_St) : Option (Int32) :=
  if (f_X11_isWithin x1 (0 : Int32) (8 : Int32)) = false then
    some (-1 : Int32)
  else
    if wk_in x1 9 = true then
      some (s.1 (k0 + 3) (x1.toNatClampNeg))
    else none
def f_X0_isLiving (k0 : Nat) (x1 : Int32) (s : wk_St) : Option (Bool) :=
  if (f_X0_isTold k0 x1 s) = false then
    some false
  else
    Option.bind (f_X0_kindOf k0 x1 s) fun v2 =>
    if v2 = (2 : Int32) then
      some false
    else
      some true
def j_X1_readKnight_27 (x3 : Int32) (x4 : Int32) (s : wk_St) : Option (Int32 × wk_St) :=
  if x4 = 0 then
    some (x3, (wk_si s 32 3 ((s.1 32 3) + (1 : Int32))))
  else
    wk_let (f_X6_blame 32 x4 (s.1 32 3) s) fun v5 =>
    some ((-1 : Int32), v5.2)
def f_X1_readKnight (x1 : Int32) (s : wk_St) : Option (Int32 × wk_St) :=
  Option.bind (f_X6_sign 32 s) fun v1 =>
  wk_let ((v1 - (97 : Int32)) : Int32) fun v2 =>
  if (f_X11_isWithin v2 (0 : Int32) (8 : Int32)) = true then
    if x1 ≤ (20 : Int32) then
      Option.bind (f_X0_isLiving 18 v2 s) fun v4 =>
      if v4 = true then
        j_X1_readKnight_27 v2 (0 : Int32) s
      else
        j_X1_readKnight_27 v2 (7 : Int32) s
    else
      j_X1_readKnight_27 v2 (4 : Int32) s
  else
    j_X1_readKnight_27 v2 (1 : Int32) s
def f_X0_turnWolf (k0 : Nat) (x1 : Int32) (s : wk_St) : Option (wk_St) :=
  if (f_X11_isWithin x1 (0 : Int32) (8 : Int32)) = false then
    some s
  else
    if wk_in x1 9 = true then
      if wk_in x1 9 = true then
        if wk_in x1 9 = true then
          some (wk_si (wk_si s (k0 + 3) (x1.toNatClampNeg) (1 : Int32)) (k0 + 4) (x1.toNatClampNeg) ((wk_si s (k0 + 3) (x1.toNatClampNeg) (1 : Int32)).1 (k0 + 1) (x1.toNatClampNeg)))
        else none
      else none
    else none
def f_X0_turnMan (k0 : Nat) (x1 : Int32) (s : wk_St) : Option (wk_St) :=
  if (f_X11_isWithin x1 (0 : Int32) (8 : Int32)) = false then
    some s
  else
    if wk_in x1 9 = true then
      if wk_in x1 9 = true then
        some (wk_si (wk_si s (k0 + 3) (x1.toNatClampNeg) (0 : Int32)) (k0 + 4) (x1.toNatClampNeg) (-2 : Int32))
      else none
    else none
def f_X0_moveTo (k0 : Nat) (x1 : Int32) (x2 : Int32) (s : wk_St) : Option (wk_St) :=
  if (f_X11_isWithin x1 (0 : Int32) (8 : Int32)) = false then
    some s
  else
    if wk_in x1 9 = true then
      some (wk_si s (k0 + 1) (x1.toNatClampNeg) x2)
    else none
def f_X0_layClothes (k0 : Nat) (x1 : Int32) (x2 : Int32) (s : wk_St) : Option (wk_St) :=
  if (f_X11_isWithin x1 (0 : Int32) (8 : Int32)) = false then
    some s
  else
    if wk_in x1 9 = true then
      some (wk_si s (k0 + 4) (x1.toNatClampNeg) x2)
    else none
def f_X1_readPlace (x1 : Int32) (x2 : Int32) (s : wk_St) : Option (Bool × wk_St) :=
  Option.bind (f_X6_readNumber 32 (2 : Int32) s) fun v1 =>
  if ¬ v1.1 = (-1 : Int32) then
    if (f_X2_isTold v1.1 v1.2) = true then
      if ¬ x2 = (62 : Int32) then
        Option.bind (f_X0_layClothes 18 x1 v1.1 v1.2) fun v3 =>
        some (true, v3)
      else
        Option.bind (f_X0_moveTo 18 x1 v1.1 v1.2) fun v4 =>
        some (true, v4)
    else
      wk_let (f_X6_blame 32 (7 : Int32) (s.1 32 3) v1.2) fun v5 =>
      some (v5.1, v5.2)
  else
    some (false, v1.2)
def j_X1_readDeed_48 (x1 : Int32) (x4 : Int32) (s : wk_St) : Option (Bool × wk_St) :=
  if ¬ x4 = (43 : Int32) then
    if ¬ x4 = (45 : Int32) then
      Option.bind (f_X1_readPlace x1 x4 (wk_si s 32 3 ((s.1 32 3) + (1 : Int32)))) fun v4 =>
      some (v4.1, v4.2)
    else
      Option.bind (f_X0_turnMan 18 x1 (wk_si s 32 3 ((s.1 32 3) + (1 : Int32)))) fun v5 =>
      some (true, v5)
  else
    Option.bind (f_X0_turnWolf 18 x1 (wk_si s 32 3 ((s.1 32 3) + (1 : Int32)))) fun v6 =>
    some (true, v6)
def j_X1_readDeed_30 (x1 : Int32) (x4 : Int32) (x5 : Int32) (s : wk_St) : Option (Bool × wk_St) :=
  if x5 = 0 then
    if x4 = (64 : Int32) then
      wk_let (f_X6_blame 32 (9 : Int32) (s.1 32 3) s) fun v3 =>
      some (v3.1, v3.2)
    else
      if ¬ x4 = (45 : Int32) then
        j_X1_readDeed_48 x1 x4 s
      else
        wk_let (f_X6_blame 32 (9 : Int32) (s.1 32 3) s) fun v7 =>
        some (v7.1, v7.2)
  else
    if ¬ x4 = (43 : Int32) then
      j_X1_readDeed_48 x1 x4 s
    else
      wk_let (f_X6_blame 32 (9 : Int32) (s.1 32 3) s) fun v8 =>
      some (v8.1, v8.2)
def j_X1_readDeed_11 (x1 : Int32) (x4 : Int32) (s_0 : Int32) (s : wk_St) : Option (Bool × wk_St) :=
  if x4 = (62 : Int32) then
    j_X1_readDeed_30 x1 x4 s_0 s
  else
    if x4 = (64 : Int32) then
      j_X1_readDeed_30 x1 x4 s_0 s
    else
      if x4 = (43 : Int32) then
        j_X1_readDeed_30 x1 x4 s_0 s
      else
        if x4 = (45 : Int32) then
          j_X1_readDeed_30 x1 x4 s_0 s
        else
          wk_let (f_X6_blame 32 (1 : Int32) (s.1 32 3) s) fun v9 =>
          some (v9.1, v9.2)
def f_X1_readDeed (x1 : Int32) (s : wk_St) : Option (Bool × wk_St) :=
  Option.bind (f_X6_sign 32 s) fun v1 =>
  Option.bind (f_X0_kindOf 18 x1 s) fun v2 =>
  if ¬ v2 = (1 : Int32) then
    j_X1_readDeed_11 x1 v1 (0 : Int32) s
  else
    j_X1_readDeed_11 x1 v1 (1 : Int32) s
def j_X1_readDiary_31_l2 (x3 : Int32) (x5 : Int32) (s : wk_St) : Option (((Int32 × wk_St) ⊕ (wk_St)) ⊕ (Int32 × wk_St)) :=
  if x5 = 0 then
    some (Sum.inl (Sum.inl ((f_X6_answer 32 (0 : Int32) x3 s), s)))
  else
    Option.bind (f_X6_pass 32 (59 : Int32) s) fun v3 =>
    if v3.1 = true then
      some (Sum.inr ((x3 + (1 : Int32)), v3.2))
    else
      some (Sum.inl (Sum.inl ((f_X6_answer 32 (0 : Int32) x3 v3.2), v3.2)))
def S_X1_readDiary_2 (p : Int32 × wk_St) : Option (((Int32 × wk_St) ⊕ (wk_St)) ⊕ (Int32 × wk_St)) := match p with
  | (x3, s) =>
    if x3 > (240 : Int32) then
      some (Sum.inl (Sum.inr s))
    else
      Option.bind (f_X1_readKnight x3 s) fun v1 =>
      if v1.1 = (-1 : Int32) then
        j_X1_readDiary_31_l2 x3 (0 : Int32) v1.2
      else
        Option.bind (f_X1_readDeed v1.1 v1.2) fun v5 =>
        if v5.1 = false then
          j_X1_readDiary_31_l2 x3 (0 : Int32) v5.2
        else
          Option.bind (f_X6_sign 32 v5.2) fun v6 =>
          if ¬ v6 = (-1 : Int32) then
            j_X1_readDiary_31_l2 x3 (1 : Int32) v5.2
          else
            some (Sum.inl (Sum.inl (x3, v5.2)))
def f_X1_readDiary (s : wk_St) : Option (Int32 × wk_St) :=
  Option.bind (wk_loop S_X1_readDiary_2 wk_F ((1 : Int32), s)) fun v7 =>
  match v7 with
  | Sum.inl v7r => some v7r
  | Sum.inr v7 =>
    some ((-1 : Int32), v7)
def f_X11_diary (x1 : Int32) (s : wk_St) : Option (Int32 × wk_St) :=
  if (f_X8_has x1 (1 : Int32) (120 : Int32) s) = true then
    Option.bind (f_X6_begin 32 x1 s) fun v2 =>
    wk_let (f_X8_clear v2) fun v3 =>
    Option.bind (f_X0_copyFrom 18 8 v3) fun v4 =>
    Option.bind (f_X1_readDiary v4) fun v5 =>
    if v5.1 < 0 then
      some (v5.1, v5.2)
    else
      Option.bind (f_X0_copyFrom 8 18 v5.2) fun v6 =>
      some (v5.1, v6)
  else
    some ((-1 : Int32), s)
def f_X10_forget (s : wk_St) : wk_St :=
  (wk_si (wk_si (wk_si (wk_si (wk_si s 23 1 (0 : Int32)) 23 2 (0 : Int32)) 23 3 (0 : Int32)) 23 4 (0 : Int32)) 23 5 (-1 : Int32))
def f_X0_placeOf (k0 : Nat) (x1 : Int32) (s : wk_St) : Option (Int32) :=
  if (f_X11_isWithin x1 (0 : Int32) (8 : Int32)) = false then
    some (-1 : Int32)
  else
    if wk_in x1 9 = true then
      some (s.1 (k0 + 1) (x1.toNatClampNeg))
    else none
def f_X0_wolfDaysOf (k0 : Nat) (x1 : Int32) (s : wk_St) : Option (Int32) :=
  if (f_X11_isWithin x1 (0 : Int32) (8 : Int32)) = false then
    some (0 : Int32)
  else
    if wk_in x1 9 = true then
      some (s.1 (k0 + 2) (x1.toNatClampNeg))
    else none
def f_X0_clothesOf (k0 : Nat) (x1 : Int32) (s : wk_St) : Option (Int32) :=
  if (f_X11_isWithin x1 (0 : Int32) (8 : Int32)) = false then
    some (-2 : Int32)
  else
    if wk_in x1 9 = true then
      some (s.1 (k0 + 4) (x1.toNatClampNeg))
    else none
def f_X0_die (k0 : Nat) (x1 : Int32) (s : wk_St) : Option (wk_St) :=
  if (f_X11_isWithin x1 (0 : Int32) (8 : Int32)) = false then
    some s
  else
    if wk_in x1 9 = true then
      some (wk_si s (k0 + 3) (x1.toNatClampNeg) (2 : Int32))
    else none
def f_X2_isHunted (x1 : Int32) (x2 : Int32) (s : wk_St) : Option (Bool) :=
  if (f_X11_isWithin x1 (0 : Int32) (11 : Int32)) = false then
    some false
  else
    if x2 ≥ 0 then
      if wk_in x1 12 = true then
        wk_let ((s.1 6 (x1.toNatClampNeg)) : Int32) fun v2 =>
        if v2 ≤ 0 then
          some false
        else
          if wk_in x1 12 = true then
            if v2 = 0 then none else
            if (wk_lcmp ((wk_lushr (s.2 7 (x1.toNatClampNeg)) (wk_rem x2 v2)) &&& (1 : Int64)) (0 : Int64)) = 0 then
              some false
            else
              some true
          else none
      else none
    else
      some false
def f_J9_floorMod_7cf53 (x0 : Int32) (x1 : Int32) : Option (Int32) :=
  if x1 = 0 then none else
  if (x0 ^^^ x1) ≥ 0 then
    some (wk_rem x0 x1)
  else
    if (wk_rem x0 x1) = 0 then
      some (wk_rem x0 x1)
    else
      some ((wk_rem x0 x1) + x1)
def f_X2_weekdayOf (x1 : Int32) (s : wk_St) : Option (Int32) :=
  Option.bind (f_J9_floorMod_7cf53 (x1 + (s.1 3 5)) (7 : Int32)) fun v1 =>
  some v1
def f_X2_nextTo (x1 : Int32) (s : wk_St) : Option (Int32) :=
  if (f_X11_isWithin x1 (0 : Int32) (11 : Int32)) = false then
    some (0 : Int32)
  else
    if wk_in x1 12 = true then
      some (s.1 4 (x1.toNatClampNeg))
    else none
def f_X4_push (x1 : Int32) (s : wk_St) : Option (wk_St) :=
  if (s.1 37 9) < 0 then
    some s
  else
    if (s.1 37 9) ≥ (32 : Int32) then
      some s
    else
      if wk_in (s.1 37 9) 32 = true then
        some (wk_si (wk_si s 44 ((s.1 37 9).toNatClampNeg) x1) 37 9 (((wk_si s 44 ((s.1 37 9).toNatClampNeg) x1).1 37 9) + (1 : Int32)))
      else none
def f_X4_pop (s : wk_St) : Option (Int32 × wk_St) :=
  if (s.1 37 9) ≤ 0 then
    some ((0 : Int32), s)
  else
    if (s.1 37 9) ≤ (32 : Int32) then
      if wk_in ((wk_si s 37 9 ((s.1 37 9) - (1 : Int32))).1 37 9) 32 = true then
        some (((wk_si s 37 9 ((s.1 37 9) - (1 : Int32))).1 44 (((wk_si s 37 9 ((s.1 37 9) - (1 : Int32))).1 37 9).toNatClampNeg)), (wk_si s 37 9 ((s.1 37 9) - (1 : Int32))))
      else none
    else
      some ((0 : Int32), s)
def f_X4_reckon (x1 : Int32) (x2 : Int32) (x3 : Int32) (s : wk_St) : Option (Int32 × wk_St) :=
  if x1 = (42 : Int32) then
    some ((x2 * x3), s)
  else
  if x1 = (43 : Int32) then
    some ((x2 + x3), s)
  else
  if x1 = (45 : Int32) then
    some ((x2 - x3), s)
  else
  if x1 = (60 : Int32) then
    if x2 ≥ x3 then
      some ((0 : Int32), s)
    else
      some ((1 : Int32), s)
  else
  if x1 = (61 : Int32) then
    if ¬ x2 = x3 then
      some ((0 : Int32), s)
    else
      some ((1 : Int32), s)
  else
  if x1 = (62 : Int32) then
    if x2 ≤ x3 then
      some ((0 : Int32), s)
    else
      some ((1 : Int32), s)
  else
  if ¬ x3 = 0 then
    if ¬ x1 = (47 : Int32) then
      if x3 = 0 then none else
      some ((wk_rem x2 x3), s)
    else
      if x3 = 0 then none else
      some ((x2 / x3), s)
  else
    some ((0 : Int32), (wk_si s 37 10 (1 : Int32)))
def j_X4_run_107_l10 (x2 : Int32) (x4 : Int32) (x5 : Int32) (s : wk_St) : Option ((wk_St) ⊕ (Int32 × Int32 × wk_St)) :=
  some (Sum.inr (x4, (x5 + (1 : Int32)), s))
def j_X4_run_83_l10 (x2 : Int32) (x4 : Int32) (x5 : Int32) (x6 : Int32) (x7 : Int32) (x8 : Int32) (s_0 : Int32) (s : wk_St) : Option ((wk_St) ⊕ (Int32 × Int32 × wk_St)) :=
  if ¬ x6 = (124 : Int32) then
    if ¬ s_0 = (0 : Int32) then
      j_X4_run_107_l10 x2 x4 x5 s
    else
      Option.bind (f_X4_push x8 s) fun v4 =>
      j_X4_run_107_l10 x2 x7 x5 v4
  else
    if ¬ s_0 = (1 : Int32) then
      j_X4_run_107_l10 x2 x4 x5 s
    else
      Option.bind (f_X4_push x8 s) fun v5 =>
      j_X4_run_107_l10 x2 x7 x5 v5
def S_X4_run_10 (x2 : Int32) (p : Int32 × Int32 × wk_St) : Option ((wk_St) ⊕ (Int32 × Int32 × wk_St)) := match p with
  | (x4, x5, s) =>
    if x5 ≥ (240 : Int32) then
      some (Sum.inl s)
    else
      if ¬ (s.1 37 10) = 0 then
        some (Sum.inl s)
      else
        if x4 < 0 then
          some (Sum.inl s)
        else
          if x4 ≥ x2 then
            some (Sum.inl s)
          else
            if x4 ≥ (240 : Int32) then
              some (Sum.inl s)
            else
              if wk_in x4 240 = true then
                wk_let ((s.1 42 (x4.toNatClampNeg)) : Int32) fun v1 =>
                if wk_in x4 240 = true then
                  wk_let ((s.1 43 (x4.toNatClampNeg)) : Int32) fun v2 =>
                  if ¬ v1 = (48 : Int32) then
                    if ¬ v1 = (97 : Int32) then
                      if ¬ v1 = (33 : Int32) then
                        if v1 = (38 : Int32) then
                          Option.bind (f_X4_pop s) fun v3 =>
                          if v3.1 = 0 then
                            j_X4_run_83_l10 x2 (x4 + (1 : Int32)) x5 v1 v2 v3.1 (0 : Int32) v3.2
                          else
                            j_X4_run_83_l10 x2 (x4 + (1 : Int32)) x5 v1 v2 v3.1 (1 : Int32) v3.2
                        else
                          if ¬ v1 = (124 : Int32) then
                            Option.bind (f_X4_pop s) fun v6 =>
                            Option.bind (f_X4_pop v6.2) fun v7 =>
                            Option.bind (f_X4_reckon v1 v7.1 v6.1 v7.2) fun v8 =>
                            Option.bind (f_X4_push v8.1 v8.2) fun v9 =>
                            j_X4_run_107_l10 x2 (x4 + (1 : Int32)) x5 v9
                          else
                            Option.bind (f_X4_pop s) fun v10 =>
                            if v10.1 = 0 then
                              j_X4_run_83_l10 x2 (x4 + (1 : Int32)) x5 v1 v2 v10.1 (0 : Int32) v10.2
                            else
                              j_X4_run_83_l10 x2 (x4 + (1 : Int32)) x5 v1 v2 v10.1 (1 : Int32) v10.2
                      else
                        Option.bind (f_X4_pop s) fun v11 =>
                        Option.bind (f_X4_push ((1 : Int32) - v11.1) v11.2) fun v12 =>
                        j_X4_run_107_l10 x2 (x4 + (1 : Int32)) x5 v12
                    else
                      if v2 < 0 then
                        Option.bind (f_X4_push (0 : Int32) s) fun v13 =>
                        j_X4_run_107_l10 x2 (x4 + (1 : Int32)) x5 v13
                      else
                        if v2 ≥ (8 : Int32) then
                          Option.bind (f_X4_push (0 : Int32) s) fun v14 =>
                          j_X4_run_107_l10 x2 (x4 + (1 : Int32)) x5 v14
                        else
                          if wk_in v2 8 = true then
                            Option.bind (f_X4_push (s.1 24 (v2.toNatClampNeg)) s) fun v15 =>
                            j_X4_run_107_l10 x2 (x4 + (1 : Int32)) x5 v15
                          else none
                  else
                    Option.bind (f_X4_push v2 s) fun v16 =>
                    j_X4_run_107_l10 x2 (x4 + (1 : Int32)) x5 v16
                else none
              else none
def j_X4_run_109 (s : wk_St) : Option (Int32 × wk_St) :=
  Option.bind (f_X4_pop s) fun v23 =>
  if (v23.2.1 37 10) = 0 then
    some (v23.1, v23.2)
  else
    some ((0 : Int32), v23.2)
def f_X4_run (x1 : Int32) (x2 : Int32) (s : wk_St) : Option (Int32 × wk_St) :=
  Option.bind (wk_loop (S_X4_run_10 x2) wk_F (x1, (0 : Int32), (wk_si (wk_si s 37 10 (0 : Int32)) 37 9 (0 : Int32)))) fun v17 =>
  j_X4_run_109 v17
def f_J9_max_7cf53 (x0 : Int32) (x1 : Int32) : Int32 :=
  if x0 < x1 then
    x1
  else
    x0
def f_J9_min_7cf53 (x0 : Int32) (x1 : Int32) : Int32 :=
  if x0 > x1 then
    x1
  else
    x0
def S_X4_valueOf_2 (x1 : Int32) (x3 : Int32) (p : Int32 × wk_St) : Option (((Int32 × wk_St) ⊕ (wk_St)) ⊕ (Int32 × wk_St)) := match p with
  | (x4, s) =>
    if x4 ≥ (s.1 37 7) then
      some (Sum.inl (Sum.inr s))
    else
      if x4 ≥ (16 : Int32) then
        some (Sum.inl (Sum.inr s))
      else
        if wk_in x4 16 = true then
          if ¬ (s.1 38 (x4.toNatClampNeg)) = x1 then
            some (Sum.inr ((x4 + (1 : Int32)), s))
          else
            if wk_in x4 16 = true then
              if wk_in x4 16 = true then
                Option.bind (f_X4_run (s.1 40 (x4.toNatClampNeg)) (s.1 41 (x4.toNatClampNeg)) s) fun v1 =>
                if v1.1 = 0 then
                  some (Sum.inr ((x4 + (1 : Int32)), v1.2))
                else
                  if wk_in x4 16 = true then
                    if wk_in x4 16 = true then
                      Option.bind (f_X4_run (v1.2.1 39 (x4.toNatClampNeg)) (v1.2.1 40 (x4.toNatClampNeg)) v1.2) fun v2 =>
                      some (Sum.inl (Sum.inl ((f_J9_max_7cf53 (0 : Int32) (f_J9_min_7cf53 x3 v2.1)), v2.2)))
                    else none
                  else none
              else none
            else none
        else none
def f_X4_valueOf (x1 : Int32) (x3 : Int32) (s : wk_St) : Option (Int32 × wk_St) :=
  Option.bind (wk_loop (S_X4_valueOf_2 x1 x3) wk_F ((0 : Int32), s)) fun v5 =>
  match v5 with
  | Sum.inl v5r => some v5r
  | Sum.inr v5 =>
    some ((0 : Int32), v5)
def j_X0_othersAt_21_l4 (k0 : Nat) (x1 : Int32) (x2 : Int32) (x3 : Int32) (x4 : Int32) (s_0 : Int32) (s : wk_St) : Option ((Int32) ⊕ (Int32 × Int32)) :=
  if s_0 = 0 then
    wk_let ((x3 + (0 : Int32)) : Int32) fun v2 =>
    some (Sum.inr (v2, (x4 + (1 : Int32))))
  else
    if x4 = x1 then
      wk_let ((x3 + (0 : Int32)) : Int32) fun v3 =>
      some (Sum.inr (v3, (x4 + (1 : Int32))))
    else
      if wk_in x4 9 = true then
        if ¬ (s.1 (k0 + 1) (x4.toNatClampNeg)) = x2 then
          wk_let ((x3 + (0 : Int32)) : Int32) fun v4 =>
          some (Sum.inr (v4, (x4 + (1 : Int32))))
        else
          wk_let ((x3 + (1 : Int32)) : Int32) fun v5 =>
          some (Sum.inr (v5, (x4 + (1 : Int32))))
      else none
def S_X0_othersAt_4 (k0 : Nat) (x1 : Int32) (x2 : Int32) (s : wk_St) (p : Int32 × Int32) : Option ((Int32) ⊕ (Int32 × Int32)) := match p with
  | (x3, x4) =>
    if x4 ≥ (9 : Int32) then
      some (Sum.inl x3)
    else
      if (f_X11_hasBit (s.1 k0 4) x4) = false then
        j_X0_othersAt_21_l4 k0 x1 x2 x3 x4 (0 : Int32) s
      else
        if wk_in x4 9 = true then
          if (s.1 (k0 + 3) (x4.toNatClampNeg)) = (2 : Int32) then
            j_X0_othersAt_21_l4 k0 x1 x2 x3 x4 (0 : Int32) s
          else
            j_X0_othersAt_21_l4 k0 x1 x2 x3 x4 (1 : Int32) s
        else none
def f_X0_othersAt (k0 : Nat) (x1 : Int32) (x2 : Int32) (s : wk_St) : Option (Int32) :=
  Option.bind (wk_loop (S_X0_othersAt_4 k0 x1 x2 s) wk_F ((0 : Int32), (0 : Int32))) fun v6 =>
  some v6
def j_X2_stepsBetween_13 (x1 : Int32) (x2 : Int32) (s_0 : Int32) (s : wk_St) : Option (Int32) :=
  if s_0 = 0 then
    some (99 : Int32)
  else
    if wk_in ((x1 * (12 : Int32)) + x2) 144 = true then
      some (s.1 5 (((x1 * (12 : Int32)) + x2).toNatClampNeg))
    else none
def f_X2_stepsBetween (x1 : Int32) (x2 : Int32) (s : wk_St) : Option (Int32) :=
  if (f_X11_isWithin x1 (0 : Int32) (11 : Int32)) = false then
    j_X2_stepsBetween_13 x1 x2 (0 : Int32) s
  else
    if (f_X11_isWithin x2 (0 : Int32) (11 : Int32)) = false then
      j_X2_stepsBetween_13 x1 x2 (0 : Int32) s
    else
      j_X2_stepsBetween_13 x1 x2 (1 : Int32) s
def j_X10_look_39 (k2 : Nat) (x1 : Int32) (x2 : Int32) (s_0 : Int32) (s_1 : Int32) (s : wk_St) : Option (wk_St) :=
  if wk_in s_1 8 = true then
    Option.bind (f_X0_othersAt k2 x1 x2 (wk_si s 24 (s_1.toNatClampNeg) s_0)) fun v5 =>
    Option.bind (f_X2_weekdayOf ((wk_si (wk_si s 24 (s_1.toNatClampNeg) s_0) 24 5 v5).1 k2 5) (wk_si (wk_si s 24 (s_1.toNatClampNeg) s_0) 24 5 v5)) fun v6 =>
    some (wk_si (wk_si (wk_si (wk_si s 24 (s_1.toNatClampNeg) s_0) 24 5 v5) 24 6 v6) 24 7 (wk_rem ((wk_si (wk_si (wk_si s 24 (s_1.toNatClampNeg) s_0) 24 5 v5) 24 6 v6).1 k2 5) (100 : Int32)))
  else none
def f_X10_look (k2 : Nat) (x1 : Int32) (x2 : Int32) (s : wk_St) : Option (wk_St) :=
  Option.bind (f_X0_placeOf k2 x1 (wk_si (wk_si s 24 0 x1) 24 1 x2)) fun v1 =>
  Option.bind (f_X0_clothesOf k2 x1 (wk_si (wk_si (wk_si s 24 0 x1) 24 1 x2) 24 2 v1)) fun v2 =>
  Option.bind (f_X2_stepsBetween x2 v2 (wk_si (wk_si (wk_si s 24 0 x1) 24 1 x2) 24 2 v1)) fun v3 =>
  Option.bind (f_X2_isHunted x2 ((wk_si (wk_si (wk_si (wk_si s 24 0 x1) 24 1 x2) 24 2 v1) 24 3 v3).1 k2 5) (wk_si (wk_si (wk_si (wk_si s 24 0 x1) 24 1 x2) 24 2 v1) 24 3 v3)) fun v4 =>
  if v4 = false then
    j_X10_look_39 k2 x1 x2 (0 : Int32) (4 : Int32) (wk_si (wk_si (wk_si (wk_si s 24 0 x1) 24 1 x2) 24 2 v1) 24 3 v3)
  else
    j_X10_look_39 k2 x1 x2 (1 : Int32) (4 : Int32) (wk_si (wk_si (wk_si (wk_si s 24 0 x1) 24 1 x2) 24 2 v1) 24 3 v3)
def f_X10_liking (k3 : Nat) (x1 : Int32) (x2 : Int32) (s : wk_St) : Option (Int32 × wk_St) :=
  Option.bind (f_X10_look k3 x1 x2 s) fun v1 =>
  Option.bind (f_X4_valueOf (101 : Int32) (9999 : Int32) v1) fun v2 =>
  some (v2.1, v2.2)
def j_X10_goalOf_28_l12 (k3 : Nat) (x1 : Int32) (x5 : Int32) (x6 : Int32) (x7 : Int32) (x8 : Int32) (s_0 : Int32) (s : wk_St) : Option ((Int32 × wk_St) ⊕ (Int32 × Int32 × Int32 × wk_St)) :=
  if s_0 ≤ x7 then
    some (Sum.inr (x5, x7, (x8 + (1 : Int32)), s))
  else
    some (Sum.inr (x8, s_0, (x8 + (1 : Int32)), s))
def S_X10_goalOf_12 (k3 : Nat) (x1 : Int32) (x6 : Int32) (p : Int32 × Int32 × Int32 × wk_St) : Option ((Int32 × wk_St) ⊕ (Int32 × Int32 × Int32 × wk_St)) := match p with
  | (x5, x7, x8, s) =>
    if x8 ≥ (12 : Int32) then
      some (Sum.inl (x5, s))
    else
      if (f_X11_hasBit x6 x8) = false then
        j_X10_goalOf_28_l12 k3 x1 x5 x6 x7 x8 (0 : Int32) s
      else
        Option.bind (f_X10_liking k3 x1 x8 s) fun v4 =>
        j_X10_goalOf_28_l12 k3 x1 x5 x6 x7 x8 v4.1 v4.2
def f_X10_goalOf (k3 : Nat) (x1 : Int32) (s : wk_St) : Option (Int32 × wk_St) :=
  Option.bind (f_X0_placeOf k3 x1 s) fun v1 =>
  Option.bind (f_X2_nextTo v1 s) fun v2 =>
  Option.bind (wk_loop (S_X10_goalOf_12 k3 x1 v2) wk_F (v1, (0 : Int32), (0 : Int32), s)) fun v5 =>
  some (v5.1, v5.2)
def S_X4_spares_2 (p : Int32 × wk_St) : Option (((Bool × wk_St) ⊕ (wk_St)) ⊕ (Int32 × wk_St)) := match p with
  | (x2, s) =>
    if x2 ≥ (s.1 37 7) then
      some (Sum.inl (Sum.inr s))
    else
      if x2 ≥ (16 : Int32) then
        some (Sum.inl (Sum.inr s))
      else
        if wk_in x2 16 = true then
          if ¬ (s.1 38 (x2.toNatClampNeg)) = (115 : Int32) then
            some (Sum.inr ((x2 + (1 : Int32)), s))
          else
            if wk_in x2 16 = true then
              if wk_in x2 16 = true then
                Option.bind (f_X4_run (s.1 40 (x2.toNatClampNeg)) (s.1 41 (x2.toNatClampNeg)) s) fun v1 =>
                if v1.1 = 0 then
                  some (Sum.inr ((x2 + (1 : Int32)), v1.2))
                else
                  some (Sum.inl (Sum.inl (true, v1.2)))
              else none
            else none
        else none
def f_X4_spares (s : wk_St) : Option (Bool × wk_St) :=
  Option.bind (wk_loop S_X4_spares_2 wk_F ((0 : Int32), s)) fun v2 =>
  match v2 with
  | Sum.inl v2r => some v2r
  | Sum.inr v2 =>
    some (false, v2)
def f_X10_isSpared (k3 : Nat) (x1 : Int32) (s : wk_St) : Option (Bool × wk_St) :=
  Option.bind (f_X0_placeOf k3 x1 s) fun v1 =>
  Option.bind (f_X10_look k3 x1 v1 s) fun v2 =>
  Option.bind (f_X4_spares v2) fun v3 =>
  some (v3.1, v3.2)
def f_X0_draw (k0 : Nat) (s : wk_St) : Int32 × wk_St :=
  ((wk_rem ((wk_si s k0 6 (wk_rem (((25173 : Int32) * (s.1 k0 6)) + (13849 : Int32)) (65536 : Int32))).1 k0 6) (10 : Int32)), (wk_si s k0 6 (wk_rem (((25173 : Int32) * (s.1 k0 6)) + (13849 : Int32)) (65536 : Int32))))
def j_J6_numberOfTrailingZeros_0f7a4_40 (x0 : Int32) (x1 : Int32) : Int32 :=
  if x0 ≤ (4 : Int32) then
    (x1 + (wk_ushr x0 (1 : Int32)))
  else
    wk_let ((wk_ushr x0 (2 : Int32)) : Int32) fun v2 =>
    ((x1 + (2 : Int32)) + (wk_ushr v2 (1 : Int32)))
def j_J6_numberOfTrailingZeros_0f7a4_24 (x0 : Int32) (x1 : Int32) : Int32 :=
  if x0 ≤ (256 : Int32) then
    if x0 ≤ (16 : Int32) then
      j_J6_numberOfTrailingZeros_0f7a4_40 x0 x1
    else
      wk_let ((wk_ushr x0 (4 : Int32)) : Int32) fun v3 =>
      j_J6_numberOfTrailingZeros_0f7a4_40 v3 (x1 + (4 : Int32))
  else
    wk_let ((wk_ushr x0 (8 : Int32)) : Int32) fun v4 =>
    if v4 ≤ (16 : Int32) then
      j_J6_numberOfTrailingZeros_0f7a4_40 v4 (x1 + (8 : Int32))
    else
      wk_let ((wk_ushr v4 (4 : Int32)) : Int32) fun v5 =>
      j_J6_numberOfTrailingZeros_0f7a4_40 v5 ((x1 + (8 : Int32)) + (4 : Int32))
def f_J6_numberOfTrailingZeros_0f7a4 (x0 : Int32) : Int32 :=
  wk_let (((x0 ^^^ (-1 : Int32)) &&& (x0 - (1 : Int32))) : Int32) fun v1 =>
  if v1 > 0 then
    if v1 ≤ (65536 : Int32) then
      j_J6_numberOfTrailingZeros_0f7a4_24 v1 (1 : Int32)
    else
      wk_let ((wk_ushr v1 (16 : Int32)) : Int32) fun v6 =>
      j_J6_numberOfTrailingZeros_0f7a4_24 v6 (17 : Int32)
  else
    (v1 &&& (32 : Int32))
def f_X10_tempt (k3 : Nat) (x1 : Int32) (s : wk_St) : Option (wk_St) :=
  Option.bind (f_X0_clothesOf k3 x1 s) fun v1 =>
  Option.bind (f_X10_look k3 x1 v1 s) fun v2 =>
  Option.bind (f_X4_valueOf (104 : Int32) (10 : Int32) v2) fun v3 =>
  Option.bind (f_X2_nextTo v1 v3.2) fun v4 =>
  wk_let (f_X0_draw k3 v3.2) fun v5 =>
  if v5.1 ≥ v3.1 then
    some v5.2
  else
    if v4 = 0 then
      some v5.2
    else
      Option.bind (f_X0_layClothes k3 x1 (f_J6_numberOfTrailingZeros_0f7a4 v4) v5.2) fun v7 =>
      some (wk_si v7 23 4 ((v7.1 23 4) + (1 : Int32)))
def j_X10_goKnight_75 (k3 : Nat) (x1 : Int32) (x5 : Int32) (x6 : Int32) (s : wk_St) : Option (wk_St) :=
  if ¬ x5 = 0 then
    Option.bind (f_X10_tempt k3 x1 s) fun v9 =>
    some v9
  else
    Option.bind (f_X0_clothesOf k3 x1 s) fun v10 =>
    if ¬ x6 = v10 then
      Option.bind (f_X10_tempt k3 x1 s) fun v11 =>
      some v11
    else
      Option.bind (f_X0_turnMan k3 x1 s) fun v12 =>
      some (wk_si v12 23 3 ((v12.1 23 3) + (1 : Int32)))
def j_X10_goKnight_67 (k3 : Nat) (x1 : Int32) (s_0 : Int32) (s : wk_St) : Option (wk_St) :=
  Option.bind (f_X10_tempt k3 x1 (wk_si (wk_si s 23 5 s_0) 23 1 (((wk_si s 23 5 s_0).1 23 1) + (1 : Int32)))) fun v15 =>
  some v15
def j_X10_goKnight_24 (k3 : Nat) (x1 : Int32) (x5 : Int32) (s : wk_St) : Option (wk_St) :=
  Option.bind (f_X0_kindOf k3 x1 s) fun v4 =>
  if v4 = (1 : Int32) then
    Option.bind (f_X10_goalOf k3 x1 s) fun v5 =>
    Option.bind (f_X0_moveTo k3 x1 v5.1 v5.2) fun v6 =>
    Option.bind (f_X0_placeOf k3 x1 v6) fun v7 =>
    Option.bind (f_X2_isHunted v7 (v6.1 k3 5) v6) fun v8 =>
    if v8 = false then
      j_X10_goKnight_75 k3 x1 x5 v7 v6
    else
      Option.bind (f_X10_isSpared k3 x1 v6) fun v13 =>
      if v13.1 = true then
        j_X10_goKnight_75 k3 x1 x5 v7 v13.2
      else
        Option.bind (f_X0_die k3 x1 v13.2) fun v14 =>
        if ¬ (v14.1 23 1) = 0 then
          j_X10_goKnight_67 k3 x1 (v14.1 23 5) v14
        else
          j_X10_goKnight_67 k3 x1 x1 v14
  else
    some s
def f_X10_goKnight (k3 : Nat) (x1 : Int32) (s : wk_St) : Option (wk_St) :=
  Option.bind (f_X0_wolfDaysOf k3 x1 s) fun v1 =>
  Option.bind (f_X2_weekdayOf (s.1 k3 5) s) fun v2 =>
  if (f_X11_hasBit v1 v2) = false then
    j_X10_goKnight_24 k3 x1 (b2i (f_X11_hasBit v1 v2)) s
  else
    Option.bind (f_X0_kindOf k3 x1 s) fun v16 =>
    if ¬ v16 = 0 then
      j_X10_goKnight_24 k3 x1 (b2i (f_X11_hasBit v1 v2)) s
    else
      Option.bind (f_X0_turnWolf k3 x1 s) fun v17 =>
      j_X10_goKnight_24 k3 x1 (b2i (f_X11_hasBit v1 v2)) (wk_si v17 23 2 ((v17.1 23 2) + (1 : Int32)))
def S_X10_goDay_7 (k3 : Nat) (p : Int32 × wk_St) : Option ((wk_St) ⊕ (Int32 × wk_St)) := match p with
  | (x4, s) =>
    if x4 ≥ (9 : Int32) then
      some (Sum.inl s)
    else
      Option.bind (f_X0_isLiving k3 x4 s) fun v1 =>
      if v1 = false then
        some (Sum.inr ((x4 + (1 : Int32)), s))
      else
        Option.bind (f_X10_goKnight k3 x4 s) fun v2 =>
        some (Sum.inr ((x4 + (1 : Int32)), v2))
def f_X10_goDay (k3 : Nat) (s : wk_St) : Option (wk_St) :=
  if (s.1 k3 5) < (9999 : Int32) then
    Option.bind (wk_loop (S_X10_goDay_7 k3) wk_F ((0 : Int32), s)) fun v3 =>
    some (wk_si v3 k3 5 ((v3.1 k3 5) + (1 : Int32)))
  else
    some s
def S_X11_days_12 (x1 : Int32) (p : Int32 × wk_St) : Option ((wk_St) ⊕ (Int32 × wk_St)) := match p with
  | (x2, s) =>
    if x2 ≥ x1 then
      some (Sum.inl s)
    else
      Option.bind (f_X10_goDay 8 s) fun v3 =>
      some (Sum.inr ((x2 + (1 : Int32)), v3))
def f_X11_days (x1 : Int32) (s : wk_St) : Option (Int32 × wk_St) :=
  if (f_X11_isWithin x1 (1 : Int32) (240 : Int32)) = true then
    wk_let (f_X10_forget s) fun v2 =>
    Option.bind (wk_loop (S_X11_days_12 x1) wk_F ((0 : Int32), v2)) fun v4 =>
    some ((v4.1 23 1), v4)
  else
    some ((-1 : Int32), s)
def S_X11_tried_42 (x1 : Int32) (x2 : Int32) (p : Int32 × wk_St) : Option ((wk_St) ⊕ (Int32 × wk_St)) := match p with
  | (x4, s) =>
    if x4 ≥ x1 then
      some (Sum.inl s)
    else
      Option.bind (f_X10_goDay 18 s) fun v5 =>
      some (Sum.inr ((x4 + (1 : Int32)), v5))
def j_X11_tried_22 (x1 : Int32) (x2 : Int32) (s_0 : Int32) (s : wk_St) : Option (Int32 × wk_St) :=
  if (f_X11_isWithin x1 (1 : Int32) (240 : Int32)) = false then
    some ((-1 : Int32), s)
  else
    if ¬ s_0 = 0 then
      Option.bind (f_X0_copyFrom 18 8 s) fun v3 =>
      wk_let (f_X10_forget v3) fun v4 =>
      Option.bind (wk_loop (S_X11_tried_42 x1 x2) wk_F ((0 : Int32), v4)) fun v6 =>
      if x2 = (0 : Int32) then
        some ((v6.1 23 1), v6)
      else
      if x2 = (1 : Int32) then
        some ((v6.1 23 2), v6)
      else
      if x2 = (2 : Int32) then
        some ((v6.1 23 3), v6)
      else
      if x2 = (3 : Int32) then
        some ((v6.1 23 4), v6)
      else
      if x2 ≥ (20 : Int32) then
        Option.bind (f_X0_kindOf 18 (x2 - (20 : Int32)) v6) fun v9 =>
        some (v9, v6)
      else
        Option.bind (f_X0_placeOf 18 (x2 - (10 : Int32)) v6) fun v10 =>
        some (v10, v6)
    else
      some ((-1 : Int32), s)
def f_X11_tried (x1 : Int32) (x2 : Int32) (s : wk_St) : Option (Int32 × wk_St) :=
  if (f_X11_isWithin x2 (0 : Int32) (3 : Int32)) = true then
    j_X11_tried_22 x1 x2 (1 : Int32) s
  else
    if (f_X0_isTold 8 (x2 - (10 : Int32)) s) = true then
      j_X11_tried_22 x1 x2 (1 : Int32) s
    else
      if (f_X0_isTold 8 (x2 - (20 : Int32)) s) = false then
        j_X11_tried_22 x1 x2 (0 : Int32) s
      else
        j_X11_tried_22 x1 x2 (1 : Int32) s
def f_X11_knightIs (x1 : Int32) (x2 : Int32) (s : wk_St) : Option (Int32) :=
  if (f_X0_isTold 8 x1 s) = true then
    if x2 = (0 : Int32) then
      Option.bind (f_X0_placeOf 8 x1 s) fun v2 =>
      some v2
    else
    if x2 = (1 : Int32) then
      Option.bind (f_X0_wolfDaysOf 8 x1 s) fun v3 =>
      some v3
    else
    if x2 = (2 : Int32) then
      Option.bind (f_X0_kindOf 8 x1 s) fun v4 =>
      some v4
    else
    if x2 = (3 : Int32) then
      Option.bind (f_X0_clothesOf 8 x1 s) fun v5 =>
      some v5
    else
    if x2 = (4 : Int32) then
      Option.bind (f_X0_placeOf 8 x1 s) fun v6 =>
      Option.bind (f_X0_clothesOf 8 x1 s) fun v7 =>
      Option.bind (f_X2_stepsBetween v6 v7 s) fun v8 =>
      some v8
    else
    some (-1 : Int32)
  else
    some (-1 : Int32)
def f_X11_hunted (x1 : Int32) (x2 : Int32) (s : wk_St) : Option (Int32) :=
  if (f_X11_isWithin x1 (0 : Int32) (11 : Int32)) = false then
    some (-1 : Int32)
  else
    if (f_X11_isWithin x2 (0 : Int32) (9999 : Int32)) = true then
      Option.bind (f_X2_isHunted x1 ((s.1 8 5) + x2) s) fun v3 =>
      if v3 = false then
        some (0 : Int32)
      else
        some (1 : Int32)
    else
      some (-1 : Int32)
def f_X11_likes (x1 : Int32) (x2 : Int32) (s : wk_St) : Option (Int32 × wk_St) :=
  Option.bind (f_X0_isLiving 8 x1 s) fun v1 =>
  if v1 = false then
    some ((-1 : Int32), s)
  else
    if (f_X2_isTold x2 s) = true then
      Option.bind (f_X10_liking 8 x1 x2 s) fun v3 =>
      some (v3.1, v3.2)
    else
      some ((-1 : Int32), s)
def S_X11_manAgain_27 (x1 : Int32) (x2 : Int32) (p : Int32 × wk_St) : Option (((Int32 × wk_St) ⊕ (wk_St)) ⊕ (Int32 × wk_St)) := match p with
  | (x3, s) =>
    if x3 > x2 then
      some (Sum.inl (Sum.inr s))
    else
      Option.bind (f_X10_goDay 18 s) fun v5 =>
      Option.bind (f_X0_kindOf 18 x1 v5) fun v6 =>
      if ¬ v6 = 0 then
        some (Sum.inr ((x3 + (1 : Int32)), v5))
      else
        some (Sum.inl (Sum.inl (x3, v5)))
def f_X11_manAgain (x1 : Int32) (x2 : Int32) (s : wk_St) : Option (Int32 × wk_St) :=
  if (f_X0_isTold 8 x1 s) = false then
    some ((-1 : Int32), s)
  else
    if (f_X11_isWithin x2 (1 : Int32) (240 : Int32)) = true then
      Option.bind (f_X0_kindOf 8 x1 s) fun v3 =>
      if v3 = (1 : Int32) then
        Option.bind (f_X0_copyFrom 18 8 s) fun v4 =>
        Option.bind (wk_loop (S_X11_manAgain_27 x1 x2) wk_F ((1 : Int32), v4)) fun v7 =>
        match v7 with
        | Sum.inl v7r => some v7r
        | Sum.inr v7 =>
          some ((-2 : Int32), v7)
      else
        some ((-3 : Int32), s)
    else
      some ((-1 : Int32), s)
def S_X11_deadFirst_22 (x1 : Int32) (x2 : Int32) (p : Int32 × wk_St) : Option (((Int32 × wk_St) ⊕ (wk_St)) ⊕ (Int32 × wk_St)) := match p with
  | (x3, s) =>
    if x3 > x1 then
      some (Sum.inl (Sum.inr s))
    else
      Option.bind (f_X10_goDay 18 s) fun v5 =>
      if (v5.1 23 1) ≤ 0 then
        some (Sum.inr ((x3 + (1 : Int32)), v5))
      else
        if ¬ x2 = 0 then
          some (Sum.inl (Sum.inl (x3, v5)))
        else
          some (Sum.inl (Sum.inl ((v5.1 23 5), v5)))
def f_X11_deadFirst (x1 : Int32) (x2 : Int32) (s : wk_St) : Option (Int32 × wk_St) :=
  if (f_X11_isWithin x1 (1 : Int32) (240 : Int32)) = false then
    some ((-1 : Int32), s)
  else
    if (f_X11_isWithin x2 (0 : Int32) (1 : Int32)) = true then
      Option.bind (f_X0_copyFrom 18 8 s) fun v3 =>
      wk_let (f_X10_forget v3) fun v4 =>
      Option.bind (wk_loop (S_X11_deadFirst_22 x1 x2) wk_F ((1 : Int32), v4)) fun v6 =>
      match v6 with
      | Sum.inl v6r => some v6r
      | Sum.inr v6 =>
        some ((-2 : Int32), v6)
    else
      some ((-1 : Int32), s)
def S_X2_huntedBits_4 (x1 : Int32) (s : wk_St) (p : Int32 × Int32) : Option ((Int32) ⊕ (Int32 × Int32)) := match p with
  | (x2, x3) =>
    if x3 ≥ (12 : Int32) then
      some (Sum.inl x2)
    else
      Option.bind (f_X2_isHunted x3 x1 s) fun v1 =>
      if v1 = false then
        wk_let ((x2 ||| (0 : Int32)) : Int32) fun v2 =>
        some (Sum.inr (v2, (x3 + (1 : Int32))))
      else
        wk_let ((x2 ||| ((1 : Int32) <<< (x3 &&& 31))) : Int32) fun v3 =>
        some (Sum.inr (v3, (x3 + (1 : Int32))))
def f_X2_huntedBits (x1 : Int32) (s : wk_St) : Option (Int32) :=
  Option.bind (wk_loop (S_X2_huntedBits_4 x1 s) wk_F ((0 : Int32), (0 : Int32))) fun v4 =>
  some v4
def S_X9_spreadOut_16 (x4 : Int32) (x5 : Int32) (p : Int32 × Int32 × wk_St) : Option (((Int32 × wk_St) ⊕ (wk_St)) ⊕ (Int32 × Int32 × wk_St)) := match p with
  | (x6, x7, s) =>
    if x7 ≥ (61 : Int32) then
      some (Sum.inl (Sum.inr s))
    else
      wk_let ((((s.1 8 5) + x7) - (1 : Int32)) : Int32) fun v5 =>
      Option.bind (f_X2_spread x6 s) fun v6 =>
      Option.bind (f_X2_huntedBits v5 s) fun v7 =>
      wk_let ((v6 &&& (v7 ^^^ (-1 : Int32))) : Int32) fun v8 =>
      if wk_in x7 61 = true then
        if (f_X11_hasBit v8 x4) = false then
          some (Sum.inr (v8, (x7 + (1 : Int32)), (wk_si s 26 (x7.toNatClampNeg) v8)))
        else
          Option.bind (f_X2_weekdayOf v5 (wk_si s 26 (x7.toNatClampNeg) v8)) fun v10 =>
          if (f_X11_hasBit x5 v10) = true then
            some (Sum.inr (v8, (x7 + (1 : Int32)), (wk_si s 26 (x7.toNatClampNeg) v8)))
          else
            some (Sum.inl (Sum.inl (x7, (wk_si s 26 (x7.toNatClampNeg) v8))))
      else none
def f_X9_spreadOut (x1 : Int32) (s : wk_St) : Option (Int32 × wk_St) :=
  Option.bind (f_X0_clothesOf 8 x1 s) fun v1 =>
  Option.bind (f_X0_wolfDaysOf 8 x1 s) fun v2 =>
  Option.bind (f_X0_placeOf 8 x1 s) fun v3 =>
  wk_let (((1 : Int32) <<< (v3 &&& 31)) : Int32) fun v4 =>
  Option.bind (wk_loop (S_X9_spreadOut_16 v1 v2) wk_F (v4, (1 : Int32), s)) fun v12 =>
  match v12 with
  | Sum.inl v12r => some v12r
  | Sum.inr v12 =>
    some ((0 : Int32), v12)
def S_X9_drawBack_6 (p : Int32 × Int32 × wk_St) : Option ((wk_St) ⊕ (Int32 × Int32 × wk_St)) := match p with
  | (x4, x5, s) =>
    if x5 ≤ 0 then
      some (Sum.inl s)
    else
      if x5 ≥ (61 : Int32) then
        some (Sum.inr (x4, (x5 + (-1 : Int32)), s))
      else
        if wk_in x5 61 = true then
          if wk_in x5 61 = true then
            if wk_in x5 61 = true then
              Option.bind (f_X2_spread ((wk_si s 26 (x5.toNatClampNeg) ((s.1 26 (x5.toNatClampNeg)) &&& x4)).1 26 (x5.toNatClampNeg)) (wk_si s 26 (x5.toNatClampNeg) ((s.1 26 (x5.toNatClampNeg)) &&& x4))) fun v2 =>
              some (Sum.inr (v2, (x5 + (-1 : Int32)), (wk_si s 26 (x5.toNatClampNeg) ((s.1 26 (x5.toNatClampNeg)) &&& x4))))
            else none
          else none
        else none
def f_X9_drawBack (x1 : Int32) (x2 : Int32) (s : wk_St) : Option (wk_St) :=
  wk_let (((1 : Int32) <<< (x2 &&& 31)) : Int32) fun v1 =>
  Option.bind (wk_loop S_X9_drawBack_6 wk_F (v1, x1, s)) fun v3 =>
  some v3
def S_X9_chooseRow_4 (x1 : Int32) (p : Int32 × Int32 × wk_St) : Option ((wk_St) ⊕ (Int32 × Int32 × wk_St)) := match p with
  | (x4, x5, s) =>
    if x5 ≥ x1 then
      some (Sum.inl s)
    else
      if x5 ≥ (60 : Int32) then
        some (Sum.inl s)
      else
        if (x5 + (1 : Int32)) ≥ (61 : Int32) then
          some (Sum.inl s)
        else
          Option.bind (f_X2_spread ((1 : Int32) <<< (x4 &&& 31)) s) fun v1 =>
          if wk_in (x5 + (1 : Int32)) 61 = true then
            wk_let ((f_J6_numberOfTrailingZeros_0f7a4 (v1 &&& (s.1 26 ((x5 + (1 : Int32)).toNatClampNeg)))) : Int32) fun v3 =>
            if wk_in x5 60 = true then
              some (Sum.inr (v3, (x5 + (1 : Int32)), (wk_si s 27 (x5.toNatClampNeg) v3)))
            else none
          else none
def f_X9_chooseRow (x1 : Int32) (x2 : Int32) (s : wk_St) : Option (wk_St) :=
  Option.bind (wk_loop (S_X9_chooseRow_4 x1) wk_F (x2, (0 : Int32), s)) fun v4 =>
  some v4
def f_X9_findHome (x1 : Int32) (s : wk_St) : Option (Int32 × wk_St) :=
  Option.bind (f_X9_spreadOut x1 s) fun v1 =>
  if v1.1 ≤ 0 then
    some (v1.1, v1.2)
  else
    Option.bind (f_X0_clothesOf 8 x1 v1.2) fun v2 =>
    Option.bind (f_X9_drawBack v1.1 v2 v1.2) fun v3 =>
    Option.bind (f_X0_placeOf 8 x1 v3) fun v4 =>
    Option.bind (f_X9_chooseRow v1.1 v4 v3) fun v5 =>
    some (v1.1, v5)
def f_X9_placeAt (x1 : Int32) (s : wk_St) : Option (Int32) :=
  if x1 < 0 then
    some (-1 : Int32)
  else
    if x1 ≥ (60 : Int32) then
      some (-1 : Int32)
    else
      if wk_in x1 60 = true then
        some (s.1 27 (x1.toNatClampNeg))
      else none
def j_X11_home_15 (x1 : Int32) (x2 : Int32) (s : wk_St) : Option (Int32 × wk_St) :=
  Option.bind (f_X0_kindOf 8 x1 s) fun v3 =>
  if v3 = (1 : Int32) then
    Option.bind (f_X9_findHome x1 s) fun v4 =>
    if ¬ v4.1 = 0 then
      if ¬ x2 = (100 : Int32) then
        if x2 ≥ v4.1 then
          some ((-4 : Int32), v4.2)
        else
          Option.bind (f_X9_placeAt x2 v4.2) fun v5 =>
          some (v5, v4.2)
      else
        some (v4.1, v4.2)
    else
      some ((-2 : Int32), v4.2)
  else
    some ((-3 : Int32), s)
def f_X11_home (x1 : Int32) (x2 : Int32) (s : wk_St) : Option (Int32 × wk_St) :=
  if (f_X0_isTold 8 x1 s) = false then
    some ((-1 : Int32), s)
  else
    if (f_X11_isWithin x2 (0 : Int32) (59 : Int32)) = true then
      j_X11_home_15 x1 x2 s
    else
      if x2 = (100 : Int32) then
        j_X11_home_15 x1 x2 s
      else
        some ((-1 : Int32), s)
def S_X2_huntsFrom_4 (x1 : Int32) (x2 : Int32) (x3 : Int32) (s : wk_St) (p : Int32 × Int32) : Option ((Int32) ⊕ (Int32 × Int32)) := match p with
  | (x4, x5) =>
    if x5 ≥ x3 then
      some (Sum.inl x4)
    else
      Option.bind (f_X2_isHunted x1 (x2 + x5) s) fun v1 =>
      if v1 = false then
        wk_let ((x4 + (0 : Int32)) : Int32) fun v2 =>
        some (Sum.inr (v2, (x5 + (1 : Int32))))
      else
        wk_let ((x4 + (1 : Int32)) : Int32) fun v3 =>
        some (Sum.inr (v3, (x5 + (1 : Int32))))
def f_X2_huntsFrom (x1 : Int32) (x2 : Int32) (x3 : Int32) (s : wk_St) : Option (Int32) :=
  Option.bind (wk_loop (S_X2_huntsFrom_4 x1 x2 x3 s) wk_F ((0 : Int32), (0 : Int32))) fun v4 =>
  some v4
def j_X11_safest_40_l20 (x1 : Int32) (x2 : Int32) (x3 : Int32) (x4 : Int32) (x5 : Int32) (s_0 : Int32) (s : wk_St) : Option ((Int32 × Int32) ⊕ (Int32 × Int32 × Int32)) :=
  if s_0 ≥ x4 then
    some (Sum.inr (x3, x4, (x5 + (1 : Int32))))
  else
    some (Sum.inr (x5, s_0, (x5 + (1 : Int32))))
def S_X11_safest_20 (x1 : Int32) (x2 : Int32) (s : wk_St) (p : Int32 × Int32 × Int32) : Option ((Int32 × Int32) ⊕ (Int32 × Int32 × Int32)) := match p with
  | (x3, x4, x5) =>
    if x5 ≥ (12 : Int32) then
      some (Sum.inl (x3, x4))
    else
      if (f_X2_isTold x5 s) = false then
        j_X11_safest_40_l20 x1 x2 x3 x4 x5 (x1 + (1 : Int32)) s
      else
        Option.bind (f_X2_huntsFrom x5 (s.1 8 5) x1 s) fun v5 =>
        j_X11_safest_40_l20 x1 x2 x3 x4 x5 v5 s
def f_X11_safest (x1 : Int32) (x2 : Int32) (s : wk_St) : Option (Int32) :=
  if (f_X11_isWithin x1 (1 : Int32) (240 : Int32)) = false then
    some (-1 : Int32)
  else
    if (f_X11_isWithin x2 (0 : Int32) (1 : Int32)) = true then
      wk_let ((x1 + (1 : Int32)) : Int32) fun v3 =>
      Option.bind (wk_loop (S_X11_safest_20 x1 x2 s) wk_F ((-2 : Int32), v3, (0 : Int32))) fun v6 =>
      if x2 = 0 then
        some v6.1
      else
        if v6.1 ≥ 0 then
          some v6.2
        else
          some v6.1
    else
      some (-1 : Int32)
def S_X0_livingWolfDays_4 (s : wk_St) (p : Int32 × Int32) : Option ((Int32) ⊕ (Int32 × Int32)) := match p with
  | (x1, x2) =>
    if x2 ≥ (9 : Int32) then
      some (Sum.inl x1)
    else
      Option.bind (f_X0_isLiving 8 x2 s) fun v1 =>
      if v1 = false then
        wk_let ((x1 ||| (0 : Int32)) : Int32) fun v2 =>
        some (Sum.inr (v2, (x2 + (1 : Int32))))
      else
        if wk_in x2 9 = true then
          wk_let ((x1 ||| (s.1 10 (x2.toNatClampNeg))) : Int32) fun v3 =>
          some (Sum.inr (v3, (x2 + (1 : Int32))))
        else none
def f_X0_livingWolfDays (s : wk_St) : Option (Int32) :=
  Option.bind (wk_loop (S_X0_livingWolfDays_4 s) wk_F ((0 : Int32), (0 : Int32))) fun v4 =>
  some v4
def S_X11_calm_22 (x1 : Int32) (x2 : Int32) (x3 : Int32) (s : wk_St) (p : Int32 × Int32 × Int32) : Option ((Int32 × Int32) ⊕ (Int32 × Int32 × Int32)) := match p with
  | (x4, x5, x6) =>
    if x6 ≥ x1 then
      some (Sum.inl (x4, x5))
    else
      Option.bind (f_X2_weekdayOf ((s.1 8 5) + x6) s) fun v4 =>
      if (f_X11_hasBit x3 v4) = true then
        some (Sum.inr (x4, x5, (x6 + (1 : Int32))))
      else
        if ¬ x4 = 0 then
          some (Sum.inr ((x4 + (1 : Int32)), x5, (x6 + (1 : Int32))))
        else
          some (Sum.inr ((x4 + (1 : Int32)), x6, (x6 + (1 : Int32))))
def f_X11_calm (x1 : Int32) (x2 : Int32) (s : wk_St) : Option (Int32) :=
  if (f_X11_isWithin x1 (1 : Int32) (240 : Int32)) = false then
    some (-1 : Int32)
  else
    if (f_X11_isWithin x2 (0 : Int32) (1 : Int32)) = true then
      Option.bind (f_X0_livingWolfDays s) fun v3 =>
      Option.bind (wk_loop (S_X11_calm_22 x1 x2 v3 s) wk_F ((0 : Int32), (-2 : Int32), (0 : Int32))) fun v6 =>
      if ¬ x2 = 0 then
        some v6.2
      else
        some v6.1
    else
      some (-1 : Int32)
def S_X2_reachOf_4 (x1 : Int32) (s : wk_St) (p : Int32 × Int32) : Option ((Int32) ⊕ (Int32 × Int32)) := match p with
  | (x2, x3) =>
    if x3 ≥ (12 : Int32) then
      some (Sum.inl x2)
    else
      Option.bind (f_X2_stepsBetween x1 x3 s) fun v1 =>
      if v1 ≥ (99 : Int32) then
        wk_let ((x2 + (0 : Int32)) : Int32) fun v2 =>
        some (Sum.inr (v2, (x3 + (1 : Int32))))
      else
        wk_let ((x2 + (1 : Int32)) : Int32) fun v3 =>
        some (Sum.inr (v3, (x3 + (1 : Int32))))
def f_X2_reachOf (x1 : Int32) (s : wk_St) : Option (Int32) :=
  Option.bind (wk_loop (S_X2_reachOf_4 x1 s) wk_F ((0 : Int32), (0 : Int32))) fun v4 =>
  some v4
def j_X2_farthestFrom_21_l4 (x1 : Int32) (x2 : Int32) (x3 : Int32) (x4 : Int32) (s_0 : Int32) (s : wk_St) : Option ((Int32) ⊕ (Int32 × Int32)) :=
  if x4 ≥ (99 : Int32) then
    some (Sum.inr (x2, (x3 + (1 : Int32))))
  else
    if s_0 = 0 then
      some (Sum.inr (x2, (x3 + (1 : Int32))))
    else
      some (Sum.inr (x3, (x3 + (1 : Int32))))
def S_X2_farthestFrom_4 (x1 : Int32) (s : wk_St) (p : Int32 × Int32) : Option ((Int32) ⊕ (Int32 × Int32)) := match p with
  | (x2, x3) =>
    if x3 ≥ (12 : Int32) then
      some (Sum.inl x2)
    else
      Option.bind (f_X2_stepsBetween x1 x3 s) fun v1 =>
      Option.bind (f_X2_stepsBetween x1 x2 s) fun v2 =>
      if v1 ≤ v2 then
        j_X2_farthestFrom_21_l4 x1 x2 x3 v1 (0 : Int32) s
      else
        j_X2_farthestFrom_21_l4 x1 x2 x3 v1 (1 : Int32) s
def f_X2_farthestFrom (x1 : Int32) (s : wk_St) : Option (Int32) :=
  Option.bind (wk_loop (S_X2_farthestFrom_4 x1 s) wk_F (x1, (0 : Int32))) fun v3 =>
  some v3
def f_J6_bitCount_0f7a4 (x0 : Int32) : Int32 :=
  wk_let ((x0 - ((wk_ushr x0 (1 : Int32)) &&& (1431655765 : Int32))) : Int32) fun v1 =>
  wk_let (((v1 &&& (858993459 : Int32)) + ((wk_ushr v1 (2 : Int32)) &&& (858993459 : Int32))) : Int32) fun v2 =>
  wk_let (((v2 + (wk_ushr v2 (4 : Int32))) &&& (252645135 : Int32)) : Int32) fun v3 =>
  wk_let ((v3 + (wk_ushr v3 (8 : Int32))) : Int32) fun v4 =>
  wk_let ((v4 + (wk_ushr v4 (16 : Int32))) : Int32) fun v5 =>
  (v5 &&& (63 : Int32))
def f_X11_rumour (x1 : Int32) (x2 : Int32) (s : wk_St) : Option (Int32) :=
  if (f_X2_isTold x1 s) = true then
    if x2 = (0 : Int32) then
      Option.bind (f_X2_farthestFrom x1 s) fun v2 =>
      Option.bind (f_X2_stepsBetween x1 v2 s) fun v3 =>
      some v3
    else
    if x2 = (1 : Int32) then
      Option.bind (f_X2_farthestFrom x1 s) fun v4 =>
      some v4
    else
    if x2 = (2 : Int32) then
      Option.bind (f_X2_reachOf x1 s) fun v6 =>
      some ((f_J6_bitCount_0f7a4 (s.1 3 4)) - v6)
    else
    some (-1 : Int32)
  else
    some (-1 : Int32)
def S_X11_middle_8 (s : wk_St) (p : Int32 × Int32 × Int32 × Int32) : Option ((Int32) ⊕ (Int32 × Int32 × Int32 × Int32)) := match p with
  | (x1, x2, x3, x4) =>
    if x4 ≥ (12 : Int32) then
      some (Sum.inl x1)
    else
      if (f_X2_isTold x4 s) = false then
        some (Sum.inr (x1, x2, x3, (x4 + (1 : Int32))))
      else
        Option.bind (f_X2_reachOf x4 s) fun v2 =>
        Option.bind (f_X2_farthestFrom x4 s) fun v3 =>
        Option.bind (f_X2_stepsBetween x4 v3 s) fun v4 =>
        if v2 > x2 then
          some (Sum.inr (x4, v2, v4, (x4 + (1 : Int32))))
        else
          if ¬ v2 = x2 then
            some (Sum.inr (x1, x2, x3, (x4 + (1 : Int32))))
          else
            if v4 ≥ x3 then
              some (Sum.inr (x1, x2, x3, (x4 + (1 : Int32))))
            else
              some (Sum.inr (x4, v2, v4, (x4 + (1 : Int32))))
def f_X11_middle (s : wk_St) : Option (Int32) :=
  Option.bind (wk_loop (S_X11_middle_8 s) wk_F ((-2 : Int32), (0 : Int32), (99 : Int32), (0 : Int32))) fun v5 =>
  some v5
def S_X11_between_27 (x1 : Int32) (x2 : Int32) (x3 : Int32) (s : wk_St) (p : Int32 × Int32) : Option ((Int32) ⊕ (Int32 × Int32)) := match p with
  | (x4, x5) =>
    if x5 ≥ (12 : Int32) then
      some (Sum.inl x4)
    else
      Option.bind (f_X2_stepsBetween x1 x5 s) fun v4 =>
      Option.bind (f_X2_stepsBetween x5 x2 s) fun v5 =>
      if ¬ (v4 + v5) = x3 then
        some (Sum.inr (x4, (x5 + (1 : Int32))))
      else
        wk_let ((x4 ||| ((1 : Int32) <<< (x5 &&& 31))) : Int32) fun v6 =>
        some (Sum.inr (v6, (x5 + (1 : Int32))))
def f_X11_between (x1 : Int32) (x2 : Int32) (s : wk_St) : Option (Int32) :=
  if (f_X2_isTold x1 s) = false then
    some (-1 : Int32)
  else
    if (f_X2_isTold x2 s) = true then
      Option.bind (f_X2_stepsBetween x1 x2 s) fun v3 =>
      if ¬ v3 = (99 : Int32) then
        Option.bind (wk_loop (S_X11_between_27 x1 x2 v3 s) wk_F ((0 : Int32), (0 : Int32))) fun v7 =>
        some v7
      else
        some (0 : Int32)
    else
      some (-1 : Int32)
def f_X11_faultOf (x0 : Int32) (x1 : Int32) : Int32 :=
  (((-1000 : Int32) * x0) - x1)
def f_J9_min_f86c9 (x0 : Int64) (x2 : Int64) : Int64 :=
  if (wk_lcmp x0 x2) > 0 then
    x2
  else
    x0
def S_X9_goOn_2 (p : Int32 × wk_St) : Option ((wk_St) ⊕ (Int32 × wk_St)) := match p with
  | (x2, s) =>
    if x2 ≥ (12 : Int32) then
      some (Sum.inl s)
    else
      if wk_in x2 12 = true then
        if wk_in x2 12 = true then
          some (Sum.inr ((x2 + (1 : Int32)), (wk_sl s 28 (x2.toNatClampNeg) (s.2 29 (x2.toNatClampNeg)))))
        else none
      else none
def S_X9_goOn_30 (x2 : Int32) (x3 : Int32) (p : Int64 × Int32 × wk_St) : Option ((Int64 × wk_St) ⊕ (Int64 × Int32 × wk_St)) := match p with
  | (x4, x6, s) =>
    if x6 ≥ (12 : Int32) then
      some (Sum.inl (x4, s))
    else
      if (f_X11_hasBit x3 x6) = false then
        wk_let ((x4 + (0 : Int64)) : Int64) fun v5 =>
        some (Sum.inr (v5, (x6 + (1 : Int32)), s))
      else
        if wk_in x6 12 = true then
          wk_let ((x4 + (s.2 28 (x6.toNatClampNeg))) : Int64) fun v6 =>
          some (Sum.inr (v6, (x6 + (1 : Int32)), s))
        else none
def S_X9_goOn_17 (p : Int32 × wk_St) : Option ((wk_St) ⊕ (Int32 × wk_St)) := match p with
  | (x2, s) =>
    if x2 ≥ (12 : Int32) then
      some (Sum.inl s)
    else
      Option.bind (f_X2_spread ((1 : Int32) <<< (x2 &&& 31)) s) fun v3 =>
      Option.bind (wk_loop (S_X9_goOn_30 x2 v3) wk_F ((0 : Int64), (0 : Int32), s)) fun v7 =>
      if wk_in x2 12 = true then
        some (Sum.inr ((x2 + (1 : Int32)), (wk_sl v7.2 29 (x2.toNatClampNeg) (f_J9_min_f86c9 v7.1 (1000000000 : Int64)))))
      else none
def f_X9_goOn (s : wk_St) : Option (wk_St) :=
  Option.bind (wk_loop S_X9_goOn_2 wk_F ((0 : Int32), s)) fun v1 =>
  Option.bind (wk_loop S_X9_goOn_17 wk_F ((0 : Int32), v1)) fun v11 =>
  some v11
def j_X9_strike_11_l2 (x1 : Int32) (x2 : Int32) (x3 : Int32) (s_0 : Int32) (s : wk_St) : Option ((wk_St) ⊕ (Int32 × wk_St)) :=
  if s_0 = x2 then
    some (Sum.inr ((x3 + (1 : Int32)), s))
  else
    if wk_in x3 12 = true then
      some (Sum.inr ((x3 + (1 : Int32)), (wk_sl s 29 (x3.toNatClampNeg) (0 : Int64))))
    else none
def S_X9_strike_2 (x1 : Int32) (x2 : Int32) (p : Int32 × wk_St) : Option ((wk_St) ⊕ (Int32 × wk_St)) := match p with
  | (x3, s) =>
    if x3 ≥ (12 : Int32) then
      some (Sum.inl s)
    else
      if ¬ x3 = x1 then
        j_X9_strike_11_l2 x1 x2 x3 (0 : Int32) s
      else
        j_X9_strike_11_l2 x1 x2 x3 (1 : Int32) s
def f_X9_strike (x1 : Int32) (x2 : Int32) (s : wk_St) : Option (wk_St) :=
  Option.bind (wk_loop (S_X9_strike_2 x1 x2) wk_F ((0 : Int32), s)) fun v1 =>
  some v1
def S_X9_followBoots_2 (x1 : Int32) (x2 : Int32) (p : Int32 × wk_St) : Option ((wk_St) ⊕ (Int32 × wk_St)) := match p with
  | (x5, s) =>
    if x5 ≥ (12 : Int32) then
      some (Sum.inl s)
    else
      if ¬ x5 = x1 then
        if wk_in x5 12 = true then
          some (Sum.inr ((x5 + (1 : Int32)), (wk_sl s 29 (x5.toNatClampNeg) (0 : Int64))))
        else none
      else
        if wk_in x5 12 = true then
          some (Sum.inr ((x5 + (1 : Int32)), (wk_sl s 29 (x5.toNatClampNeg) (1 : Int64))))
        else none
def j_X9_followBoots_62_l19 (x2 : Int32) (x5 : Int32) (x6 : Int32) (x7 : Int32) (x8 : Int32) (s : wk_St) : Option (((Int32 × wk_St) ⊕ (wk_St)) ⊕ (Int32 × wk_St)) :=
  Option.bind (f_X9_goOn s) fun v5 =>
  if x6 = (63 : Int32) then
    some (Sum.inr ((x5 + (1 : Int32)), v5))
  else
    Option.bind (f_X9_strike x8 x7 v5) fun v6 =>
    some (Sum.inr ((x5 + (1 : Int32)), v6))
def j_X9_followBoots_51_l19 (x2 : Int32) (x5 : Int32) (x6 : Int32) (x7 : Int32) (x8 : Int32) (s : wk_St) : Option (((Int32 × wk_St) ⊕ (wk_St)) ⊕ (Int32 × wk_St)) :=
  if x6 = (63 : Int32) then
    j_X9_followBoots_62_l19 x2 x5 x6 x7 x8 s
  else
    if (f_X2_isTold x8 s) = true then
      j_X9_followBoots_62_l19 x2 x5 x6 x7 x8 s
    else
      some (Sum.inl (Sum.inl ((f_X11_faultOf (7 : Int32) x5), s)))
def j_X9_followBoots_37_l19 (x2 : Int32) (x5 : Int32) (x6 : Int32) (x7 : Int32) (s_0 : Int32) (s_1 : Int32) (s : wk_St) : Option (((Int32 × wk_St) ⊕ (wk_St)) ⊕ (Int32 × wk_St)) :=
  if x6 = (63 : Int32) then
    j_X9_followBoots_51_l19 x2 x5 x6 x7 (s_1 - s_0) s
  else
    if (f_X11_isWithin (s_1 - s_0) (0 : Int32) (11 : Int32)) = true then
      j_X9_followBoots_51_l19 x2 x5 x6 x7 (s_1 - s_0) s
    else
      some (Sum.inl (Sum.inl ((f_X11_faultOf (1 : Int32) x5), s)))
def S_X9_followBoots_19 (x2 : Int32) (p : Int32 × wk_St) : Option (((Int32 × wk_St) ⊕ (wk_St)) ⊕ (Int32 × wk_St)) := match p with
  | (x5, s) =>
    if x5 ≥ x2 then
      some (Sum.inl (Sum.inr s))
    else
      Option.bind (f_X8_byteAt x5 s) fun v3 =>
      if (f_X11_isWithin v3 (97 : Int32) (108 : Int32)) = false then
        j_X9_followBoots_37_l19 x2 x5 v3 (b2i (f_X11_isWithin v3 (97 : Int32) (108 : Int32))) (65 : Int32) v3 s
      else
        j_X9_followBoots_37_l19 x2 x5 v3 (b2i (f_X11_isWithin v3 (97 : Int32) (108 : Int32))) (97 : Int32) v3 s
def f_X9_followBoots (x1 : Int32) (x2 : Int32) (s : wk_St) : Option (Int32 × wk_St) :=
  Option.bind (wk_loop (S_X9_followBoots_2 x1 x2) wk_F ((0 : Int32), s)) fun v1 =>
  Option.bind (wk_loop (S_X9_followBoots_19 x2) wk_F ((0 : Int32), v1)) fun v11 =>
  match v11 with
  | Sum.inl v11r => some v11r
  | Sum.inr v11 =>
    some ((0 : Int32), v11)
def S_X9_bootsBits_4 (s : wk_St) (p : Int32 × Int32) : Option ((Int32) ⊕ (Int32 × Int32)) := match p with
  | (x1, x2) =>
    if x2 ≥ (12 : Int32) then
      some (Sum.inl x1)
    else
      if wk_in x2 12 = true then
        if (wk_lcmp (s.2 29 (x2.toNatClampNeg)) (0 : Int64)) ≤ 0 then
          wk_let ((x1 ||| (0 : Int32)) : Int32) fun v1 =>
          some (Sum.inr (v1, (x2 + (1 : Int32))))
        else
          wk_let ((x1 ||| ((1 : Int32) <<< (x2 &&& 31))) : Int32) fun v2 =>
          some (Sum.inr (v2, (x2 + (1 : Int32))))
      else none
def f_X9_bootsBits (s : wk_St) : Option (Int32) :=
  Option.bind (wk_loop (S_X9_bootsBits_4 s) wk_F ((0 : Int32), (0 : Int32))) fun v3 =>
  some v3
def S_X9_bootsWays_4 (s : wk_St) (p : Int64 × Int32) : Option ((Int64) ⊕ (Int64 × Int32)) := match p with
  | (x1, x3) =>
    if x3 ≥ (12 : Int32) then
      some (Sum.inl x1)
    else
      if wk_in x3 12 = true then
        wk_let ((x1 + (s.2 29 (x3.toNatClampNeg))) : Int64) fun v1 =>
        some (Sum.inr (v1, (x3 + (1 : Int32))))
      else none
def f_X9_bootsWays (s : wk_St) : Option (Int32) :=
  Option.bind (wk_loop (S_X9_bootsWays_4 s) wk_F ((0 : Int64), (0 : Int32))) fun v2 =>
  some ((f_J9_min_f86c9 v2 (1000000000 : Int64)).toInt32)
def f_X11_boots (x1 : Int32) (x2 : Int32) (x3 : Int32) (s : wk_St) : Option (Int32 × wk_St) :=
  if (f_X2_isTold x1 s) = false then
    some ((-1 : Int32), s)
  else
    if (f_X8_has x2 (1 : Int32) (20 : Int32) s) = false then
      some ((-1 : Int32), s)
    else
      if (f_X11_isWithin x3 (0 : Int32) (1 : Int32)) = true then
        Option.bind (f_X9_followBoots x1 x2 s) fun v4 =>
        wk_let (f_X8_clear v4.2) fun v5 =>
        if v4.1 ≥ 0 then
          if ¬ x3 = 0 then
            Option.bind (f_X9_bootsWays v5) fun v6 =>
            some (v6, v5)
          else
            Option.bind (f_X9_bootsBits v5) fun v7 =>
            some (v7, v5)
        else
          some (v4.1, v5)
      else
        some ((-1 : Int32), s)
def j_X11_knightsMeant_25_l4 (x1 : Int32) (x2 : Int32) (x3 : Int32) (x4 : Int32) (s_0 : Int32) (s : wk_St) : Option ((Int32) ⊕ (Int32 × Int32)) :=
  if (f_X0_isTold 8 x4 s) = false then
    some (Sum.inr (x3, (x4 + (1 : Int32))))
  else
    if s_0 = 0 then
      some (Sum.inr (x3, (x4 + (1 : Int32))))
    else
      wk_let ((x3 ||| ((1 : Int32) <<< (x4 &&& 31))) : Int32) fun v3 =>
      some (Sum.inr (v3, (x4 + (1 : Int32))))
def S_X11_knightsMeant_4 (x1 : Int32) (x2 : Int32) (s : wk_St) (p : Int32 × Int32) : Option ((Int32) ⊕ (Int32 × Int32)) := match p with
  | (x3, x4) =>
    if x4 ≥ (9 : Int32) then
      some (Sum.inl x3)
    else
      Option.bind (f_X0_wolfDaysOf 8 x4 s) fun v1 =>
      if ¬ (v1 &&& x1) = 0 then
        j_X11_knightsMeant_25_l4 x1 x2 x3 x4 (0 : Int32) s
      else
        if ¬ (x2 &&& (v1 ^^^ (-1 : Int32))) = 0 then
          j_X11_knightsMeant_25_l4 x1 x2 x3 x4 (0 : Int32) s
        else
          j_X11_knightsMeant_25_l4 x1 x2 x3 x4 (1 : Int32) s
def f_X11_knightsMeant (x1 : Int32) (x2 : Int32) (s : wk_St) : Option (Int32) :=
  Option.bind (wk_loop (S_X11_knightsMeant_4 x1 x2 s) wk_F ((0 : Int32), (0 : Int32))) fun v4 =>
  some v4
def S_X11_weekdaysMeant_4 (x0 : Int32) (p : Int32 × Int32) : Option ((Int32) ⊕ (Int32 × Int32)) := match p with
  | (x1, x2) =>
    if x2 ≥ (7 : Int32) then
      some (Sum.inl x1)
    else
      wk_let (((((1 : Int32) <<< (x2 &&& 31)) ||| ((1 : Int32) <<< ((wk_rem (x2 + (1 : Int32)) (7 : Int32)) &&& 31))) ||| ((1 : Int32) <<< ((wk_rem (x2 + (2 : Int32)) (7 : Int32)) &&& 31))) : Int32) fun v1 =>
      if ¬ (v1 &&& x0) = 0 then
        some (Sum.inr (x1, (x2 + (1 : Int32))))
      else
        wk_let ((x1 ||| ((1 : Int32) <<< (x2 &&& 31))) : Int32) fun v2 =>
        some (Sum.inr (v2, (x2 + (1 : Int32))))
def f_X11_weekdaysMeant (x0 : Int32) : Option (Int32) :=
  Option.bind (wk_loop (S_X11_weekdaysMeant_4 x0) wk_F ((0 : Int32), (0 : Int32))) fun v3 =>
  some v3
def S_X11_absences_20 (x1 : Int32) (x2 : Int32) (p : Int32 × Int32 × Int32 × wk_St) : Option (((Int32 × wk_St) ⊕ (Int32 × Int32 × wk_St)) ⊕ (Int32 × Int32 × Int32 × wk_St)) := match p with
  | (x3, x4, x5, s) =>
    if x5 ≥ x1 then
      some (Sum.inl (Sum.inr (x3, x4, s)))
    else
      Option.bind (f_X8_byteAt x5 s) fun v3 =>
      Option.bind (f_X2_weekdayOf ((s.1 8 5) - x5) s) fun v4 =>
      wk_let (((1 : Int32) <<< (v4 &&& 31)) : Int32) fun v5 =>
      if ¬ v3 = (112 : Int32) then
        if ¬ v3 = (97 : Int32) then
          if v3 = (63 : Int32) then
            some (Sum.inr (x3, x4, (x5 + (1 : Int32)), s))
          else
            wk_let (f_X8_clear s) fun v6 =>
            some (Sum.inl (Sum.inl ((f_X11_faultOf (1 : Int32) x5), v6)))
        else
          some (Sum.inr (x3, (x4 ||| v5), (x5 + (1 : Int32)), s))
      else
        some (Sum.inr ((x3 ||| v5), x4, (x5 + (1 : Int32)), s))
def f_X11_absences (x1 : Int32) (x2 : Int32) (s : wk_St) : Option (Int32 × wk_St) :=
  if (f_X8_has x1 (1 : Int32) (60 : Int32) s) = false then
    some ((-1 : Int32), s)
  else
    if (f_X11_isWithin x2 (0 : Int32) (2 : Int32)) = true then
      Option.bind (wk_loop (S_X11_absences_20 x1 x2) wk_F ((0 : Int32), (0 : Int32), (0 : Int32), s)) fun v8 =>
      match v8 with
      | Sum.inl v8r => some v8r
      | Sum.inr v8 =>
        wk_let (f_X8_clear v8.2.2) fun v12 =>
        if ¬ x2 = (2 : Int32) then
          if ¬ x2 = (1 : Int32) then
            Option.bind (f_X11_knightsMeant v8.1 (0 : Int32) v12) fun v13 =>
            some (v13, v12)
          else
            Option.bind (f_X11_knightsMeant v8.1 v8.2.1 v12) fun v14 =>
            some (v14, v12)
        else
          Option.bind (f_X11_weekdaysMeant v8.1) fun v15 =>
          some (v15, v12)
    else
      some ((-1 : Int32), s)
def f_X8_pairAt (x1 : Int32) (s : wk_St) : Option (Int32) :=
  Option.bind (f_X8_byteAt ((2 : Int32) * x1) s) fun v1 =>
  Option.bind (f_X8_byteAt (((2 : Int32) * x1) + (1 : Int32)) s) fun v2 =>
  some ((v1 <<< ((8 : Int32) &&& 31)) ||| v2)
def S_X11_canBeHated_2 (x1 : Int32) (x2 : Int32) (s : wk_St) (x3 : Int32) : Option (((Bool) ⊕ (Unit)) ⊕ (Int32)) :=
  if x3 ≥ x2 then
    some (Sum.inl (Sum.inr ()))
  else
    Option.bind (f_X8_pairAt x3 s) fun v1 =>
    if (v1 &&& x1) = 0 then
      if (b2i (f_X11_hasBit v1 (15 : Int32))) = (0 : Int32) then
        some (Sum.inr (x3 + (1 : Int32)))
      else
        some (Sum.inl (Sum.inl false))
    else
      if (b2i (f_X11_hasBit v1 (15 : Int32))) = (1 : Int32) then
        some (Sum.inr (x3 + (1 : Int32)))
      else
        some (Sum.inl (Sum.inl false))
def f_X11_canBeHated (x1 : Int32) (x2 : Int32) (s : wk_St) : Option (Bool) :=
  Option.bind (wk_loop (S_X11_canBeHated_2 x1 x2 s) wk_F (0 : Int32)) fun v3 =>
  match v3 with
  | Sum.inl v3r => some v3r
  | Sum.inr v3 =>
    some true
def j_X11_hated_55_l36 (x1 : Int32) (x2 : Int32) (x3 : Int32) (x5 : Int32) (x6 : Int32) (x7 : Int32) (s_0 : Int32) (s : wk_St) : Option ((Int32 × Int32 × Int32 × wk_St) ⊕ (Int32 × Int32 × Int32 × Int32 × wk_St)) :=
  if ¬ x3 = 0 then
    some (Sum.inr ((x3 + (1 : Int32)), s_0, x5, (x7 + (1 : Int32)), s))
  else
    some (Sum.inr ((x3 + (1 : Int32)), s_0, x7, (x7 + (1 : Int32)), s))
def S_X11_hated_36 (x1 : Int32) (x2 : Int32) (x6 : Int32) (p : Int32 × Int32 × Int32 × Int32 × wk_St) : Option ((Int32 × Int32 × Int32 × wk_St) ⊕ (Int32 × Int32 × Int32 × Int32 × wk_St)) := match p with
  | (x3, x4, x5, x7, s) =>
    if x7 ≥ (12 : Int32) then
      some (Sum.inl (x3, x4, x5, s))
    else
      Option.bind (f_X11_canBeHated (((1 : Int32) <<< (x6 &&& 31)) ||| ((1 : Int32) <<< (x7 &&& 31))) x1 s) fun v5 =>
      if v5 = false then
        some (Sum.inr (x3, x4, x5, (x7 + (1 : Int32)), s))
      else
        if ¬ x3 = 0 then
          j_X11_hated_55_l36 x1 x2 x3 x5 x6 x7 x4 s
        else
          j_X11_hated_55_l36 x1 x2 x3 x5 x6 x7 x6 s
def S_X11_hated_29 (x1 : Int32) (x2 : Int32) (p : Int32 × Int32 × Int32 × Int32 × wk_St) : Option ((Int32 × Int32 × Int32 × wk_St) ⊕ (Int32 × Int32 × Int32 × Int32 × wk_St)) := match p with
  | (x3, x4, x5, x6, s) =>
    if x6 ≥ (12 : Int32) then
      some (Sum.inl (x3, x4, x5, s))
    else
      wk_let ((x6 + (1 : Int32)) : Int32) fun v4 =>
      Option.bind (wk_loop (S_X11_hated_36 x1 x2 x6) wk_F (x3, x4, x5, v4, s)) fun v6 =>
      some (Sum.inr (v6.1, v6.2.1, v6.2.2.1, (x6 + (1 : Int32)), v6.2.2.2))
def f_X11_hated (x1 : Int32) (x2 : Int32) (s : wk_St) : Option (Int32 × wk_St) :=
  if (f_X11_isWithin x1 (1 : Int32) (16 : Int32)) = false then
    some ((-1 : Int32), s)
  else
    if (f_X8_has ((2 : Int32) * x1) (2 : Int32) (32 : Int32) s) = false then
      some ((-1 : Int32), s)
    else
      if (f_X11_isWithin x2 (0 : Int32) (2 : Int32)) = true then
        Option.bind (wk_loop (S_X11_hated_29 x1 x2) wk_F ((0 : Int32), (-2 : Int32), (-2 : Int32), (0 : Int32), s)) fun v8 =>
        wk_let (f_X8_clear v8.2.2.2) fun v11 =>
        if ¬ x2 = 0 then
          if ¬ x2 = (1 : Int32) then
            some (v8.2.2.1, v11)
          else
            some (v8.2.1, v11)
        else
          some (v8.1, v11)
      else
        some ((-1 : Int32), s)
def S_X11_waysToEndWith_4 (x1 : Int32) (x2 : Int32) (s : wk_St) (p : Int32 × Int32) : Option ((Int32) ⊕ (Int32 × Int32)) := match p with
  | (x3, x4) =>
    if x4 ≥ (9 : Int32) then
      some (Sum.inl x3)
    else
      wk_let ((x1 &&& (((1 : Int32) <<< (x4 &&& 31)) ^^^ (-1 : Int32))) : Int32) fun v1 =>
      if (f_X11_hasBit (x1 &&& x2) x4) = false then
        some (Sum.inr (x3, (x4 + (1 : Int32))))
      else
        if v1 < 0 then
          some (Sum.inr (x3, (x4 + (1 : Int32))))
        else
          if v1 ≥ (512 : Int32) then
            some (Sum.inr (x3, (x4 + (1 : Int32))))
          else
            if wk_in v1 512 = true then
              wk_let ((x3 + (s.1 36 (v1.toNatClampNeg))) : Int32) fun v3 =>
              some (Sum.inr (v3, (x4 + (1 : Int32))))
            else none
def f_X11_waysToEndWith (x1 : Int32) (x2 : Int32) (s : wk_St) : Option (Int32) :=
  Option.bind (wk_loop (S_X11_waysToEndWith_4 x1 x2 s) wk_F ((0 : Int32), (0 : Int32))) fun v4 =>
  some v4
def j_X11_waysToDress_42_l4 (x1 : Int32) (x2 : Int32) (x3 : Int32) (x4 : Int32) (x5 : Int32) (s : wk_St) : Option ((Int32 × wk_St) ⊕ (Int32 × Int32 × wk_St)) :=
  if ¬ x5 = x1 then
    some (Sum.inr (x3, (x4 + (1 : Int32)), s))
  else
    if wk_in x4 512 = true then
      wk_let ((x3 + (s.1 36 (x4.toNatClampNeg))) : Int32) fun v3 =>
      some (Sum.inr (v3, (x4 + (1 : Int32)), s))
    else none
def j_X11_waysToDress_20_l4 (x1 : Int32) (x2 : Int32) (x3 : Int32) (x4 : Int32) (x5 : Int32) (s_0 : Int32) (s_1 : Int32) (s : wk_St) : Option ((Int32 × wk_St) ⊕ (Int32 × Int32 × wk_St)) :=
  if wk_in s_1 512 = true then
    if x5 < (1 : Int32) then
      j_X11_waysToDress_42_l4 x1 x2 x3 x4 x5 (wk_si s 36 (s_1.toNatClampNeg) s_0)
    else
      if x5 > x1 then
        j_X11_waysToDress_42_l4 x1 x2 x3 x4 x5 (wk_si s 36 (s_1.toNatClampNeg) s_0)
      else
        Option.bind (f_X8_pairAt (x5 - (1 : Int32)) (wk_si s 36 (s_1.toNatClampNeg) s_0)) fun v4 =>
        Option.bind (f_X11_waysToEndWith x4 (v4 &&& x2) (wk_si s 36 (s_1.toNatClampNeg) s_0)) fun v5 =>
        if wk_in x4 512 = true then
          j_X11_waysToDress_42_l4 x1 x2 x3 x4 x5 (wk_si (wk_si s 36 (s_1.toNatClampNeg) s_0) 36 (x4.toNatClampNeg) v5)
        else none
  else none
def S_X11_waysToDress_4 (x1 : Int32) (x2 : Int32) (p : Int32 × Int32 × wk_St) : Option ((Int32 × wk_St) ⊕ (Int32 × Int32 × wk_St)) := match p with
  | (x3, x4, s) =>
    if x4 ≥ (512 : Int32) then
      some (Sum.inl (x3, s))
    else
      wk_let ((f_J6_bitCount_0f7a4 x4) : Int32) fun v2 =>
      if ¬ x4 = 0 then
        j_X11_waysToDress_20_l4 x1 x2 x3 x4 v2 (0 : Int32) x4 s
      else
        j_X11_waysToDress_20_l4 x1 x2 x3 x4 v2 (1 : Int32) x4 s
def f_X11_waysToDress (x1 : Int32) (x2 : Int32) (s : wk_St) : Option (Int32 × wk_St) :=
  Option.bind (wk_loop (S_X11_waysToDress_4 x1 x2) wk_F ((0 : Int32), (0 : Int32), s)) fun v6 =>
  some (v6.1, v6.2)
def f_X11_suits (x1 : Int32) (x2 : Int32) (s : wk_St) : Option (Int32 × wk_St) :=
  if (f_X11_isWithin x1 (1 : Int32) (9 : Int32)) = false then
    some ((-1 : Int32), s)
  else
    if (f_X8_has ((2 : Int32) * x1) (2 : Int32) (18 : Int32) s) = true then
      if (f_X11_isWithin x2 (-1 : Int32) (8 : Int32)) = false then
        wk_let (f_X8_clear s) fun v4 =>
        some ((-2 : Int32), v4)
      else
        if ¬ x2 = (-1 : Int32) then
          Option.bind (f_X11_waysToDress x1 ((511 : Int32) &&& (((1 : Int32) <<< (x2 &&& 31)) ^^^ (-1 : Int32))) s) fun v5 =>
          wk_let (f_X8_clear v5.2) fun v6 =>
          some (v5.1, v6)
        else
          Option.bind (f_X11_waysToDress x1 (511 : Int32) s) fun v7 =>
          wk_let (f_X8_clear v7.2) fun v8 =>
          some (v7.1, v8)
    else
      some ((-1 : Int32), s)
def f_X7_isLeap (x0 : Int32) : Bool :=
  if ¬ (wk_rem x0 (4 : Int32)) = 0 then
    if ¬ (wk_rem x0 (400 : Int32)) = 0 then
      false
    else
      true
  else
    if ¬ (wk_rem x0 (100 : Int32)) = 0 then
      true
    else
      if ¬ (wk_rem x0 (400 : Int32)) = 0 then
        false
      else
        true
def f_X7_monthLength (x0 : Int32) (x1 : Int32) (s : wk_St) : Option (Int32) :=
  if x1 < (1 : Int32) then
    some (0 : Int32)
  else
    if x1 ≤ (12 : Int32) then
      if ¬ x1 = (2 : Int32) then
        if wk_in (x1 - (1 : Int32)) 12 = true then
          some (wk_ml ((x1 - (1 : Int32)).toNatClampNeg))
        else none
      else
        if (f_X7_isLeap x0) = false then
          if wk_in (x1 - (1 : Int32)) 12 = true then
            some (wk_ml ((x1 - (1 : Int32)).toNatClampNeg))
          else none
        else
          some (29 : Int32)
    else
      some (0 : Int32)
def f_X7_isDate (x0 : Int32) (x1 : Int32) (x2 : Int32) (s : wk_St) : Option (Bool) :=
  if (f_X11_isWithin x0 (1 : Int32) (9999 : Int32)) = false then
    some false
  else
    Option.bind (f_X7_monthLength x0 x1 s) fun v2 =>
    if (f_X11_isWithin x2 (1 : Int32) v2) = false then
      some false
    else
      some true
def S_X7_dayNumber_26 (x0 : Int32) (x1 : Int32) (s : wk_St) (p : Int32 × Int32) : Option ((Int32) ⊕ (Int32 × Int32)) := match p with
  | (x4, x5) =>
    if x5 ≥ x1 then
      some (Sum.inl x4)
    else
      if x5 > (12 : Int32) then
        some (Sum.inl x4)
      else
        Option.bind (f_X7_monthLength x0 x5 s) fun v3 =>
        some (Sum.inr ((x4 + v3), (x5 + (1 : Int32))))
def f_X7_dayNumber (x0 : Int32) (x1 : Int32) (x2 : Int32) (s : wk_St) : Option (Int32) :=
  wk_let ((x0 - (1 : Int32)) : Int32) fun v1 =>
  wk_let ((((((((365 : Int32) * v1) + (v1 / (4 : Int32))) - (v1 / (100 : Int32))) + (v1 / (400 : Int32))) + x2) - (1 : Int32)) : Int32) fun v2 =>
  Option.bind (wk_loop (S_X7_dayNumber_26 x0 x1 s) wk_F (v2, (1 : Int32))) fun v4 =>
  some v4
def f_X7_weekdayOf (x0 : Int32) (x1 : Int32) (x2 : Int32) (s : wk_St) : Option (Int32) :=
  Option.bind (f_X7_dayNumber x0 x1 x2 s) fun v1 =>
  some (wk_rem (v1 + (1 : Int32)) (7 : Int32))
def f_X11_weekday (x1 : Int32) (x2 : Int32) (x3 : Int32) (s : wk_St) : Option (Int32) :=
  Option.bind (f_X7_isDate x1 x2 x3 s) fun v1 =>
  if v1 = true then
    Option.bind (f_X7_weekdayOf x1 x2 x3 s) fun v2 =>
    some v2
  else
    some (-1 : Int32)
def f_X11_daysBetween (x1 : Int32) (x2 : Int32) (x3 : Int32) (x4 : Int32) (x5 : Int32) (x6 : Int32) (s : wk_St) : Option (Int32) :=
  Option.bind (f_X7_isDate x1 x2 x3 s) fun v1 =>
  if v1 = false then
    some (-10000000 : Int32)
  else
    Option.bind (f_X7_isDate x4 x5 x6 s) fun v2 =>
    if v2 = true then
      Option.bind (f_X7_dayNumber x4 x5 x6 s) fun v3 =>
      Option.bind (f_X7_dayNumber x1 x2 x3 s) fun v4 =>
      some (v3 - v4)
    else
      some (-10000000 : Int32)
def f_X11_feast (x1 : Int32) (x2 : Int32) (x3 : Int32) (x4 : Int32) (s : wk_St) : Option (Int32) :=
  Option.bind (f_X7_isDate x1 x2 (1 : Int32) s) fun v1 =>
  if v1 = false then
    some (-1 : Int32)
  else
    if (f_X11_isWithin x3 (1 : Int32) (5 : Int32)) = false then
      some (-1 : Int32)
    else
      if (f_X11_isWithin x4 (0 : Int32) (6 : Int32)) = true then
        Option.bind (f_X7_weekdayOf x1 x2 (1 : Int32) s) fun v4 =>
        Option.bind (f_J9_floorMod_7cf53 (x4 - v4) (7 : Int32)) fun v5 =>
        wk_let ((((1 : Int32) + v5) + ((7 : Int32) * (x3 - (1 : Int32)))) : Int32) fun v6 =>
        Option.bind (f_X7_monthLength x1 x2 s) fun v7 =>
        if v6 > v7 then
          some (-2 : Int32)
        else
          some v6
      else
        some (-1 : Int32)
def f_X7_easterOf (x0 : Int32) : Int32 :=
  wk_let ((wk_rem x0 (19 : Int32)) : Int32) fun v1 =>
  wk_let ((x0 / (100 : Int32)) : Int32) fun v2 =>
  wk_let ((wk_rem x0 (100 : Int32)) : Int32) fun v3 =>
  wk_let ((((v2 - ((v2 + (8 : Int32)) / (25 : Int32))) + (1 : Int32)) / (3 : Int32)) : Int32) fun v4 =>
  wk_let ((wk_rem ((((((19 : Int32) * v1) + v2) - (v2 / (4 : Int32))) - v4) + (15 : Int32)) (30 : Int32)) : Int32) fun v5 =>
  wk_let ((wk_rem (((((32 : Int32) + ((2 : Int32) * (wk_rem v2 (4 : Int32)))) + ((2 : Int32) * (v3 / (4 : Int32)))) - v5) - (wk_rem v3 (4 : Int32))) (7 : Int32)) : Int32) fun v6 =>
  wk_let ((((v1 + ((11 : Int32) * v5)) + ((22 : Int32) * v6)) / (451 : Int32)) : Int32) fun v7 =>
  wk_let ((((v5 + v6) - ((7 : Int32) * v7)) + (114 : Int32)) : Int32) fun v8 =>
  ((((100 : Int32) * (v8 / (31 : Int32))) + (wk_rem v8 (31 : Int32))) + (1 : Int32))
def f_X11_easter (x1 : Int32) (s : wk_St) : Option (Int32) :=
  Option.bind (f_X7_isDate x1 (1 : Int32) (1 : Int32) s) fun v1 =>
  if v1 = false then
    some (-1 : Int32)
  else
    some (f_X7_easterOf x1)
def f_X7_yearLength (x0 : Int32) : Int32 :=
  if (f_X7_isLeap x0) = false then
    (365 : Int32)
  else
    (366 : Int32)
def S_X7_dateOf_6 (x0 : Int32) (s : wk_St) (p : Int32 × Int32 × Int32) : Option ((Int32 × Int32) ⊕ (Int32 × Int32 × Int32)) := match p with
  | (x2, x3, x4) =>
    if x4 ≥ (12 : Int32) then
      some (Sum.inl (x2, x3))
    else
      Option.bind (f_X7_monthLength x0 x4 s) fun v1 =>
      if x2 < v1 then
        some (Sum.inl (x2, x3))
      else
        Option.bind (f_X7_monthLength x0 x4 s) fun v2 =>
        wk_let ((x4 + (1 : Int32)) : Int32) fun v3 =>
        some (Sum.inr ((x2 - v2), v3, (x4 + (1 : Int32))))
def f_X7_dateOf (x0 : Int32) (x1 : Int32) (s : wk_St) : Option (Int32) :=
  Option.bind (wk_loop (S_X7_dateOf_6 x0 s) wk_F (x1, (1 : Int32), (1 : Int32))) fun v4 =>
  some ((((100 : Int32) * v4.2) + v4.1) + (1 : Int32))
def f_X11_date (x1 : Int32) (x2 : Int32) (s : wk_St) : Option (Int32) :=
  Option.bind (f_X7_isDate x1 (1 : Int32) (1 : Int32) s) fun v1 =>
  if v1 = false then
    some (-1 : Int32)
  else
    if (f_X11_isWithin x2 (0 : Int32) ((f_X7_yearLength x1) - (1 : Int32))) = true then
      Option.bind (f_X7_dateOf x1 x2 s) fun v4 =>
      some v4
    else
      some (-1 : Int32)
def f_X11_keep (s : wk_St) : Option (Int32 × wk_St) :=
  Option.bind (f_X0_copyFrom 13 8 s) fun v1 =>
  some (((wk_si v1 0 13 (1 : Int32)).1 8 5), (wk_si v1 0 13 (1 : Int32)))
def f_X11_undo (s : wk_St) : Option (Bool × wk_St) :=
  if ¬ (s.1 0 13) = 0 then
    Option.bind (f_X0_copyFrom 8 13 s) fun v1 =>
    some (true, v1)
  else
    some (false, s)
def j_X11_check_30_l13 (x1 : Int32) (x2 : Int32) (x3 : Int32) (s_0 : Int32) (s : wk_St) : Option ((Int32 × wk_St) ⊕ (Int32 × Int32 × wk_St)) :=
  Option.bind (f_X8_byteAt x3 s) fun v3 =>
  if v3 = s_0 then
    some (Sum.inr (x2, (x3 + (1 : Int32)), s))
  else
    some (Sum.inr (x3, (x3 + (1 : Int32)), s))
def S_X11_check_13 (x1 : Int32) (p : Int32 × Int32 × wk_St) : Option ((Int32 × wk_St) ⊕ (Int32 × Int32 × wk_St)) := match p with
  | (x2, x3, s) =>
    if x3 ≥ x1 then
      some (Sum.inl (x2, s))
    else
      if ¬ x2 = (-1 : Int32) then
        some (Sum.inl (x2, s))
      else
        if (f_X0_isTold 8 x3 s) = false then
          j_X11_check_30_l13 x1 x2 x3 (255 : Int32) s
        else
          Option.bind (f_X0_placeOf 8 x3 s) fun v4 =>
          j_X11_check_30_l13 x1 x2 x3 v4 s
def f_X11_check (x1 : Int32) (s : wk_St) : Option (Int32 × wk_St) :=
  if (f_X8_has x1 (0 : Int32) (9 : Int32) s) = true then
    Option.bind (wk_loop (S_X11_check_13 x1) wk_F ((-1 : Int32), (0 : Int32), s)) fun v5 =>
    wk_let (f_X8_clear v5.2) fun v8 =>
    some (v5.1, v8)
  else
    some ((-2 : Int32), s)
def S_X0_bitsOfKind_4 (x1 : Int32) (s : wk_St) (p : Int32 × Int32) : Option ((Int32) ⊕ (Int32 × Int32)) := match p with
  | (x2, x3) =>
    if x3 ≥ (9 : Int32) then
      some (Sum.inl x2)
    else
      if (f_X0_isTold 8 x3 s) = false then
        wk_let ((x2 ||| (0 : Int32)) : Int32) fun v2 =>
        some (Sum.inr (v2, (x3 + (1 : Int32))))
      else
        if wk_in x3 9 = true then
          if ¬ (s.1 11 (x3.toNatClampNeg)) = x1 then
            wk_let ((x2 ||| (0 : Int32)) : Int32) fun v3 =>
            some (Sum.inr (v3, (x3 + (1 : Int32))))
          else
            wk_let ((x2 ||| ((1 : Int32) <<< (x3 &&& 31))) : Int32) fun v4 =>
            some (Sum.inr (v4, (x3 + (1 : Int32))))
        else none
def f_X0_bitsOfKind (x1 : Int32) (s : wk_St) : Option (Int32) :=
  Option.bind (wk_loop (S_X0_bitsOfKind_4 x1 s) wk_F ((0 : Int32), (0 : Int32))) fun v5 =>
  some v5
def f_X2_huntLength (x1 : Int32) (s : wk_St) : Option (Int32) :=
  if (f_X11_isWithin x1 (0 : Int32) (11 : Int32)) = false then
    some (0 : Int32)
  else
    if wk_in x1 12 = true then
      some (s.1 6 (x1.toNatClampNeg))
    else none
def f_X11_count (x1 : Int32) (s : wk_St) : Option (Int32) :=
  if x1 = (0 : Int32) then
    some (s.1 8 5)
  else
  if x1 = (1 : Int32) then
    Option.bind (f_X2_weekdayOf (s.1 8 5) s) fun v1 =>
    some v1
  else
  if x1 = (2 : Int32) then
    some (s.1 3 4)
  else
  if x1 = (3 : Int32) then
    some (s.1 8 4)
  else
  if x1 = (4 : Int32) then
    Option.bind (f_X0_bitsOfKind (1 : Int32) s) fun v2 =>
    some v2
  else
  if x1 = (5 : Int32) then
    Option.bind (f_X0_bitsOfKind (2 : Int32) s) fun v3 =>
    some v3
  else
  if x1 = (6 : Int32) then
    some (s.1 37 7)
  else
  if x1 = (7 : Int32) then
    some (s.1 1 1)
  else
  if x1 = (8 : Int32) then
    some (s.1 8 6)
  else
  if (f_X2_isTold (x1 - (20 : Int32)) s) = false then
    if (f_X11_isWithin x1 (40 : Int32) (51 : Int32)) = false then
      some (-1 : Int32)
    else
      Option.bind (f_X2_huntLength (x1 - (40 : Int32)) s) fun v6 =>
      some v6
  else
    Option.bind (f_X2_nextTo (x1 - (20 : Int32)) s) fun v7 =>
    some v7
