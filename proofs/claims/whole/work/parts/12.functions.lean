/-! what each method does, as a function: printed from the listing (wip/whole/gen_all.py) -/
noncomputable def f_dy_refill (o : Nat) (s : zSt) : Option (zSt) :=
  if (s.1 o 5) = 0 then
    if (s.1 o 9) ≤ (s.1 o 6) then
      some s
    else
      (some (zw s o 6 ((s.1 o 6) + 1))).bind fun s1 =>
      (some (zw s1 o 5 (s1.1 o 11))).bind fun s2 =>
      (some (zw s2 o 7 0)).bind fun s3 =>
      some s3
  else
    some s
noncomputable def f_rc_jugCost (s : zSt) : Option (Int32 × zSt) :=
  (zld s 2 8 0).bind fun x1 =>
  (zld s 2 8 1).bind fun x2 =>
  some (((3 * x1) + x2), s)
noncomputable def f_dy_begin (o : Nat) (a0 : Int32) (a2 : Int32) (a3 : Int32) (s : zSt) : Option (zSt) :=
  (some (zfill s (o + 1) 32 0)).bind fun s1 =>
  (some (zw s1 o 1 0)).bind fun s2 =>
  (some (zw s2 o 3 0)).bind fun s3 =>
  (some (zw s3 o 4 0)).bind fun s4 =>
  (some (zw s4 o 5 0)).bind fun s5 =>
  (some (zw s5 o 6 0)).bind fun s6 =>
  (some (zw s6 o 8 a0)).bind fun s7 =>
  (some (zw s7 o 2 a2)).bind fun s8 =>
  (some (zw s8 o 9 a3)).bind fun s9 =>
  (f_rc_jugCost s9).bind fun x10 =>
  (some (zw x10.2 o 10 x10.1)).bind fun s11 =>
  (zld s11 2 8 2).bind fun x12 =>
  (some (zw s11 o 11 x12)).bind fun s13 =>
  (zld s13 2 8 5).bind fun x14 =>
  (some (zw s13 o 12 x14)).bind fun s15 =>
  (zld s15 2 8 6).bind fun x16 =>
  (some (zw s15 o 13 x16)).bind fun s17 =>
  (f_dy_refill o s17).bind fun x18 =>
  some x18
noncomputable def f_dy_draw (o : Nat) (s : zSt) : Option (Int32 × zSt) :=
  (some (zw s o 8 (((s.1 o 8) * 1103515245) + 12345))).bind fun s1 =>
  some ((zrem (zush (s1.1 o 8) 8) 12), s1)
noncomputable def f_dy_emptyGlass (o : Nat) (s : zSt) : Option (zSt) :=
  (some (zw s o 5 ((s.1 o 5) - 1))).bind fun s1 =>
  (f_dy_refill o s1).bind fun x2 =>
  some x2
noncomputable def f_dy_grow (o : Nat) (s : zSt) : Option (zSt) :=
  if (s.1 o 5) ≤ 0 then
    (some (zw s o 7 ((s.1 o 7) + 1))).bind fun s1 =>
    some s1
  else
    if ((s.1 o 7) + 1) < (s.1 o 12) then
      (some (zw s o 7 ((s.1 o 7) + 1))).bind fun s2 =>
      some s2
    else
      (some (zw s o 4 ((s.1 o 4) + (s.1 o 5)))).bind fun s3 =>
      (some (zw s3 o 5 0)).bind fun s4 =>
      (f_dy_refill o s4).bind fun x5 =>
      some x5
noncomputable def f_g_isWithin (a0 : Int32) (a1 : Int32) (a2 : Int32) (s : zSt) : Option (Int32 × zSt) :=
  if a0 < a1 then
    some (0, s)
  else
    if a2 < a0 then
      some (0, s)
    else
      some (1, s)
noncomputable def f_g_isQuarter (a0 : Int32) (s : zSt) : Option (Int32 × zSt) :=
  (f_g_isWithin a0 (0) (31) s).bind fun x1 =>
  (zbo x1.1).bind fun v => some (v, x1.2)
noncomputable def f_ls_held (a0 : Int32) (a1 : Int32) (s : zSt) : Option (Int32 × zSt) :=
  some ((zmax 0 (zmin a1 a0)), s)
noncomputable def f_ls_look (a0 : Int32) (a1 : Int32) (a2 : Int32) (a3 : Int32) (s : zSt) : Option (zSt) :=
  (zst s 23 9 3 a2).bind fun s1 =>
  (zst s1 23 9 4 a1).bind fun s2 =>
  (zst s2 23 9 5 a3).bind fun s3 =>
  (zst s3 23 9 8 a0).bind fun s4 =>
  some s4
noncomputable def f_lw_isLineThatCounts (o : Nat) (a0 : Int32) (a1 : Int32) (s : zSt) : Option (Int32 × zSt) :=
  if a0 = (-59) then
    if a1 ≤ 0 then
      some (0, s)
    else
      some (1, s)
  else
    if a0 = (-63) then
      if a1 ≤ 1 then
        some (0, s)
      else
        (zld s (o + 2) 121 (a1 - 2)).bind fun x1 =>
        if x1 = 0 then
          some (0, s)
        else
          some (1, s)
    else
      some (0, s)
noncomputable def f_lw_joined (a0 : Int32) (a1 : Int32) (a2 : Int32) (s : zSt) : Option (Int32 × zSt) :=
  if a0.toInt < 37 ∨ 62 < a0.toInt then
    if a1 = 0 then
      if a2 = 0 then
        some (0, s)
      else
        some (1, s)
    else
      some (1, s)
  else
    if a0 = 37 then
      if a2 = 0 then
        some (0, s)
      else
        (zrv a1 a2).bind fun x1 =>
        some (x1, s)
    else
      if a0 = 38 then
        if a1 = 0 then
          some (0, s)
        else
          if a2 = 0 then
            some (0, s)
          else
            some (1, s)
      else
        if a0 = 39 then
          if a1 = 0 then
            if a2 = 0 then
              some (0, s)
            else
              some (1, s)
          else
            some (1, s)
        else
          if a0 = 40 then
            if a1 = 0 then
              if a2 = 0 then
                some (0, s)
              else
                some (1, s)
            else
              some (1, s)
          else
            if a0 = 41 then
              if a1 = 0 then
                if a2 = 0 then
                  some (0, s)
                else
                  some (1, s)
              else
                some (1, s)
            else
              if a0 = 42 then
                some ((a1 * a2), s)
              else
                if a0 = 43 then
                  some ((a1 + a2), s)
                else
                  if a0 = 44 then
                    if a1 = 0 then
                      if a2 = 0 then
                        some (0, s)
                      else
                        some (1, s)
                    else
                      some (1, s)
                  else
                    if a0 = 45 then
                      some ((a1 - a2), s)
                    else
                      if a0 = 46 then
                        if a1 = 0 then
                          if a2 = 0 then
                            some (0, s)
                          else
                            some (1, s)
                        else
                          some (1, s)
                      else
                        if a0 = 47 then
                          if a2 = 0 then
                            some (0, s)
                          else
                            (zdv a1 a2).bind fun x2 =>
                            some (x2, s)
                        else
                          if a0 = 48 then
                            if a1 = 0 then
                              if a2 = 0 then
                                some (0, s)
                              else
                                some (1, s)
                            else
                              some (1, s)
                          else
                            if a0 = 49 then
                              if a1 = 0 then
                                if a2 = 0 then
                                  some (0, s)
                                else
                                  some (1, s)
                              else
                                some (1, s)
                            else
                              if a0 = 50 then
                                if a1 = 0 then
                                  if a2 = 0 then
                                    some (0, s)
                                  else
                                    some (1, s)
                                else
                                  some (1, s)
                              else
                                if a0 = 51 then
                                  if a1 = 0 then
                                    if a2 = 0 then
                                      some (0, s)
                                    else
                                      some (1, s)
                                  else
                                    some (1, s)
                                else
                                  if a0 = 52 then
                                    if a1 = 0 then
                                      if a2 = 0 then
                                        some (0, s)
                                      else
                                        some (1, s)
                                    else
                                      some (1, s)
                                  else
                                    if a0 = 53 then
                                      if a1 = 0 then
                                        if a2 = 0 then
                                          some (0, s)
                                        else
                                          some (1, s)
                                      else
                                        some (1, s)
                                    else
                                      if a0 = 54 then
                                        if a1 = 0 then
                                          if a2 = 0 then
                                            some (0, s)
                                          else
                                            some (1, s)
                                        else
                                          some (1, s)
                                      else
                                        if a0 = 55 then
                                          if a1 = 0 then
                                            if a2 = 0 then
                                              some (0, s)
                                            else
                                              some (1, s)
                                          else
                                            some (1, s)
                                        else
                                          if a0 = 56 then
                                            if a1 = 0 then
                                              if a2 = 0 then
                                                some (0, s)
                                              else
                                                some (1, s)
                                            else
                                              some (1, s)
                                          else
                                            if a0 = 57 then
                                              if a1 = 0 then
                                                if a2 = 0 then
                                                  some (0, s)
                                                else
                                                  some (1, s)
                                              else
                                                some (1, s)
                                            else
                                              if a0 = 58 then
                                                if a1 = 0 then
                                                  if a2 = 0 then
                                                    some (0, s)
                                                  else
                                                    some (1, s)
                                                else
                                                  some (1, s)
                                              else
                                                if a0 = 59 then
                                                  if a1 = 0 then
                                                    if a2 = 0 then
                                                      some (0, s)
                                                    else
                                                      some (1, s)
                                                  else
                                                    some (1, s)
                                                else
                                                  if a0 = 60 then
                                                    if a2 ≤ a1 then
                                                      some (0, s)
                                                    else
                                                      some (1, s)
                                                  else
                                                    if a0 = 61 then
                                                      if a1 = a2 then
                                                        some (1, s)
                                                      else
                                                        some (0, s)
                                                    else
                                                      if a0 = 62 then
                                                        if a1 ≤ a2 then
                                                          some (0, s)
                                                        else
                                                          some (1, s)
                                                      else
                                                        none
noncomputable def f_lw_worth_177 (o : Nat) (k4 : Int32 → Int32 → zSt → Option (Int32 × zSt)) (v2 : Int32) (v3 : Int32) (v4 : Int32) (s : zSt) : Option (Int32 × zSt) :=
  if v2 ≤ 1 then
    k4 v2 (v3 + 1) s
  else
    (zld s (o + 2) 121 (v2 - 2)).bind fun x12 =>
    (zld s (o + 2) 121 (v2 - 1)).bind fun x13 =>
    (f_lw_joined (-v4) x12 x13 s).bind fun x14 =>
    (zst x14.2 (o + 2) 121 (v2 - 2) x14.1).bind fun s15 =>
    k4 (v2 + (-1)) (v3 + 1) s15
noncomputable def f_lw_worth_146 (o : Nat) (k4 : Int32 → Int32 → zSt → Option (Int32 × zSt)) (v2 : Int32) (v3 : Int32) (v4 : Int32) (s : zSt) : Option (Int32 × zSt) :=
  if v2 ≤ 0 then
    f_lw_worth_177 o k4 v2 v3 v4 s
  else
    if v4 = (-126) then
      (zld s (o + 2) 121 (v2 - 1)).bind fun x10 =>
      (zst s (o + 2) 121 (v2 - 1) (-x10)).bind fun s11 =>
      k4 v2 (v3 + 1) s11
    else
      f_lw_worth_177 o k4 v2 v3 v4 s
noncomputable def f_lw_worth_44 (o : Nat) (k4 : Int32 → Int32 → zSt → Option (Int32 × zSt)) (v2 : Int32) (v3 : Int32) (v4 : Int32) (v5 : Int32) (s : zSt) : Option (Int32 × zSt) :=
  if v4 < 0 then
    (zld s 23 9 v5).bind fun x7 =>
    (zst s (o + 2) 121 v2 x7).bind fun s8 =>
    k4 (v2 + 1) (v3 + 1) s8
  else
    (zst s (o + 2) 121 v2 v4).bind fun s9 =>
    k4 (v2 + 1) (v3 + 1) s9
noncomputable def f_lw_worth_4 (o : Nat) : Nat → Int32 → Int32 → zSt → Option (Int32 × zSt)
  | 0, _, _, _ => none
  | n + 1, v2, v3, s =>
    if (s.1 o 2) ≤ v3 then
      some (0, s)
    else
      if 121 ≤ v2 then
        some (0, s)
      else
        (zld s (o + 1) 121 v3).bind fun x1 =>
        if 0 ≤ x1 then
          f_lw_worth_44 o (f_lw_worth_4 o n) v2 v3 x1 ((-1) - x1) s
        else
          if 9 ≤ ((-1) - x1) then
            (f_lw_isLineThatCounts o x1 v2 s).bind fun x2 =>
            if x2.1 = 0 then
              if x1 = (-59) then
                (f_lw_worth_4 o n) (0) (v3 + 1) x2.2
              else
                if x1 = (-63) then
                  (f_lw_worth_4 o n) (0) (v3 + 1) x2.2
                else
                  if v2 ≤ 0 then
                    f_lw_worth_146 o (f_lw_worth_4 o n) v2 v3 x1 x2.2
                  else
                    if x1 = (-33) then
                      (zld x2.2 (o + 2) 121 (v2 - 1)).bind fun x3 =>
                      if x3 = 0 then
                        (zst x2.2 (o + 2) 121 (v2 - 1) 1).bind fun s4 =>
                        (f_lw_worth_4 o n) v2 (v3 + 1) s4
                      else
                        (zst x2.2 (o + 2) 121 (v2 - 1) 0).bind fun s5 =>
                        (f_lw_worth_4 o n) v2 (v3 + 1) s5
                    else
                      f_lw_worth_146 o (f_lw_worth_4 o n) v2 v3 x1 x2.2
            else
              (zld x2.2 (o + 2) 121 (v2 - 1)).bind fun x6 =>
              some (x6, x2.2)
          else
            f_lw_worth_44 o (f_lw_worth_4 o n) v2 v3 x1 ((-1) - x1) s
noncomputable def f_lw_worth (o : Nat) (s : zSt) : Option (Int32 × zSt) :=
  f_lw_worth_4 o zFu (0) (0) s
noncomputable def f_ls_tasteOf (a0 : Int32) (a1 : Int32) (a2 : Int32) (s : zSt) : Option (Int32 × zSt) :=
  if a2 < (s.1 16 3) then
    (f_ls_look a0 a1 a2 (0) s).bind fun x1 =>
    (zld x1 23 9 0).bind fun x2 =>
    (zld x1 23 9 1).bind fun x3 =>
    (zld x1 23 9 2).bind fun x4 =>
    if (x1.1 17 3) = 0 then
      (f_ls_held ((x2 + x3) - (x4 / 3)) (9) x1).bind fun x5 =>
      some (x5.1, x5.2)
    else
      (f_lw_worth 17 x1).bind fun x6 =>
      (f_ls_held x6.1 (9) x6.2).bind fun x7 =>
      some (x7.1, x7.2)
  else
    some (0, s)
noncomputable def f_ls_buysOf (a0 : Int32) (a1 : Int32) (a2 : Int32) (s : zSt) : Option (Int32 × zSt) :=
  (f_g_isQuarter a0 s).bind fun x1 =>
  if x1.1 = 0 then
    some (0, x1.2)
  else
    (f_g_isWithin a2 (0) (32) x1.2).bind fun x2 =>
    if x2.1 = 0 then
      some (0, x2.2)
    else
      (zld x2.2 24 1056 ((a0 * 33) + a2)).bind fun x3 =>
      if x3 = (-1) then
        (f_ls_tasteOf a0 a1 a2 x2.2).bind fun x4 =>
        (f_ls_look a0 a1 a2 x4.1 x4.2).bind fun x5 =>
        (zld x5 23 9 6).bind fun x6 =>
        (zld x5 23 9 7).bind fun x7 =>
        if (x5.1 20 3) = 0 then
          (f_ls_held (((x4.1 + (a1 / 5)) - (x6 / 4)) + (x7 / 4)) (12) x5).bind fun x8 =>
          (zst x8.2 24 1056 ((a0 * 33) + a2) x8.1).bind fun s9 =>
          (zld s9 24 1056 ((a0 * 33) + a2)).bind fun x10 =>
          some (x10, s9)
        else
          (f_lw_worth 20 x5).bind fun x11 =>
          (f_ls_held x11.1 (12) x11.2).bind fun x12 =>
          (zst x12.2 24 1056 ((a0 * 33) + a2) x12.1).bind fun s13 =>
          (zld s13 24 1056 ((a0 * 33) + a2)).bind fun x14 =>
          some (x14, s13)
      else
        (zld x2.2 24 1056 ((a0 * 33) + a2)).bind fun x15 =>
        some (x15, x2.2)
noncomputable def f_st_isPlace (a0 : Int32) (s : zSt) : Option (Int32 × zSt) :=
  (f_g_isWithin a0 (0) ((s.1 6 3) - 1) s).bind fun x1 =>
  (zbo x1.1).bind fun v => some (v, x1.2)
noncomputable def f_st_flowAt (a0 : Int32) (a1 : Int32) (s : zSt) : Option (Int32 × zSt) :=
  (f_st_isPlace a0 s).bind fun x1 =>
  if x1.1 = 0 then
    some (0, x1.2)
  else
    (f_g_isQuarter a1 x1.2).bind fun x2 =>
    if x2.1 = 0 then
      some (0, x2.2)
    else
      (zld x2.2 9 128 ((a0 * 32) + a1)).bind fun x3 =>
      some (x3, x2.2)
noncomputable def f_st_passers (a0 : Int32) (s : zSt) : Option (Int32 × zSt) :=
  (f_g_isQuarter a0 s).bind fun x1 =>
  if x1.1 = 0 then
    some (0, x1.2)
  else
    (zld x1.2 8 32 a0).bind fun x2 =>
    (f_st_flowAt x2 a0 x1.2).bind fun x3 =>
    some (x3.1, x3.2)
noncomputable def f_dy_pass_26 (o : Nat) : Nat → Int32 → Int32 → Int32 → Int32 → zSt → Option (zSt)
  | 0, _, _, _, _, _ => none
  | n + 1, v1, v4, v5, v6, s =>
    if v5 ≤ v6 then
      (f_dy_draw o s).bind fun x4 =>
      if (x4.2.1 o 13) ≤ x4.1 then
        (f_dy_grow o x4.2).bind fun x5 =>
        some x5
      else
        if (x4.2.1 o 5) ≤ 0 then
          (f_dy_grow o x4.2).bind fun x6 =>
          some x6
        else
          (some (zw x4.2 o 3 ((x4.2.1 o 3) + 1))).bind fun s7 =>
          (f_dy_emptyGlass o s7).bind fun x8 =>
          (f_dy_grow o x8).bind fun x9 =>
          some x9
    else
      (f_dy_draw o s).bind fun x10 =>
      if (x10.2.1 o 5) ≤ 0 then
        (f_dy_pass_26 o n) v1 v4 v5 (v6 + 1) x10.2
      else
        (f_ls_buysOf v1 v4 (x10.2.1 o 7) x10.2).bind fun x11 =>
        if x11.1 ≤ x10.1 then
          (f_dy_pass_26 o n) v1 v4 v5 (v6 + 1) x11.2
        else
          (zld x11.2 (o + 1) 32 v1).bind fun x12 =>
          (zst x11.2 (o + 1) 32 v1 (x12 + 1)).bind fun s13 =>
          (some (zw s13 o 1 ((s13.1 o 1) + 1))).bind fun s14 =>
          (f_dy_emptyGlass o s14).bind fun x15 =>
          (f_dy_pass_26 o n) v1 v4 v5 (v6 + 1) x15
noncomputable def f_dy_pass (o : Nat) (a0 : Int32) (s : zSt) : Option (zSt) :=
  (f_g_isQuarter a0 s).bind fun x1 =>
  if x1.1 = 0 then
    some x1.2
  else
    (zld x1.2 7 32 a0).bind fun x2 =>
    (f_st_passers a0 x1.2).bind fun x3 =>
    f_dy_pass_26 o zFu a0 x2 x3.1 (0) x3.2
noncomputable def f_dy_gain (o : Nat) (s : zSt) : Option (Int32 × zSt) :=
  some ((((s.1 o 1) * (s.1 o 2)) - ((s.1 o 6) * (s.1 o 10))), s)
noncomputable def f_dy_total (o : Nat) (a0 : Int32) (s : zSt) : Option (Int32 × zSt) :=
  if a0.toInt < 0 ∨ 6 < a0.toInt then
    (f_dy_gain o s).bind fun x1 =>
    some (x1.1, x1.2)
  else
    if a0 = 0 then
      some ((s.1 o 1), s)
    else
      if a0 = 1 then
        some (((s.1 o 1) * (s.1 o 2)), s)
      else
        if a0 = 2 then
          some ((s.1 o 3), s)
        else
          if a0 = 3 then
            some ((s.1 o 4), s)
          else
            if a0 = 4 then
              some ((s.1 o 5), s)
            else
              if a0 = 5 then
                some ((s.1 o 6), s)
              else
                if a0 = 6 then
                  some (((s.1 o 6) * (s.1 o 10)), s)
                else
                  none
noncomputable def f_gl_add (a0 : Int32) (s : zSt) : Option (Int32 × zSt) :=
  if (s.1 36 1) < 50 then
    (zst s 37 50 (s.1 36 1) a0).bind fun s1 =>
    some (1, (zw s1 36 1 ((s1.1 36 1) + 1)))
  else
    some (0, s)
noncomputable def f_gl_has (a0 : Int32) (s : zSt) : Option (Int32 × zSt) :=
  (f_g_isWithin a0 (0) ((s.1 36 1) - 1) s).bind fun x1 =>
  (zbo x1.1).bind fun v => some (v, x1.2)
noncomputable def f_gl_isUnder_10 : Nat → Int32 → Int32 → Int32 → zSt → Option (Int32 × zSt)
  | 0, _, _, _, _ => none
  | n + 1, v2, v3, v4, s =>
    if 8 ≤ v4 then
      if v3 = v2 then
        some (1, s)
      else
        some (0, s)
    else
      if v3 ≤ 0 then
        if v3 = v2 then
          some (1, s)
        else
          some (0, s)
      else
        if v3 = v2 then
          if v3 = v2 then
            some (1, s)
          else
            some (0, s)
        else
          (zlt [-1, 0, 0, 2, 1, 3, 0, 4] v3).bind fun x2 =>
          (f_gl_isUnder_10 n) v2 x2 (v4 + 1) s
noncomputable def f_gl_isUnder (a0 : Int32) (a1 : Int32) (s : zSt) : Option (Int32 × zSt) :=
  (zld s 37 50 a0).bind fun x1 =>
  f_gl_isUnder_10 zFu a1 x1 (0) s
noncomputable def f_gl_begunKept (s : zSt) : Option (Int32 × zSt) :=
  some ((zmin (s.1 36 3) 24), s)
noncomputable def f_gl_kindWithBody_4 : Nat → Int32 → Int32 → Int32 → zSt → Option (Int32 × zSt)
  | 0, _, _, _, _ => none
  | n + 1, v1, v2, v3, s =>
    if 8 ≤ v3 then
      some ((zmax v2 0), s)
    else
      if v2 ≤ 0 then
        some ((zmax v2 0), s)
      else
        (zlt [1, 10, 11, 2, 20, 0, 0, 0, 0, 30, 0, 0, 0, 41, 40, 0, 0, 0, 50, 0, 0, 0, 0, 60, 70, 0, 0, 0, 0, 80, 0, 81] ((v2 * 4) + v1)).bind fun x1 =>
        if x1 = 0 then
          (zlt [-1, 0, 0, 2, 1, 3, 0, 4] v2).bind fun x2 =>
          (f_gl_kindWithBody_4 n) v1 x2 (v3 + 1) s
        else
          some ((zmax v2 0), s)
noncomputable def f_gl_kindWithBody (a0 : Int32) (a1 : Int32) (s : zSt) : Option (Int32 × zSt) :=
  f_gl_kindWithBody_4 zFu a1 a0 (0) s
noncomputable def f_gl_note (a0 : Int32) (s : zSt) : Option (zSt) :=
  if 24 ≤ (s.1 36 3) then
    some (zw s 36 3 ((s.1 36 3) + 1))
  else
    (zst s 38 24 (s.1 36 3) a0).bind fun s1 =>
    some (zw s1 36 3 ((s1.1 36 3) + 1))
noncomputable def b_gl_run (c_gl_run : Int32 → Int32 → Int32 → Int32 → zSt → Option (Int32 × zSt)) (a0 : Int32) (a1 : Int32) (a2 : Int32) (a3 : Int32) (s : zSt) : Option (Int32 × zSt) :=
  if a3 ≤ 40 then
    (f_gl_kindWithBody a0 a1 s).bind fun x1 =>
    (zld x1.2 37 50 (x1.2.1 36 4)).bind fun x2 =>
    (zlt [-1, 0, 0, 2, 1, 3, 0, 4] x1.1).bind fun x3 =>
    (zlt [1, 10, 11, 2, 20, 0, 0, 0, 0, 30, 0, 0, 0, 41, 40, 0, 0, 0, 50, 0, 0, 0, 0, 60, 70, 0, 0, 0, 0, 80, 0, 81] ((x1.1 * 4) + a1)).bind fun x4 =>
    (f_gl_note x4 x1.2).bind fun x5 =>
    if x4 = 1 then
      some ((a2 + (x5.1 36 4)), x5)
    else
      if x4 = 2 then
        (c_gl_run x2 (1) a2 (a3 + 1) x5).bind fun x6 =>
        (c_gl_run x2 (2) (1) (a3 + 1) x6.2).bind fun x7 =>
        some ((x6.1 - x7.1), x7.2)
      else
        if x4 = 10 then
          (c_gl_run x2 (0) a2 (a3 + 1) x5).bind fun x8 =>
          some ((x8.1 * 2), x8.2)
        else
          if x4 = 11 then
            some ((a2 ^^^ (x5.1 36 4)), x5)
          else
            if x4 = 20 then
              (c_gl_run x3 (0) a2 (a3 + 1) x5).bind fun x9 =>
              some ((x9.1 + 3), x9.2)
            else
              if x4 = 30 then
                (c_gl_run x3 (1) a2 (a3 + 1) x5).bind fun x10 =>
                some ((-x10.1), x10.2)
              else
                if x4 = 40 then
                  (c_gl_run x3 (2) a2 (a3 + 1) x5).bind fun x11 =>
                  some ((x11.1 * 3), x11.2)
                else
                  if x4 = 41 then
                    (c_gl_run x3 (1) (a2 + 1) (a3 + 1) x5).bind fun x12 =>
                    some (x12.1, x12.2)
                  else
                    if x4 = 50 then
                      (c_gl_run x3 (2) a2 (a3 + 1) x5).bind fun x13 =>
                      (c_gl_run x2 (0) (2) (a3 + 1) x13.2).bind fun x14 =>
                      some ((x13.1 - x14.1), x14.2)
                    else
                      if x4 = 60 then
                        (c_gl_run x3 (3) a2 (a3 + 1) x5).bind fun x15 =>
                        some ((x15.1 ^^^ 5), x15.2)
                      else
                        if x4 = 70 then
                          (c_gl_run x3 (0) a2 (a3 + 1) x5).bind fun x16 =>
                          some ((x16.1 * 2), x16.2)
                        else
                          if x4 = 80 then
                            (c_gl_run x3 (1) a2 (a3 + 1) x5).bind fun x17 =>
                            (c_gl_run x2 (2) (2) (a3 + 1) x17.2).bind fun x18 =>
                            some ((x17.1 + x18.1), x18.2)
                          else
                            if x4 = 81 then
                              (c_gl_run x3 (3) a2 (a3 + 1) x5).bind fun x19 =>
                              some ((x19.1 - 1), x19.2)
                            else
                              none
  else
    some (0, s)
noncomputable def F_gl : Nat → Int32 → Int32 → Int32 → Int32 → zSt → Option (Int32 × zSt)
  | 0, _, _, _, _, _ => none
  | n + 1, a, b, c, d, s => b_gl_run (F_gl n) a b c d s
noncomputable def f_gl_run (a0 a1 a2 a3 : Int32) (s : zSt) : Option (Int32 × zSt) := F_gl 60 a0 a1 a2 a3 s
noncomputable def f_gl_enact (a0 : Int32) (a1 : Int32) (a2 : Int32) (s : zSt) : Option (Int32 × zSt) :=
  (f_gl_has a0 (zw s 36 3 0)).bind fun x1 =>
  if x1.1 = 0 then
    some (0, x1.2)
  else
    (f_g_isWithin a1 (0) (3) x1.2).bind fun x2 =>
    if x2.1 = 0 then
      some (0, x2.2)
    else
      (zld (zw x2.2 36 4 a0) 37 50 a0).bind fun x3 =>
      (f_gl_run x3 a1 a2 (0) (zw x2.2 36 4 a0)).bind fun x4 =>
      some (x4.1, x4.2)
noncomputable def f_lw_become (o : Nat) (s : zSt) : Option (zSt) :=
  (some (zw s o 2 (zmin (s.1 13 3) 121))).bind fun s1 =>
  (zcp s1 15 121 (o + 1) 121 0 0 (s1.1 o 2)).bind fun s2 =>
  (some (zw s2 o 3 1)).bind fun s3 =>
  some s3
noncomputable def f_ls_become (a0 : Int32) (s : zSt) : Option (zSt) :=
  if a0 = 0 then
    (f_lw_become 17 s).bind fun x1 =>
    some x1
  else
    (f_lw_become 20 s).bind fun x2 =>
    some x2
noncomputable def f_ls_begin (a1 : Int32) (s : zSt) : Option (zSt) :=
  (zcp s 2 8 23 9 0 0 3).bind fun s1 =>
  (zst s1 23 9 6 a1).bind fun s2 =>
  (zld s2 2 8 4).bind fun x3 =>
  (zst s2 23 9 7 x3).bind fun s4 =>
  (zld s4 2 8 5).bind fun x5 =>
  (some (zfill (zw s4 16 3 x5) 24 1056 (-1))).bind fun s6 =>
  some s6
noncomputable def f_rc_allows (a0 : Int32) (a1 : Int32) (s : zSt) : Option (Int32 × zSt) :=
  (f_g_isWithin a0 (0) (7) s).bind fun x1 =>
  if x1.1 = 0 then
    some (0, x1.2)
  else
    (zlt [0, 0, 1, 0, 0, 1, 0, 0] a0).bind fun x2 =>
    (zlt [9, 9, 20, 50, 50, 32, 12, 9] a0).bind fun x3 =>
    (f_g_isWithin a1 x2 x3 x1.2).bind fun x4 =>
    if x4.1 = 0 then
      some (0, x4.2)
    else
      some (1, x4.2)
noncomputable def f_rc_forgetOldest (s : zSt) : Option (zSt) :=
  (zcp s 3 40 3 40 1 0 39).bind fun s1 =>
  (zcp s1 4 40 4 40 1 0 39).bind fun s2 =>
  (zcp s2 5 40 5 40 1 0 39).bind fun s3 =>
  some (zw s3 1 4 ((s3.1 1 4) - 1))
noncomputable def f_rc_remember_13 (v1 : Int32) (v2 : Int32) (v3 : Int32) (s : zSt) : Option (zSt) :=
  (zst s 3 40 (s.1 1 4) v1).bind fun s2 =>
  (zst s2 4 40 (s2.1 1 4) v2).bind fun s3 =>
  (zst s3 5 40 (s3.1 1 4) v3).bind fun s4 =>
  some (zw (zw s4 1 4 ((s4.1 1 4) + 1)) 1 5 ((zw s4 1 4 ((s4.1 1 4) + 1)).1 1 4))
noncomputable def f_rc_remember (a0 : Int32) (a1 : Int32) (a2 : Int32) (s : zSt) : Option (zSt) :=
  if (s.1 1 4) = 40 then
    (f_rc_forgetOldest s).bind fun x1 =>
    f_rc_remember_13 a0 a1 a2 x1
  else
    f_rc_remember_13 a0 a1 a2 s
noncomputable def f_rc_change (a0 : Int32) (a1 : Int32) (s : zSt) : Option (Int32 × zSt) :=
  (zld s 2 8 a0).bind fun x1 =>
  if x1 = a1 then
    some (x1, s)
  else
    (f_rc_remember a0 x1 a1 s).bind fun x2 =>
    (zst x2 2 8 a0 a1).bind fun s3 =>
    some (x1, s3)
noncomputable def f_rc_takeBack (s : zSt) : Option (Int32 × zSt) :=
  if (s.1 1 4) = 0 then
    some (0, s)
  else
    (zld (zw s 1 4 ((s.1 1 4) - 1)) 3 40 ((zw s 1 4 ((s.1 1 4) - 1)).1 1 4)).bind fun x1 =>
    (zld (zw s 1 4 ((s.1 1 4) - 1)) 4 40 ((zw s 1 4 ((s.1 1 4) - 1)).1 1 4)).bind fun x2 =>
    (zst (zw s 1 4 ((s.1 1 4) - 1)) 2 8 x1 x2).bind fun s3 =>
    some (1, s3)
noncomputable def f_rc_doAgain (s : zSt) : Option (Int32 × zSt) :=
  if (s.1 1 4) = (s.1 1 5) then
    some (0, s)
  else
    (zld s 3 40 (s.1 1 4)).bind fun x1 =>
    (zld s 5 40 (s.1 1 4)).bind fun x2 =>
    (zst s 2 8 x1 x2).bind fun s3 =>
    some (1, (zw s3 1 4 ((s3.1 1 4) + 1)))
noncomputable def f_rc_glassCost (s : zSt) : Option (Int32 × zSt) :=
  (zld s 2 8 2).bind fun x1 =>
  if x1 ≤ 0 then
    some (0, s)
  else
    (f_rc_jugCost s).bind fun x2 =>
    (zld x2.2 2 8 2).bind fun x3 =>
    (zdv x2.1 x3).bind fun x4 =>
    some (x4, x2.2)
noncomputable def f_sh_isEmpty (o : Nat) (s : zSt) : Option (Int32 × zSt) :=
  if (s.1 o 0) = (-1) then
    if (s.1 o 1) = (-1) then
      some (1, s)
    else
      some (0, s)
  else
    some (0, s)
noncomputable def f_sh_isRowOf (o : Nat) (a0 : Int32) (s : zSt) : Option (Int32 × zSt) :=
  if (s.1 o 1) = (-1) then
    some (0, s)
  else
    if (s.1 o 1) = a0 then
      some (1, s)
    else
      some (0, s)
noncomputable def f_sh_holdGlass (o : Nat) (a0 : Int32) (s : zSt) : Option (zSt) :=
  (some (zw s o 0 a0)).bind fun s1 =>
  (some (zw s1 o 1 (-1))).bind fun s2 =>
  (some (zw s2 o 2 0)).bind fun s3 =>
  some s3
noncomputable def f_sh_holdRow (o : Nat) (a0 : Int32) (a1 : Int32) (s : zSt) : Option (zSt) :=
  (some (zw s o 0 (-1))).bind fun s1 =>
  (some (zw s1 o 1 a0)).bind fun s2 =>
  (some (zw s2 o 2 (zmin a1 60))).bind fun s3 =>
  (some (zfillL s3 (o + 1) 60 0)).bind fun s4 =>
  some s4
noncomputable def f_sh_hasPlaces (o : Nat) (a0 : Int32) (a1 : Int32) (s : zSt) : Option (Int32 × zSt) :=
  if a0 < 0 then
    some (0, s)
  else
    if a1 < 0 then
      some (0, s)
    else
      if (s.1 o 2) < a0 then
        some (0, s)
      else
        if ((s.1 o 2) - a0) < a1 then
          some (0, s)
        else
          some (1, s)
noncomputable def f_sh_refusalOfSort (o : Nat) (a0 : Int32) (s : zSt) : Option (Int32 × zSt) :=
  (f_sh_isEmpty o s).bind fun x1 =>
  if x1.1 = 0 then
    (f_sh_isRowOf o a0 x1.2).bind fun x2 =>
    if x2.1 = 0 then
      some ((-12), x2.2)
    else
      some (0, x2.2)
  else
    some ((-11), x1.2)
noncomputable def f_sh_refusalOfPlaces (o : Nat) (a0 : Int32) (a1 : Int32) (s : zSt) : Option (Int32 × zSt) :=
  (f_sh_refusalOfSort o (s.1 o 1) s).bind fun x1 =>
  if x1.1 = 0 then
    (f_sh_hasPlaces o a0 a1 x1.2).bind fun x2 =>
    if x2.1 = 0 then
      some ((-13), x2.2)
    else
      some (0, x2.2)
  else
    some (x1.1, x1.2)
noncomputable def f_sh_write (o : Nat) (a0 : Int32) (a1 : Int64) (s : zSt) : Option (zSt) :=
  if (s.1 o 1).toInt < 0 ∨ 3 < (s.1 o 1).toInt then
    if (lg_cmp a1 0) = 0 then
      (zstl s (o + 1) 60 a0 0).bind fun s1 =>
      some s1
    else
      (zstl s (o + 1) 60 a0 1).bind fun s2 =>
      some s2
  else
    if (s.1 o 1) = 0 then
      (zstl s (o + 1) 60 a0 (((a1 : Int64).toInt32).toInt8.toInt32 : Int32).toInt64).bind fun s3 =>
      some s3
    else
      if (s.1 o 1) = 1 then
        (zstl s (o + 1) 60 a0 (((a1 : Int64).toInt32).toInt16.toInt32 : Int32).toInt64).bind fun s4 =>
        some s4
      else
        if (s.1 o 1) = 2 then
          (zstl s (o + 1) 60 a0 ((a1 : Int64).toInt32 : Int32).toInt64).bind fun s5 =>
          some s5
        else
          if (s.1 o 1) = 3 then
            (zstl s (o + 1) 60 a0 a1).bind fun s6 =>
            some s6
          else
            none
noncomputable def f_sl_isName (a0 : Int32) (s : zSt) : Option (Int32 × zSt) :=
  (f_g_isWithin a0 (0) (5) s).bind fun x1 =>
  (zbo x1.1).bind fun v => some (v, x1.2)
noncomputable def f_sl_write (a0 : Int32) (a1 : Int32) (a2 : Int32) (s : zSt) : Option (Int32 × zSt) :=
  (zld s 33 36 ((a0 * 6) + a1)).bind fun x1 =>
  (zst s 33 36 ((a0 * 6) + a1) a2).bind fun s2 =>
  some (x1, s2)
noncomputable def f_sl_balance_4 : Nat → Int32 → Int32 → Int32 → zSt → Option (Int32 × zSt)
  | 0, _, _, _, _ => none
  | n + 1, v1, v2, v3, s =>
    if 6 ≤ v3 then
      some (v2, s)
    else
      (zld s 33 36 ((v1 * 6) + v3)).bind fun x1 =>
      (zld s 33 36 ((v3 * 6) + v1)).bind fun x2 =>
      (f_sl_balance_4 n) v1 (v2 + (x1 - x2)) (v3 + 1) s
noncomputable def f_sl_balance (a0 : Int32) (s : zSt) : Option (Int32 × zSt) :=
  f_sl_balance_4 zFu a0 (0) (0) s
noncomputable def f_sl_mostGroups_4 : Nat → Int32 → Int32 → Int32 → zSt → Option (Int32 × zSt)
  | 0, _, _, _, _ => none
  | n + 1, v1, v2, v3, s =>
    if 6 ≤ v3 then
      (zld s 34 64 v1).bind fun x1 =>
      if x1 = 0 then
        some ((v2 + 1), s)
      else
        some (v2, s)
    else
      if ((v1 >>> (v3 &&& 31)) &&& 1) = 1 then
        (zld s 35 64 (v1 ^^^ (1 <<< (v3 &&& 31)))).bind fun x2 =>
        (f_sl_mostGroups_4 n) v1 (zmax v2 x2) (v3 + 1) s
      else
        (f_sl_mostGroups_4 n) v1 v2 (v3 + 1) s
noncomputable def f_sl_mostGroups (a0 : Int32) (s : zSt) : Option (Int32 × zSt) :=
  f_sl_mostGroups_4 zFu a0 (0) (0) s
noncomputable def f_sl_fewestPayments_21 (k2 : Int32 → zSt → Option (Int32 × zSt)) : Nat → Int32 → Int32 → Int32 → Int32 → zSt → Option (Int32 × zSt)
  | 0, _, _, _, _, _ => none
  | n + 1, v1, v2, v3, v4, s =>
    if (2 * v3) ≤ v4 then
      k2 (v1 + 1) s
    else
      (zld s 34 64 (v4 - v3)).bind fun x3 =>
      (zst s 34 64 v4 (x3 + v2)).bind fun s4 =>
      (f_sl_mostGroups v4 s4).bind fun x5 =>
      (zst x5.2 35 64 v4 x5.1).bind fun s6 =>
      (f_sl_fewestPayments_21 k2 n) v1 v2 v3 (v4 + 1) s6
noncomputable def f_sl_fewestPayments_2 : Nat → Int32 → zSt → Option (Int32 × zSt)
  | 0, _, _ => none
  | n + 1, v1, s =>
    if 6 ≤ v1 then
      (zld s 35 64 63).bind fun x1 =>
      some ((6 - x1), s)
    else
      (f_sl_balance v1 s).bind fun x2 =>
      f_sl_fewestPayments_21 (f_sl_fewestPayments_2 n) zFu v1 x2.1 (1 <<< (v1 &&& 31)) (1 <<< (v1 &&& 31)) x2.2
noncomputable def f_sl_fewestPayments (s : zSt) : Option (Int32 × zSt) :=
  f_sl_fewestPayments_2 zFu (0) s
noncomputable def f_st_sumOfHeats_13 : Nat → Int32 → Int32 → Int32 → zSt → Option (Int32 × zSt)
  | 0, _, _, _, _ => none
  | n + 1, v1, v3, v4, s =>
    if v3 ≤ v4 then
      some (v1, s)
    else
      (zld s 7 32 v4).bind fun x1 =>
      (f_st_sumOfHeats_13 n) (v1 + x1) v3 (v4 + 1) s
noncomputable def f_st_sumOfHeats (s : zSt) : Option (Int32 × zSt) :=
  f_st_sumOfHeats_13 zFu (0) (32) (0) s
noncomputable def f_st_keepImage (s : zSt) : Option (zSt) :=
  (zcp s 7 32 10 32 0 0 32).bind fun s1 =>
  (zcp s1 8 32 11 32 0 0 32).bind fun s2 =>
  some (zw s2 6 6 1)
noncomputable def f_st_takeImage (s : zSt) : Option (zSt) :=
  (zcp s 10 32 7 32 0 0 32).bind fun s1 =>
  (zcp s1 11 32 8 32 0 0 32).bind fun s2 =>
  some s2
noncomputable def f_st_isNext (a0 : Int32) (a1 : Int32) (s : zSt) : Option (Int32 × zSt) :=
  if a0 = (-1) then
    some (1, s)
  else
    if a1 = (-1) then
      some (1, s)
    else
      if a0 = a1 then
        some (1, s)
      else
        some (0, s)
noncomputable def f_st_mostFrom_5 : Nat → Int32 → Int32 → Int32 → Int32 → zSt → Option (Int32 × zSt)
  | 0, _, _, _, _, _ => none
  | n + 1, v1, v2, v3, v4, s =>
    if (s.1 6 3) ≤ v4 then
      some (v3, s)
    else
      (f_st_isNext v1 v4 s).bind fun x1 =>
      if x1.1 = 0 then
        (f_st_mostFrom_5 n) v1 v2 v3 (v4 + 1) x1.2
      else
        (zld x1.2 12 160 (((v2 * 5) + v4) + 1)).bind fun x2 =>
        (f_st_mostFrom_5 n) v1 v2 (zmax v3 x2) (v4 + 1) x1.2
noncomputable def f_st_mostFrom (a0 : Int32) (a1 : Int32) (s : zSt) : Option (Int32 × zSt) :=
  f_st_mostFrom_5 zFu a0 a1 (0) (-1) s
noncomputable def f_st_lookAhead_37 (k2 : Int32 → Int32 → Int32 → zSt → Option (zSt)) (k10 : Int32 → Int32 → Int32 → Int32 → zSt → Option (zSt)) (v1 : Int32) (v2 : Int32) (v3 : Int32) (v4 : Int32) (w0 : Int32) (s : zSt) : Option (zSt) :=
  (f_st_flowAt v4 v3 s).bind fun x2 =>
  (zst x2.2 12 160 (((v3 * 5) + v4) + 1) (x2.1 + w0)).bind fun s3 =>
  k10 v1 v2 v3 (v4 + 1) s3
noncomputable def f_st_lookAhead_10 (k2 : Int32 → Int32 → Int32 → zSt → Option (zSt)) : Nat → Int32 → Int32 → Int32 → Int32 → zSt → Option (zSt)
  | 0, _, _, _, _, _ => none
  | n + 1, v1, v2, v3, v4, s =>
    if (s.1 6 3) ≤ v4 then
      k2 v1 v2 (v3 + (-1)) s
    else
      if v3 = v2 then
        f_st_lookAhead_37 k2 (f_st_lookAhead_10 k2 n) v1 v2 v3 v4 (0) s
      else
        (f_st_mostFrom v4 (v3 + 1) s).bind fun x1 =>
        f_st_lookAhead_37 k2 (f_st_lookAhead_10 k2 n) v1 v2 v3 v4 x1.1 x1.2
noncomputable def f_st_lookAhead_2 : Nat → Int32 → Int32 → Int32 → zSt → Option (zSt)
  | 0, _, _, _, _ => none
  | n + 1, v1, v2, v3, s =>
    if v3 < v1 then
      some s
    else
      f_st_lookAhead_10 (f_st_lookAhead_2 n) zFu v1 v2 v3 (-1) s
noncomputable def f_st_lookAhead (a0 : Int32) (a1 : Int32) (s : zSt) : Option (zSt) :=
  f_st_lookAhead_2 zFu a0 a1 a1 s
noncomputable def f_st_firstOfMost_10 : Nat → Int32 → Int32 → Int32 → Int32 → zSt → Option (Int32 × zSt)
  | 0, _, _, _, _, _ => none
  | n + 1, v1, v2, v3, v4, s =>
    if (s.1 6 3) ≤ v4 then
      some ((-1), s)
    else
      (f_st_isNext v1 v4 s).bind fun x2 =>
      if x2.1 = 0 then
        (f_st_firstOfMost_10 n) v1 v2 v3 (v4 + 1) x2.2
      else
        (zld x2.2 12 160 (((v2 * 5) + v4) + 1)).bind fun x3 =>
        if x3 = v3 then
          some (v4, x2.2)
        else
          (f_st_firstOfMost_10 n) v1 v2 v3 (v4 + 1) x2.2
noncomputable def f_st_firstOfMost (a0 : Int32) (a1 : Int32) (s : zSt) : Option (Int32 × zSt) :=
  (f_st_mostFrom a0 a1 s).bind fun x1 =>
  f_st_firstOfMost_10 zFu a0 a1 x1.1 (-1) x1.2
noncomputable def f_st_placeIn_5 : Nat → Int32 → Int32 → Int32 → zSt → Option (Int32 × zSt)
  | 0, _, _, _, _ => none
  | n + 1, v2, v3, v4, s =>
    if v2 < v4 then
      some (v3, s)
    else
      (f_st_firstOfMost v3 v4 s).bind fun x1 =>
      (f_st_placeIn_5 n) v2 x1.1 (v4 + 1) x1.2
noncomputable def f_st_placeIn (a0 : Int32) (a1 : Int32) (s : zSt) : Option (Int32 × zSt) :=
  f_st_placeIn_5 zFu a1 (-1) a0 s
noncomputable def f_su_power_5 : Nat → Int64 → Int32 → Int64 → Int32 → zSt → Option (Int64 × zSt)
  | 0, _, _, _, _, _ => none
  | n + 1, v0, v2, v3, v5, s =>
    if v2 ≤ v5 then
      some (v3, s)
    else
      (f_su_power_5 n) v0 v2 (v3 * v0) (v5 + 1) s
noncomputable def f_su_power (a0 : Int64) (a1 : Int32) (s : zSt) : Option (Int64 × zSt) :=
  f_su_power_5 zFu a0 a1 (1) (0) s
noncomputable def f_su_ways_5 : Nat → Int32 → Int32 → Int64 → Int32 → zSt → Option (Int64 × zSt)
  | 0, _, _, _, _, _ => none
  | n + 1, v0, v1, v2, v4, s =>
    if v1 < v4 then
      some (v2, s)
    else
      (zdvl (v2 * (((v0 - v1) + v4) : Int32).toInt64) (v4 : Int32).toInt64).bind fun x1 =>
      (f_su_ways_5 n) v0 v1 x1 (v4 + 1) s
noncomputable def f_su_ways (a0 : Int32) (a1 : Int32) (s : zSt) : Option (Int64 × zSt) :=
  f_su_ways_5 zFu a0 a1 (1) (1) s
noncomputable def f_su_meanSold_5 : Nat → Int32 → Int32 → Int32 → Int64 → Int32 → zSt → Option (Int64 × zSt)
  | 0, _, _, _, _, _, _ => none
  | n + 1, v0, v1, v2, v3, v5, s =>
    if v0 < v5 then
      some (v3, s)
    else
      (f_su_ways v0 v5 s).bind fun x1 =>
      (f_su_power (v1 : Int32).toInt64 v5 x1.2).bind fun x2 =>
      (f_su_power ((12 - v1) : Int32).toInt64 (v0 - v5) x2.2).bind fun x3 =>
      (f_su_meanSold_5 n) v0 v1 v2 (v3 + (((x1.1 * x2.1) * x3.1) * ((zmin v5 v2) : Int32).toInt64)) (v5 + 1) x3.2
noncomputable def f_su_meanSold (a0 : Int32) (a1 : Int32) (a2 : Int32) (s : zSt) : Option (Int64 × zSt) :=
  f_su_meanSold_5 zFu a0 a1 a2 (0) (0) s
noncomputable def f_su_divisor_15 : Nat → Int64 → Int64 → Int32 → zSt → Option (Int64 × zSt)
  | 0, _, _, _, _ => none
  | n + 1, v4, v6, v8, s =>
    if 1000 ≤ v8 then
      some ((zmaxL v4 1), s)
    else
      if (lg_cmp v6 0) = 0 then
        some ((zmaxL v4 1), s)
      else
        (zrvl v4 v6).bind fun x1 =>
        (f_su_divisor_15 n) v6 x1 (v8 + 1) s
noncomputable def f_su_divisor (a0 : Int64) (a1 : Int64) (s : zSt) : Option (Int64 × zSt) :=
  f_su_divisor_15 zFu (zabsL a0) (zabsL a1) (0) s
noncomputable def f_tp_add (a0 : Int32) (s : zSt) : Option (Int32 × zSt) :=
  if (s.1 13 1) < 120 then
    (zst s 14 120 (s.1 13 1) a0).bind fun s1 =>
    some (1, (zw s1 13 1 ((s1.1 13 1) + 1)))
  else
    some (0, s)
noncomputable def f_tp_clear (s : zSt) : Option (zSt) :=
  some (zw s 13 1 0)
noncomputable def f_tp_step (a0 : Int32) (s : zSt) : Option (Int32 × zSt) :=
  if (s.1 13 3) < 121 then
    (zst s 15 121 (s.1 13 3) a0).bind fun s1 =>
    some (1, (zw s1 13 3 ((s1.1 13 3) + 1)))
  else
    some (0, s)
noncomputable def f_tp_next (s : zSt) : Option (Int32 × zSt) :=
  if (s.1 13 1) ≤ (s.1 13 4) then
    some ((-1), s)
  else
    (zld s 14 120 (s.1 13 4)).bind fun x1 =>
    some (x1, s)
noncomputable def f_tp_took (a0 : Int32) (s : zSt) : Option (Int32 × zSt) :=
  (f_tp_next s).bind fun x1 =>
  if x1.1 = a0 then
    some (1, (zw x1.2 13 4 ((x1.2.1 13 4) + 1)))
  else
    some (0, x1.2)
noncomputable def f_tp_isDigit (a0 : Int32) (s : zSt) : Option (Int32 × zSt) :=
  if a0 < 48 then
    some (0, s)
  else
    if 57 < a0 then
      some (0, s)
    else
      some (1, s)
noncomputable def f_tp_readName_2 : Nat → Int32 → Int32 → zSt → Option (Int32 × zSt)
  | 0, _, _, _ => none
  | n + 1, v1, v2, s =>
    if 9 ≤ v2 then
      some (0, s)
    else
      (zlt [108, 115, 103, 97, 104, 116, 112, 98, 113] v2).bind fun x1 =>
      if x1 = v1 then
        (f_tp_step ((-1) - v2) (zw s 13 4 ((s.1 13 4) + 1))).bind fun x2 =>
        (zbo x2.1).bind fun v => some (v, x2.2)
      else
        (f_tp_readName_2 n) v1 (v2 + 1) s
noncomputable def f_tp_readName (a0 : Int32) (s : zSt) : Option (Int32 × zSt) :=
  f_tp_readName_2 zFu a0 (0) s
noncomputable def f_tp_readNumber_4 : Nat → Int32 → Int32 → zSt → Option (Int32 × zSt)
  | 0, _, _, _ => none
  | n + 1, v1, v2, s =>
    if 4 ≤ v2 then
      (f_tp_step v1 s).bind fun x1 =>
      (zbo x1.1).bind fun v => some (v, x1.2)
    else
      (f_tp_next s).bind fun x2 =>
      (f_tp_isDigit x2.1 x2.2).bind fun x3 =>
      if x3.1 = 0 then
        (f_tp_step v1 x3.2).bind fun x4 =>
        (zbo x4.1).bind fun v => some (v, x4.2)
      else
        (f_tp_next x3.2).bind fun x5 =>
        (f_tp_readNumber_4 n) (((v1 * 10) + x5.1) - 48) (v2 + 1) (zw x5.2 13 4 ((x5.2.1 13 4) + 1))
noncomputable def f_tp_readNumber (s : zSt) : Option (Int32 × zSt) :=
  f_tp_readNumber_4 zFu (0) (0) s
noncomputable def f_tp_readEither_8 (c_tp_readBoth : Int32 → zSt → Option (Int32 × zSt)) : Nat → Int32 → Int32 → Int32 → zSt → Option (Int32 × zSt)
  | 0, _, _, _, _ => none
  | n + 1, v1, v2, v3, s =>
    if 120 ≤ v3 then
      (zbo v2).bind fun v => some (v, s)
    else
      if v2 = 0 then
        (zbo v2).bind fun v => some (v, s)
      else
        (f_tp_took (124) s).bind fun x2 =>
        if x2.1 = 0 then
          (zbo v2).bind fun v => some (v, x2.2)
        else
          (c_tp_readBoth v1 x2.2).bind fun x3 =>
          if x3.1 = 0 then
            (f_tp_readEither_8 c_tp_readBoth n) v1 (0) (v3 + 1) x3.2
          else
            (f_tp_step (-124) x3.2).bind fun x4 =>
            if x4.1 = 0 then
              (f_tp_readEither_8 c_tp_readBoth n) v1 (0) (v3 + 1) x4.2
            else
              (f_tp_readEither_8 c_tp_readBoth n) v1 (1) (v3 + 1) x4.2
noncomputable def b_tp_readEither (c_tp_readBoth : Int32 → zSt → Option (Int32 × zSt)) (a0 : Int32) (s : zSt) : Option (Int32 × zSt) :=
  (c_tp_readBoth a0 s).bind fun x1 =>
  f_tp_readEither_8 c_tp_readBoth zFu a0 x1.1 (0) x1.2
noncomputable def f_tp_readBoth_8 (c_tp_readCompared : Int32 → zSt → Option (Int32 × zSt)) : Nat → Int32 → Int32 → Int32 → zSt → Option (Int32 × zSt)
  | 0, _, _, _, _ => none
  | n + 1, v1, v2, v3, s =>
    if 120 ≤ v3 then
      (zbo v2).bind fun v => some (v, s)
    else
      if v2 = 0 then
        (zbo v2).bind fun v => some (v, s)
      else
        (f_tp_took (38) s).bind fun x2 =>
        if x2.1 = 0 then
          (zbo v2).bind fun v => some (v, x2.2)
        else
          (c_tp_readCompared v1 x2.2).bind fun x3 =>
          if x3.1 = 0 then
            (f_tp_readBoth_8 c_tp_readCompared n) v1 (0) (v3 + 1) x3.2
          else
            (f_tp_step (-38) x3.2).bind fun x4 =>
            if x4.1 = 0 then
              (f_tp_readBoth_8 c_tp_readCompared n) v1 (0) (v3 + 1) x4.2
            else
              (f_tp_readBoth_8 c_tp_readCompared n) v1 (1) (v3 + 1) x4.2
noncomputable def b_tp_readBoth (c_tp_readCompared : Int32 → zSt → Option (Int32 × zSt)) (a0 : Int32) (s : zSt) : Option (Int32 × zSt) :=
  (c_tp_readCompared a0 s).bind fun x1 =>
  f_tp_readBoth_8 c_tp_readCompared zFu a0 x1.1 (0) x1.2
noncomputable def f_tp_readCompared_35 (c_tp_readSum : Int32 → zSt → Option (Int32 × zSt)) (v1 : Int32) (v2 : Int32) (s : zSt) : Option (Int32 × zSt) :=
  (c_tp_readSum v1 (zw s 13 4 ((s.1 13 4) + 1))).bind fun x3 =>
  if x3.1 = 0 then
    some (0, x3.2)
  else
    (f_tp_step (-v2) x3.2).bind fun x4 =>
    if x4.1 = 0 then
      some (0, x4.2)
    else
      some (1, x4.2)
noncomputable def b_tp_readCompared (c_tp_readSum : Int32 → zSt → Option (Int32 × zSt)) (a0 : Int32) (s : zSt) : Option (Int32 × zSt) :=
  (c_tp_readSum a0 s).bind fun x1 =>
  if x1.1 = 0 then
    some (0, x1.2)
  else
    (f_tp_next x1.2).bind fun x2 =>
    if x2.1 = 60 then
      f_tp_readCompared_35 c_tp_readSum a0 x2.1 x2.2
    else
      if x2.1 = 61 then
        f_tp_readCompared_35 c_tp_readSum a0 x2.1 x2.2
      else
        if x2.1 = 62 then
          f_tp_readCompared_35 c_tp_readSum a0 x2.1 x2.2
        else
          some (1, x2.2)
noncomputable def f_tp_readSum_37 (c_tp_readProduct : Int32 → zSt → Option (Int32 × zSt)) (k14 : Int32 → Int32 → Int32 → Int32 → zSt → Option (Int32 × zSt)) (v1 : Int32) (v3 : Int32) (v4 : Int32) (s : zSt) : Option (Int32 × zSt) :=
  (c_tp_readProduct v1 (zw s 13 4 ((s.1 13 4) + 1))).bind fun x3 =>
  if x3.1 = 0 then
    (f_tp_next x3.2).bind fun x4 =>
    k14 v1 (0) x4.1 (v4 + 1) x4.2
  else
    (f_tp_step (-v3) x3.2).bind fun x5 =>
    if x5.1 = 0 then
      (f_tp_next x5.2).bind fun x6 =>
      k14 v1 (0) x6.1 (v4 + 1) x6.2
    else
      (f_tp_next x5.2).bind fun x7 =>
      k14 v1 (1) x7.1 (v4 + 1) x7.2
noncomputable def f_tp_readSum_14 (c_tp_readProduct : Int32 → zSt → Option (Int32 × zSt)) : Nat → Int32 → Int32 → Int32 → Int32 → zSt → Option (Int32 × zSt)
  | 0, _, _, _, _, _ => none
  | n + 1, v1, v2, v3, v4, s =>
    if 120 ≤ v4 then
      (zbo v2).bind fun v => some (v, s)
    else
      if v2 = 0 then
        (zbo v2).bind fun v => some (v, s)
      else
        if v3 = 43 then
          f_tp_readSum_37 c_tp_readProduct (f_tp_readSum_14 c_tp_readProduct n) v1 v3 v4 s
        else
          if v3 = 45 then
            f_tp_readSum_37 c_tp_readProduct (f_tp_readSum_14 c_tp_readProduct n) v1 v3 v4 s
          else
            (zbo v2).bind fun v => some (v, s)
noncomputable def b_tp_readSum (c_tp_readProduct : Int32 → zSt → Option (Int32 × zSt)) (a0 : Int32) (s : zSt) : Option (Int32 × zSt) :=
  (c_tp_readProduct a0 s).bind fun x1 =>
  (f_tp_next x1.2).bind fun x2 =>
  f_tp_readSum_14 c_tp_readProduct zFu a0 x1.1 x2.1 (0) x2.2
noncomputable def f_tp_readProduct_43 (c_tp_readOperand : Int32 → zSt → Option (Int32 × zSt)) (k14 : Int32 → Int32 → Int32 → Int32 → zSt → Option (Int32 × zSt)) (v1 : Int32) (v3 : Int32) (v4 : Int32) (s : zSt) : Option (Int32 × zSt) :=
  (c_tp_readOperand v1 (zw s 13 4 ((s.1 13 4) + 1))).bind fun x3 =>
  if x3.1 = 0 then
    (f_tp_next x3.2).bind fun x4 =>
    k14 v1 (0) x4.1 (v4 + 1) x4.2
  else
    (f_tp_step (-v3) x3.2).bind fun x5 =>
    if x5.1 = 0 then
      (f_tp_next x5.2).bind fun x6 =>
      k14 v1 (0) x6.1 (v4 + 1) x6.2
    else
      (f_tp_next x5.2).bind fun x7 =>
      k14 v1 (1) x7.1 (v4 + 1) x7.2
noncomputable def f_tp_readProduct_14 (c_tp_readOperand : Int32 → zSt → Option (Int32 × zSt)) : Nat → Int32 → Int32 → Int32 → Int32 → zSt → Option (Int32 × zSt)
  | 0, _, _, _, _, _ => none
  | n + 1, v1, v2, v3, v4, s =>
    if 120 ≤ v4 then
      (zbo v2).bind fun v => some (v, s)
    else
      if v2 = 0 then
        (zbo v2).bind fun v => some (v, s)
      else
        if v3 = 42 then
          f_tp_readProduct_43 c_tp_readOperand (f_tp_readProduct_14 c_tp_readOperand n) v1 v3 v4 s
        else
          if v3 = 47 then
            f_tp_readProduct_43 c_tp_readOperand (f_tp_readProduct_14 c_tp_readOperand n) v1 v3 v4 s
          else
            if v3 = 37 then
              f_tp_readProduct_43 c_tp_readOperand (f_tp_readProduct_14 c_tp_readOperand n) v1 v3 v4 s
            else
              (zbo v2).bind fun v => some (v, s)
noncomputable def b_tp_readProduct (c_tp_readOperand : Int32 → zSt → Option (Int32 × zSt)) (a0 : Int32) (s : zSt) : Option (Int32 × zSt) :=
  (c_tp_readOperand a0 s).bind fun x1 =>
  (f_tp_next x1.2).bind fun x2 =>
  f_tp_readProduct_14 c_tp_readOperand zFu a0 x1.1 x2.1 (0) x2.2
noncomputable def f_tp_readOperand_41 (c_tp_readEither : Int32 → zSt → Option (Int32 × zSt)) (c_tp_readOperand : Int32 → zSt → Option (Int32 × zSt)) (v1 : Int32) (v2 : Int32) (s : zSt) : Option (Int32 × zSt) :=
  if v1 < 6 then
    if v2 = 40 then
      (c_tp_readEither (v1 + 1) (zw s 13 4 ((s.1 13 4) + 1))).bind fun x5 =>
      if x5.1 = 0 then
        some (0, x5.2)
      else
        (f_tp_took (41) x5.2).bind fun x6 =>
        if x6.1 = 0 then
          some (0, x6.2)
        else
          some (1, x6.2)
    else
      (c_tp_readOperand (v1 + 1) (zw s 13 4 ((s.1 13 4) + 1))).bind fun x7 =>
      if x7.1 = 0 then
        some (0, x7.2)
      else
        if v2 = 33 then
          (f_tp_step (-33) x7.2).bind fun x8 =>
          if x8.1 = 0 then
            some (0, x8.2)
          else
            some (1, x8.2)
        else
          (f_tp_step (-126) x7.2).bind fun x9 =>
          if x9.1 = 0 then
            some (0, x9.2)
          else
            some (1, x9.2)
  else
    some (0, s)
noncomputable def b_tp_readOperand (c_tp_readEither : Int32 → zSt → Option (Int32 × zSt)) (c_tp_readOperand : Int32 → zSt → Option (Int32 × zSt)) (a0 : Int32) (s : zSt) : Option (Int32 × zSt) :=
  (f_tp_next s).bind fun x1 =>
  (f_tp_isDigit x1.1 x1.2).bind fun x2 =>
  if x2.1 = 0 then
    if x1.1 = 40 then
      f_tp_readOperand_41 c_tp_readEither c_tp_readOperand a0 x1.1 x2.2
    else
      if x1.1 = 33 then
        f_tp_readOperand_41 c_tp_readEither c_tp_readOperand a0 x1.1 x2.2
      else
        if x1.1 = 45 then
          f_tp_readOperand_41 c_tp_readEither c_tp_readOperand a0 x1.1 x2.2
        else
          (f_tp_readName x1.1 x2.2).bind fun x3 =>
          (zbo x3.1).bind fun v => some (v, x3.2)
  else
    (f_tp_readNumber x2.2).bind fun x4 =>
    (zbo x4.1).bind fun v => some (v, x4.2)
noncomputable def F_tp : Nat → Nat → Int32 → zSt → Option (Int32 × zSt)
  | 0, _, _, _ => none
  | n + 1, 0, a, s => b_tp_readEither (F_tp n 1) a s
  | n + 1, 1, a, s => b_tp_readBoth (F_tp n 2) a s
  | n + 1, 2, a, s => b_tp_readCompared (F_tp n 3) a s
  | n + 1, 3, a, s => b_tp_readSum (F_tp n 4) a s
  | n + 1, 4, a, s => b_tp_readProduct (F_tp n 5) a s
  | n + 1, _ + 5, a, s => b_tp_readOperand (F_tp n 0) (F_tp n 5) a s
noncomputable def f_tp_readEither (a0 : Int32) (s : zSt) : Option (Int32 × zSt) := F_tp 70 0 a0 s
noncomputable def f_tp_readLine (s : zSt) : Option (Int32 × zSt) :=
  (f_tp_readEither (0) s).bind fun x1 =>
  if x1.1 = 0 then
    some (0, x1.2)
  else
    (f_tp_took (63) x1.2).bind fun x2 =>
    if x2.1 = 0 then
      (f_tp_step (-59) x2.2).bind fun x3 =>
      (zbo x3.1).bind fun v => some (v, x3.2)
    else
      (f_tp_readEither (0) x2.2).bind fun x4 =>
      if x4.1 = 0 then
        some (0, x4.2)
      else
        (f_tp_step (-63) x4.2).bind fun x5 =>
        if x5.1 = 0 then
          some (0, x5.2)
        else
          some (1, x5.2)
noncomputable def f_tp_read_60 (v1 : Int32) (s : zSt) : Option (Int32 × zSt) :=
  if v1 = 0 then
    some ((s.1 13 4), s)
  else
    if (s.1 13 4) = (s.1 13 1) then
      some ((-1), s)
    else
      some ((s.1 13 4), s)
noncomputable def f_tp_read_16 : Nat → Int32 → Int32 → Int32 → zSt → Option (Int32 × zSt)
  | 0, _, _, _, _ => none
  | n + 1, v1, v2, v3, s =>
    if v1 = 0 then
      f_tp_read_60 v1 s
    else
      if v2 = 0 then
        f_tp_read_60 v1 s
      else
        if 120 < v3 then
          f_tp_read_60 v1 s
        else
          (f_tp_readLine s).bind fun x1 =>
          if x1.1 = 0 then
            (f_tp_read_16 n) x1.1 (0) (v3 + 1) x1.2
          else
            (f_tp_took (59) x1.2).bind fun x2 =>
            if x2.1 = 0 then
              (f_tp_read_16 n) x1.1 (0) (v3 + 1) x2.2
            else
              (f_tp_read_16 n) x1.1 (1) (v3 + 1) x2.2
noncomputable def f_tp_read (s : zSt) : Option (Int32 × zSt) :=
  f_tp_read_16 zFu (1) (1) (0) (zw (zw s 13 4 0) 13 3 0)
noncomputable def f_th_addedInAllOrders (a0 : Int32) (s : zSt) : Option (Int32 × zSt) :=
  (zld s 30 8 (1 <<< (a0 &&& 31))).bind fun x1 =>
  (zld s 30 8 ((1 <<< (a0 &&& 31)) ||| (1 <<< ((zrem (a0 + 1) 3) &&& 31)))).bind fun x2 =>
  (zld s 30 8 (1 <<< ((zrem (a0 + 1) 3) &&& 31))).bind fun x3 =>
  (zld s 30 8 ((1 <<< (a0 &&& 31)) ||| (1 <<< ((zrem (a0 + 2) 3) &&& 31)))).bind fun x4 =>
  (zld s 30 8 (1 <<< ((zrem (a0 + 2) 3) &&& 31))).bind fun x5 =>
  (zld s 30 8 7).bind fun x6 =>
  (zld s 30 8 ((1 <<< ((zrem (a0 + 1) 3) &&& 31)) ||| (1 <<< ((zrem (a0 + 2) 3) &&& 31)))).bind fun x7 =>
  some (((((((2 * x1) + x2) - x3) + x4) - x5) + (2 * (x6 - x7))), s)
noncomputable def f_th_above (a0 : Int32) (a1 : Int32) (s : zSt) : Option (Int32 × zSt) :=
  if a1 = 0 then
    (zld s 30 8 7).bind fun x1 =>
    some (x1, s)
  else
    if a1 = 1 then
      (zld s 30 8 7).bind fun x2 =>
      (zld s 31 3 a0).bind fun x3 =>
      some ((x2 * x3), s)
    else
      (f_th_addedInAllOrders a0 s).bind fun x4 =>
      some (x4.1, x4.2)
noncomputable def f_th_below (a0 : Int32) (s : zSt) : Option (Int32 × zSt) :=
  if a0 = 0 then
    some (3, s)
  else
    if a0 = 1 then
      (zld s 31 3 0).bind fun x1 =>
      (zld s 31 3 1).bind fun x2 =>
      (zld s 31 3 2).bind fun x3 =>
      some ((zmax 1 ((x1 + x2) + x3)), s)
    else
      some (6, s)
noncomputable def f_g_heat (a0 : Int32) (a1 : Int32) (s : zSt) : Option (Int32 × zSt) :=
  (f_g_isQuarter a0 s).bind fun x1 =>
  if x1.1 = 0 then
    some ((-1), x1.2)
  else
    (f_g_isWithin a1 (0) (40) x1.2).bind fun x2 =>
    if x2.1 = 0 then
      some ((-1), x2.2)
    else
      (zld x2.2 7 32 a0).bind fun x3 =>
      (zst x2.2 7 32 a0 a1).bind fun s4 =>
      some (x3, s4)
noncomputable def f_g_heatsCome_3 (oS : Nat) : Nat → Int32 → Int32 → Int32 → Int32 → zSt → Option (Int32 × zSt)
  | 0, _, _, _, _, _ => none
  | n + 1, v2, v3, v4, v5, s =>
    if v4 ≤ v5 then
      some (v5, s)
    else
      (f_g_isQuarter (v3 + v5) s).bind fun x1 =>
      if x1.1 = 0 then
        some (v5, x1.2)
      else
        (f_sh_hasPlaces oS v2 (v5 + 1) x1.2).bind fun x2 =>
        if x2.1 = 0 then
          some (v5, x2.2)
        else
          (zldl x2.2 (oS + 1) 60 (v2 + v5)).bind fun x3 =>
          (f_g_isWithin (x3 : Int64).toInt32 (0) (40) x2.2).bind fun x4 =>
          if x4.1 = 0 then
            some (v5, x4.2)
          else
            (zldl x4.2 (oS + 1) 60 (v2 + v5)).bind fun x5 =>
            (zst x4.2 7 32 (v3 + v5) (x5 : Int64).toInt32).bind fun s6 =>
            (f_g_heatsCome_3 oS n) v2 v3 v4 (v5 + 1) s6
noncomputable def f_g_heatsCome (oS : Nat) (a1 : Int32) (a2 : Int32) (a3 : Int32) (s : zSt) : Option (Int32 × zSt) :=
  f_g_heatsCome_3 oS zFu a1 a2 a3 (0) s
noncomputable def f_g_heats (a0 : Int32) (a1 : Int32) (a2 : Int32) (s : zSt) : Option (Int32 × zSt) :=
  if 0 ≤ a0.toInt ∧ a0.toInt < 6 then
    (some a0.toNatClampNeg).bind fun j2 =>
    if a2 < 0 then
      some ((-1), s)
    else
      (f_g_isQuarter (a2 / 100) s).bind fun x3 =>
      if x3.1 = 0 then
        some ((-1), x3.2)
      else
        (f_g_isWithin (zrem a2 100) (1) (32) x3.2).bind fun x4 =>
        if x4.1 = 0 then
          some ((-1), x4.2)
        else
          (f_sh_isEmpty (40 + 2 * j2) x4.2).bind fun x5 =>
          if x5.1 = 0 then
            (f_sh_isRowOf (40 + 2 * j2) (0) x5.2).bind fun x6 =>
            if x6.1 = 0 then
              some ((-12), x6.2)
            else
              (f_g_heatsCome (40 + 2 * j2) a1 (a2 / 100) (zrem a2 100) x6.2).bind fun x7 =>
              some (x7.1, x7.2)
          else
            some (0, x5.2)
  else
    some ((-1), s)
noncomputable def f_g_place (s : zSt) : Option (Int32 × zSt) :=
  if (s.1 6 3) < 4 then
    some ((s.1 6 3), (zw s 6 3 ((s.1 6 3) + 1)))
  else
    some ((-3), s)
noncomputable def f_g_isSpan (a0 : Int32) (s : zSt) : Option (Int32 × zSt) :=
  if a0 < 0 then
    some (0, s)
  else
    (f_g_isQuarter (zrem a0 100) s).bind fun x1 =>
    if x1.1 = 0 then
      some (0, x1.2)
    else
      if (zrem a0 100) < (a0 / 100) then
        some (0, x1.2)
      else
        some (1, x1.2)
noncomputable def f_g_flow_36 : Nat → Int32 → Int32 → Int32 → Int32 → zSt → Option (Int32 × zSt)
  | 0, _, _, _, _, _ => none
  | n + 1, v1, v2, v3, v4, s =>
    if (zrem v2 100) < v4 then
      some ((((zrem v2 100) - (v2 / 100)) + 1), s)
    else
      (zst s 9 128 ((v1 * 32) + v4) v3).bind fun s4 =>
      (f_g_flow_36 n) v1 v2 v3 (v4 + 1) s4
noncomputable def f_g_flow (a0 : Int32) (a1 : Int32) (a2 : Int32) (s : zSt) : Option (Int32 × zSt) :=
  (f_st_isPlace a0 s).bind fun x1 =>
  if x1.1 = 0 then
    some ((-1), x1.2)
  else
    (f_g_isSpan a1 x1.2).bind fun x2 =>
    if x2.1 = 0 then
      some ((-1), x2.2)
    else
      (f_g_isWithin a2 (0) (9) x2.2).bind fun x3 =>
      if x3.1 = 0 then
        some ((-1), x3.2)
      else
        f_g_flow_36 zFu a0 a1 a2 (a1 / 100) x3.2
noncomputable def f_g_stand_30 : Nat → Int32 → Int32 → Int32 → zSt → Option (Int32 × zSt)
  | 0, _, _, _, _ => none
  | n + 1, v1, v2, v3, s =>
    if (zrem v2 100) < v3 then
      some ((((zrem v2 100) - (v2 / 100)) + 1), s)
    else
      (zst s 8 32 v3 v1).bind fun s4 =>
      (f_g_stand_30 n) v1 v2 (v3 + 1) s4
noncomputable def f_g_stand (a0 : Int32) (a1 : Int32) (s : zSt) : Option (Int32 × zSt) :=
  if a0 = (-1) then
    (f_g_isSpan a1 s).bind fun x1 =>
    if x1.1 = 0 then
      some ((-1), x1.2)
    else
      f_g_stand_30 zFu a0 a1 (a1 / 100) x1.2
  else
    (f_st_isPlace a0 s).bind fun x2 =>
    if x2.1 = 0 then
      some ((-1), x2.2)
    else
      (f_g_isSpan a1 x2.2).bind fun x3 =>
      if x3.1 = 0 then
        some ((-1), x3.2)
      else
        f_g_stand_30 zFu a0 a1 (a1 / 100) x3.2
noncomputable def f_g_mend (a0 : Int32) (a1 : Int32) (s : zSt) : Option (Int32 × zSt) :=
  (f_rc_allows a0 a1 s).bind fun x1 =>
  if x1.1 = 0 then
    some ((-1), x1.2)
  else
    (f_rc_change a0 a1 x1.2).bind fun x2 =>
    some (x2.1, x2.2)
noncomputable def f_g_of (a0 : Int32) (s : zSt) : Option (Int32 × zSt) :=
  (f_g_isWithin a0 (0) (7) s).bind fun x1 =>
  if x1.1 = 0 then
    if a0 = 8 then
      (f_rc_jugCost x1.2).bind fun x2 =>
      some (x2.1, x2.2)
    else
      if a0 = 9 then
        (f_rc_glassCost x1.2).bind fun x3 =>
        some (x3.1, x3.2)
      else
        (f_g_isQuarter (a0 - 100) x1.2).bind fun x4 =>
        if x4.1 = 0 then
          (f_g_isQuarter (a0 - 200) x4.2).bind fun x5 =>
          if x5.1 = 0 then
            if a0 < 1000 then
              some ((-2000000000), x5.2)
            else
              (f_st_isPlace ((a0 - 1000) / 100) x5.2).bind fun x6 =>
              if x6.1 = 0 then
                some ((-2000000000), x6.2)
              else
                (f_g_isQuarter (zrem a0 100) x6.2).bind fun x7 =>
                if x7.1 = 0 then
                  some ((-2000000000), x7.2)
                else
                  (f_st_flowAt ((a0 - 1000) / 100) (zrem a0 100) x7.2).bind fun x8 =>
                  some (x8.1, x8.2)
          else
            (zld x5.2 8 32 (a0 - 200)).bind fun x9 =>
            some (x9, x5.2)
        else
          (zld x4.2 7 32 (a0 - 100)).bind fun x10 =>
          some (x10, x4.2)
  else
    (zld x1.2 2 8 a0).bind fun x11 =>
    some (x11, x1.2)
noncomputable def f_g_feed (a0 : Int32) (s : zSt) : Option (Int32 × zSt) :=
  (f_g_isWithin a0 (0) (255) s).bind fun x1 =>
  if x1.1 = 0 then
    some ((-1), x1.2)
  else
    (f_tp_add a0 x1.2).bind fun x2 =>
    if x2.1 = 0 then
      some ((-3), x2.2)
    else
      some ((x2.2.1 13 1), x2.2)
noncomputable def f_g_law_35 (v2 : Int32) (s : zSt) : Option (Int32 × zSt) :=
  (f_tp_clear s).bind fun x4 =>
  if 0 ≤ v2 then
    some (((-100) - v2), x4)
  else
    some (1, x4)
noncomputable def f_g_law (a0 : Int32) (s : zSt) : Option (Int32 × zSt) :=
  (f_g_isWithin a0 (0) (1) s).bind fun x1 =>
  if x1.1 = 0 then
    some ((-1), x1.2)
  else
    (f_tp_read x1.2).bind fun x2 =>
    if 0 ≤ x2.1 then
      f_g_law_35 x2.1 x2.2
    else
      (f_ls_become a0 x2.2).bind fun x3 =>
      f_g_law_35 x2.1 x3
noncomputable def f_g_taste (a0 : Int32) (a1 : Int32) (a2 : Int32) (s : zSt) : Option (Int32 × zSt) :=
  (f_g_isQuarter a0 s).bind fun x1 =>
  if x1.1 = 0 then
    some ((-1), x1.2)
  else
    (f_g_isWithin a1 (0) (32) x1.2).bind fun x2 =>
    if x2.1 = 0 then
      some ((-1), x2.2)
    else
      (f_g_isWithin a2 (0) (1) x2.2).bind fun x3 =>
      if x3.1 = 0 then
        some ((-1), x3.2)
      else
        (zld x3.2 2 8 3).bind fun x4 =>
        (f_ls_begin x4 x3.2).bind fun x5 =>
        (zld x5 7 32 a0).bind fun x6 =>
        if a2 = 0 then
          (f_ls_tasteOf a0 x6 a1 x5).bind fun x7 =>
          some (x7.1, x7.2)
        else
          (f_ls_buysOf a0 x6 a1 x5).bind fun x8 =>
          some (x8.1, x8.2)
noncomputable def f_g_spend_15 (oD : Nat) : Nat → Int32 → zSt → Option (zSt)
  | 0, _, _ => none
  | n + 1, v5, s =>
    if 32 ≤ v5 then
      some s
    else
      (f_dy_pass oD v5 s).bind fun x2 =>
      (f_g_spend_15 oD n) (v5 + 1) x2
noncomputable def f_g_spend (oD : Nat) (a1 : Int32) (a2 : Int32) (a3 : Int32) (s : zSt) : Option (zSt) :=
  (f_dy_begin oD a1 a2 a3 s).bind fun x1 =>
  f_g_spend_15 oD zFu (0) x1
noncomputable def f_g_day (a0 : Int32) (s : zSt) : Option (Int32 × zSt) :=
  (zld s 2 8 3).bind fun x1 =>
  (f_ls_begin x1 s).bind fun x2 =>
  (zld x2 2 8 3).bind fun x3 =>
  (zld x2 2 8 7).bind fun x4 =>
  (f_g_spend 25 a0 x3 x4 x2).bind fun x5 =>
  some (((zw x5 0 6 1).1 25 1), (zw x5 0 6 1))
noncomputable def f_g_told_38 (v1 : Int32) (v2 : Int32) (v3 : Int32) (s : zSt) : Option (Int32 × zSt) :=
  if (s.1 0 6) = 0 then
    some ((-5), s)
  else
    if v2 = 0 then
      if v3 = 0 then
        (f_dy_total 25 v1 s).bind fun x4 =>
        some (x4.1, x4.2)
      else
        (zld s 26 32 (v1 - 200)).bind fun x5 =>
        some ((x5 * (s.1 25 2)), s)
    else
      (zld s 26 32 (v1 - 100)).bind fun x6 =>
      some (x6, s)
noncomputable def f_g_told (a0 : Int32) (s : zSt) : Option (Int32 × zSt) :=
  (f_g_isQuarter (a0 - 100) s).bind fun x1 =>
  (f_g_isQuarter (a0 - 200) x1.2).bind fun x2 =>
  (f_g_isWithin a0 (0) (7) x2.2).bind fun x3 =>
  if x3.1 = 0 then
    if x1.1 = 0 then
      if x2.1 = 0 then
        some ((-2000000000), x3.2)
      else
        f_g_told_38 a0 x1.1 x2.1 x3.2
    else
      f_g_told_38 a0 x1.1 x2.1 x3.2
  else
    f_g_told_38 a0 x1.1 x2.1 x3.2
noncomputable def f_g_best_101 (k32 : Int32 → Int32 → Int32 → Int32 → Int32 → Int32 → zSt → Option (Int32 × zSt)) (v1 : Int32) (v2 : Int32) (v3 : Int32) (v4 : Int32) (v5 : Int32) (v6 : Int32) (v7 : Int32) (v8 : Int32) (s : zSt) : Option (Int32 × zSt) :=
  (f_g_spend 27 v1 v7 v8 s).bind fun x5 =>
  if v6 = 0 then
    (f_dy_gain 27 x5).bind fun x6 =>
    k32 v1 v2 v3 v6 x6.1 (v6 + 1) x6.2
  else
    (f_dy_gain 27 x5).bind fun x7 =>
    if x7.1 ≤ v5 then
      k32 v1 v2 v3 v4 v5 (v6 + 1) x7.2
    else
      (f_dy_gain 27 x7.2).bind fun x8 =>
      k32 v1 v2 v3 v6 x8.1 (v6 + 1) x8.2
noncomputable def f_g_best_88 (k32 : Int32 → Int32 → Int32 → Int32 → Int32 → Int32 → zSt → Option (Int32 × zSt)) (v1 : Int32) (v2 : Int32) (v3 : Int32) (v4 : Int32) (v5 : Int32) (v6 : Int32) (v7 : Int32) (v8 : Int32) (s : zSt) : Option (Int32 × zSt) :=
  (f_ls_begin v7 s).bind fun x4 =>
  f_g_best_101 k32 v1 v2 v3 v4 v5 v6 v7 v8 x4
noncomputable def f_g_best_77 (k32 : Int32 → Int32 → Int32 → Int32 → Int32 → Int32 → zSt → Option (Int32 × zSt)) (v1 : Int32) (v2 : Int32) (v3 : Int32) (v4 : Int32) (v5 : Int32) (v6 : Int32) (v7 : Int32) (w0 : Int32) (s : zSt) : Option (Int32 × zSt) :=
  if v2 = 0 then
    f_g_best_88 k32 v1 v2 v3 v4 v5 v6 v7 w0 s
  else
    if v6 = 0 then
      f_g_best_88 k32 v1 v2 v3 v4 v5 v6 v7 w0 s
    else
      f_g_best_101 k32 v1 v2 v3 v4 v5 v6 v7 w0 s
noncomputable def f_g_best_56 (k32 : Int32 → Int32 → Int32 → Int32 → Int32 → Int32 → zSt → Option (Int32 × zSt)) (v1 : Int32) (v2 : Int32) (v3 : Int32) (v4 : Int32) (v5 : Int32) (v6 : Int32) (w0 : Int32) (s : zSt) : Option (Int32 × zSt) :=
  if v2 = 0 then
    (zld s 2 8 7).bind fun x3 =>
    f_g_best_77 k32 v1 v2 v3 v4 v5 v6 w0 x3 s
  else
    f_g_best_77 k32 v1 v2 v3 v4 v5 v6 w0 v6 s
noncomputable def f_g_best_32 : Nat → Int32 → Int32 → Int32 → Int32 → Int32 → Int32 → zSt → Option (Int32 × zSt)
  | 0, _, _, _, _, _, _, _ => none
  | n + 1, v1, v2, v3, v4, v5, v6, s =>
    if v3 < v6 then
      some (v4, s)
    else
      if v2 = 0 then
        f_g_best_56 (f_g_best_32 n) v1 v2 v3 v4 v5 v6 v6 s
      else
        (zld s 2 8 3).bind fun x2 =>
        f_g_best_56 (f_g_best_32 n) v1 v2 v3 v4 v5 v6 x2 s
noncomputable def f_g_best (a0 : Int32) (a1 : Int32) (s : zSt) : Option (Int32 × zSt) :=
  (f_g_isWithin a1 (0) (1) s).bind fun x1 =>
  if x1.1 = 0 then
    some ((-1), x1.2)
  else
    if a1 = 0 then
      f_g_best_32 zFu a0 a1 (50) (0) (0) (0) x1.2
    else
      f_g_best_32 zFu a0 a1 (9) (0) (0) (0) x1.2
noncomputable def f_g_where_30 (v1 : Int32) (v2 : Int32) (s : zSt) : Option (Int32 × zSt) :=
  if (s.1 6 3) = 0 then
    some ((-5), s)
  else
    (f_st_lookAhead (v1 / 100) (zrem v1 100) s).bind fun x3 =>
    if v2 = (-1) then
      (f_st_mostFrom (-1) (v1 / 100) x3).bind fun x4 =>
      some (x4.1, x4.2)
    else
      (f_st_placeIn (v1 / 100) v2 x3).bind fun x5 =>
      some (x5.1, x5.2)
noncomputable def f_g_where (a0 : Int32) (a1 : Int32) (s : zSt) : Option (Int32 × zSt) :=
  (f_g_isSpan a0 s).bind fun x1 =>
  if x1.1 = 0 then
    some ((-2000000000), x1.2)
  else
    if a1 = (-1) then
      f_g_where_30 a0 a1 x1.2
    else
      (f_g_isWithin a1 (a0 / 100) (zrem a0 100) x1.2).bind fun x2 =>
      if x2.1 = 0 then
        some ((-2000000000), x2.2)
      else
        f_g_where_30 a0 a1 x2.2
noncomputable def f_g_firstWrong_33 (oS : Nat) : Nat → Int32 → zSt → Option (Int32 × zSt)
  | 0, _, _ => none
  | n + 1, v3, s =>
    if 32 ≤ v3 then
      some ((-2), s)
    else
      if (s.1 oS 2) ≤ v3 then
        some ((-2), s)
      else
        (f_dy_pass 27 v3 s).bind fun x4 =>
        (zld x4 28 32 v3).bind fun x5 =>
        (zldl x4 (oS + 1) 60 v3).bind fun x6 =>
        if (lg_cmp (x5 : Int32).toInt64 x6) = 0 then
          (f_g_firstWrong_33 oS n) (v3 + 1) x4
        else
          some (v3, x4)
noncomputable def f_g_firstWrong (oS : Nat) (a1 : Int32) (s : zSt) : Option (Int32 × zSt) :=
  (zld s 2 8 3).bind fun x1 =>
  (zld s 2 8 7).bind fun x2 =>
  (f_dy_begin 27 a1 x1 x2 s).bind fun x3 =>
  f_g_firstWrong_33 oS zFu (0) x3
noncomputable def f_g_judge (a0 : Int32) (a1 : Int32) (s : zSt) : Option (Int32 × zSt) :=
  if 0 ≤ a0.toInt ∧ a0.toInt < 6 then
    (some a0.toNatClampNeg).bind fun j2 =>
    (f_sh_refusalOfSort (40 + 2 * j2) (1) s).bind fun x3 =>
    if x3.1 = 0 then
      (zld x3.2 2 8 3).bind fun x4 =>
      (f_ls_begin x4 x3.2).bind fun x5 =>
      (f_g_firstWrong (40 + 2 * j2) a1 x5).bind fun x6 =>
      some (x6.1, x6.2)
    else
      some (x3.1, x3.2)
  else
    some ((-1), s)
noncomputable def f_g_seeded_47 : Nat → Int32 → Nat → zSt → Option (Int32 × zSt)
  | 0, _, _, _ => none
  | n + 1, v4, j_v2, s =>
    if 100 ≤ v4 then
      some ((-2), s)
    else
      (f_g_firstWrong j_v2 v4 s).bind fun x6 =>
      if x6.1 = (-2) then
        some (v4, x6.2)
      else
        (f_g_seeded_47 n) (v4 + 1) j_v2 x6.2
noncomputable def f_g_seeded (a0 : Int32) (s : zSt) : Option (Int32 × zSt) :=
  if 0 ≤ a0.toInt ∧ a0.toInt < 6 then
    (some a0.toNatClampNeg).bind fun j2 =>
    (f_sh_refusalOfSort (40 + 2 * j2) (1) s).bind fun x3 =>
    if x3.1 = 0 then
      (zld x3.2 2 8 3).bind fun x4 =>
      (f_ls_begin x4 x3.2).bind fun x5 =>
      f_g_seeded_47 zFu (0) (40 + 2 * j2) x5
    else
      some (x3.1, x3.2)
  else
    some ((-1), s)
noncomputable def f_g_meanGain (a0 : Int32) (a1 : Int32) (a2 : Int32) (a3 : Int32) (s : zSt) : Option (Int64 × zSt) :=
  (zld s 2 8 3).bind fun x1 =>
  (f_su_meanSold a0 a1 a3 s).bind fun x2 =>
  (f_su_power (12) a0 x2.2).bind fun x3 =>
  some ((((x1 : Int32).toInt64 * x2.1) - (((a2 * a3) : Int32).toInt64 * x3.1)), x3.2)
noncomputable def f_g_make_63 : Nat → Int32 → Int32 → Int32 → Int32 → Int32 → Int32 → zSt → Option (Int64 × zSt)
  | 0, _, _, _, _, _, _, _ => none
  | n + 1, v2, v3, v4, v5, v6, v7, s =>
    if v4 < v7 then
      if v3 = 0 then
        some ((v6 : Int32).toInt64, s)
      else
        (f_g_meanGain v4 v5 v2 v6 s).bind fun x3 =>
        (f_su_power (12) v4 x3.2).bind fun x4 =>
        if v3 = 1 then
          (f_su_divisor x3.1 x4.1 x4.2).bind fun x5 =>
          (zdvl x3.1 x5.1).bind fun x6 =>
          some (x6, x5.2)
        else
          (f_su_divisor x3.1 x4.1 x4.2).bind fun x7 =>
          (zdvl x4.1 x7.1).bind fun x8 =>
          some (x8, x7.2)
    else
      (f_g_meanGain v4 v5 v2 v7 s).bind fun x9 =>
      (f_g_meanGain v4 v5 v2 v6 x9.2).bind fun x10 =>
      if (lg_cmp x9.1 x10.1) ≤ 0 then
        (f_g_make_63 n) v2 v3 v4 v5 v6 (v7 + 1) x10.2
      else
        (f_g_make_63 n) v2 v3 v4 v5 v7 (v7 + 1) x10.2
noncomputable def f_g_make (a0 : Int32) (a1 : Int32) (a2 : Int32) (s : zSt) : Option (Int64 × zSt) :=
  if a0 < 0 then
    some ((-9223372036854775808), s)
  else
    if 8 < (a0 / 100) then
      some ((-9223372036854775808), s)
    else
      if 12 < (zrem a0 100) then
        some ((-9223372036854775808), s)
      else
        (f_g_isWithin a1 (0) (99) s).bind fun x1 =>
        if x1.1 = 0 then
          some ((-9223372036854775808), x1.2)
        else
          (f_g_isWithin a2 (0) (2) x1.2).bind fun x2 =>
          if x2.1 = 0 then
            some ((-9223372036854775808), x2.2)
          else
            f_g_make_63 zFu a1 a2 (a0 / 100) (zrem a0 100) (0) (1) x2.2
noncomputable def f_g_undercut_149 (v2 : Int32) (v3 : Int32) (v4 : Int32) (v6 : Int32) (s : zSt) : Option (Int32 × zSt) :=
  if v2 = 0 then
    some (v6, s)
  else
    if v2 = 1 then
      some (v3, s)
    else
      some (v4, s)
noncomputable def f_g_undercut_111 (k62 : Int32 → Int32 → Int32 → Int32 → Int32 → Int32 → zSt → Option (Int32 × zSt)) (v1 : Int32) (v2 : Int32) (v3 : Int32) (v4 : Int32) (v5 : Int32) (v6 : Int32) (v7 : Int32) (v8 : Int32) (w0 : Int32) (w1 : Int32) (s : zSt) : Option (Int32 × zSt) :=
  if w0 ≤ w1 then
    if v7 = 0 then
      if v7 = 0 then
        k62 v1 v2 v8 v4 v5 (v6 + 1) s
      else
        k62 v1 v2 v8 v8 v5 (v6 + 1) s
    else
      if v7 = 0 then
        k62 v1 v2 v3 v4 v5 (v6 + 1) s
      else
        k62 v1 v2 v3 v8 v5 (v6 + 1) s
  else
    f_g_undercut_149 v2 v3 v4 v6 s
noncomputable def f_g_undercut_94 (k62 : Int32 → Int32 → Int32 → Int32 → Int32 → Int32 → zSt → Option (Int32 × zSt)) (v1 : Int32) (v2 : Int32) (v3 : Int32) (v4 : Int32) (v5 : Int32) (v6 : Int32) (v7 : Int32) (w0 : Int32) (s : zSt) : Option (Int32 × zSt) :=
  if v7 = 0 then
    f_g_undercut_111 k62 v1 v2 v3 v4 v5 v6 v7 (w0 - 1) v5 (w0 - 1) s
  else
    f_g_undercut_111 k62 v1 v2 v3 v4 v5 v6 v7 (w0 - 1) v1 (w0 - 1) s
noncomputable def f_g_undercut_81 (k62 : Int32 → Int32 → Int32 → Int32 → Int32 → Int32 → zSt → Option (Int32 × zSt)) (v1 : Int32) (v2 : Int32) (v3 : Int32) (v4 : Int32) (v5 : Int32) (v6 : Int32) (w0 : Int32) (s : zSt) : Option (Int32 × zSt) :=
  if w0 = 0 then
    f_g_undercut_94 k62 v1 v2 v3 v4 v5 v6 w0 v4 s
  else
    f_g_undercut_94 k62 v1 v2 v3 v4 v5 v6 w0 v3 s
noncomputable def f_g_undercut_62 : Nat → Int32 → Int32 → Int32 → Int32 → Int32 → Int32 → zSt → Option (Int32 × zSt)
  | 0, _, _, _, _, _, _, _ => none
  | n + 1, v1, v2, v3, v4, v5, v6, s =>
    if 50 < v6 then
      f_g_undercut_149 v2 v3 v4 v6 s
    else
      if (zrem v6 2) = 0 then
        f_g_undercut_81 (f_g_undercut_62 n) v1 v2 v3 v4 v5 v6 (1) s
      else
        f_g_undercut_81 (f_g_undercut_62 n) v1 v2 v3 v4 v5 v6 (0) s
noncomputable def f_g_undercut (a0 : Int32) (a1 : Int32) (s : zSt) : Option (Int32 × zSt) :=
  (f_g_isWithin a0 (0) (50) s).bind fun x1 =>
  if x1.1 = 0 then
    some ((-1), x1.2)
  else
    (f_g_isWithin a1 (0) (2) x1.2).bind fun x2 =>
    if x2.1 = 0 then
      some ((-1), x2.2)
    else
      (zld x2.2 2 8 3).bind fun x3 =>
      (zld x2.2 2 8 4).bind fun x4 =>
      (f_rc_glassCost x2.2).bind fun x5 =>
      if x4 = 0 then
        some ((-5), x5.2)
      else
        f_g_undercut_62 zFu a0 a1 x3 x4 x5.1 (0) x5.2
noncomputable def f_g_brings (a0 : Int32) (a1 : Int32) (s : zSt) : Option (Int32 × zSt) :=
  (f_g_isWithin a0 (1) (7) s).bind fun x1 =>
  if x1.1 = 0 then
    some ((-1), x1.2)
  else
    (f_g_isWithin a1 (0) (999) x1.2).bind fun x2 =>
    if x2.1 = 0 then
      some ((-1), x2.2)
    else
      (zld x2.2 30 8 a0).bind fun x3 =>
      (zst x2.2 30 8 a0 a1).bind fun s4 =>
      some (x3, s4)
noncomputable def f_g_minutes (a0 : Int32) (a1 : Int32) (s : zSt) : Option (Int32 × zSt) :=
  (f_g_isWithin a0 (0) (2) s).bind fun x1 =>
  if x1.1 = 0 then
    some ((-1), x1.2)
  else
    (f_g_isWithin a1 (0) (600) x1.2).bind fun x2 =>
    if x2.1 = 0 then
      some ((-1), x2.2)
    else
      (zld x2.2 31 3 a0).bind fun x3 =>
      (zst x2.2 31 3 a0 a1).bind fun s4 =>
      some (x3, s4)
noncomputable def f_g_share (a0 : Int32) (a1 : Int32) (a2 : Int32) (s : zSt) : Option (Int32 × zSt) :=
  (f_g_isWithin a0 (0) (2) s).bind fun x1 =>
  if x1.1 = 0 then
    some ((-2000000000), x1.2)
  else
    (f_g_isWithin a1 (0) (2) x1.2).bind fun x2 =>
    if x2.1 = 0 then
      some ((-2000000000), x2.2)
    else
      (f_g_isWithin a2 (0) (1) x2.2).bind fun x3 =>
      if x3.1 = 0 then
        some ((-2000000000), x3.2)
      else
        (f_th_above a0 a1 x3.2).bind fun x4 =>
        (f_th_below a1 x4.2).bind fun x5 =>
        if a2 = 0 then
          (f_su_divisor (x4.1 : Int32).toInt64 (x5.1 : Int32).toInt64 x5.2).bind fun x6 =>
          (zdvl (x4.1 : Int32).toInt64 x6.1).bind fun x7 =>
          some ((x7 : Int64).toInt32, x6.2)
        else
          (f_su_divisor (x4.1 : Int32).toInt64 (x5.1 : Int32).toInt64 x5.2).bind fun x8 =>
          (zdvl (x5.1 : Int32).toInt64 x8.1).bind fun x9 =>
          some ((x9 : Int64).toInt32, x8.2)
noncomputable def f_g_slate (a0 : Int32) (a1 : Int32) (s : zSt) : Option (Int32 × zSt) :=
  (f_sl_isName (a0 / 10) s).bind fun x1 =>
  if x1.1 = 0 then
    some ((-1), x1.2)
  else
    (f_sl_isName (zrem a0 10) x1.2).bind fun x2 =>
    if x2.1 = 0 then
      some ((-1), x2.2)
    else
      if (a0 / 10) = (zrem a0 10) then
        some ((-1), x2.2)
      else
        (f_g_isWithin a1 (0) (999) x2.2).bind fun x3 =>
        if x3.1 = 0 then
          some ((-1), x3.2)
        else
          (f_sl_write (a0 / 10) (zrem a0 10) a1 x3.2).bind fun x4 =>
          some (x4.1, x4.2)
noncomputable def f_g_owes (a0 : Int32) (s : zSt) : Option (Int32 × zSt) :=
  (f_sl_isName a0 s).bind fun x1 =>
  if x1.1 = 0 then
    some ((-2000000000), x1.2)
  else
    (f_sl_balance a0 x1.2).bind fun x2 =>
    some (x2.1, x2.2)
noncomputable def f_g_wiped (s : zSt) : Option (Int32 × zSt) :=
  (f_sl_fewestPayments s).bind fun x1 =>
  some (x1.1, x1.2)
noncomputable def f_g_image (s : zSt) : Option (Int32 × zSt) :=
  (f_st_keepImage s).bind fun x1 =>
  (f_st_sumOfHeats x1).bind fun x2 =>
  some (x2.1, x2.2)
noncomputable def f_g_back (s : zSt) : Option (Int32 × zSt) :=
  if (s.1 6 6) = 0 then
    some ((-5), s)
  else
    (f_st_takeImage s).bind fun x1 =>
    (f_st_sumOfHeats x1).bind fun x2 =>
    some (x2.1, x2.2)
noncomputable def f_g_undo (s : zSt) : Option (Int32 × zSt) :=
  (f_rc_takeBack s).bind fun x1 =>
  if x1.1 = 0 then
    some ((-5), x1.2)
  else
    some ((x1.2.1 1 4), x1.2)
noncomputable def f_g_redo (s : zSt) : Option (Int32 × zSt) :=
  (f_rc_doAgain s).bind fun x1 =>
  if x1.1 = 0 then
    some ((-5), x1.2)
  else
    some (((x1.2.1 1 5) - (x1.2.1 1 4)), x1.2)
noncomputable def f_g_body (a0 : Int32) (s : zSt) : Option (Int32 × zSt) :=
  (f_g_isWithin a0 (0) (7) s).bind fun x1 =>
  if x1.1 = 0 then
    some ((-1), x1.2)
  else
    (f_gl_add a0 x1.2).bind fun x2 =>
    if x2.1 = 0 then
      some ((-3), x2.2)
    else
      some (((x2.2.1 36 1) - 1), x2.2)
noncomputable def f_g_act (a0 : Int32) (a1 : Int32) (a2 : Int32) (s : zSt) : Option (Int32 × zSt) :=
  (f_gl_enact a0 a1 a2 s).bind fun x1 =>
  some (x1.1, x1.2)
noncomputable def f_g_trace (a0 : Int32) (s : zSt) : Option (Int32 × zSt) :=
  (f_gl_begunKept s).bind fun x1 =>
  (f_g_isWithin a0 (0) (x1.1 - 1) x1.2).bind fun x2 =>
  if x2.1 = 0 then
    some ((-1), x2.2)
  else
    (zld x2.2 38 24 a0).bind fun x3 =>
    some (x3, x2.2)
noncomputable def f_g_keep (a0 : Int32) (a1 : Int32) (s : zSt) : Option (Int32 × zSt) :=
  if 0 ≤ a0.toInt ∧ a0.toInt < 6 then
    (some a0.toNatClampNeg).bind fun j2 =>
    if a1 = (-1) then
      (f_sh_holdGlass (40 + 2 * j2) a1 s).bind fun x3 =>
      some (1, x3)
    else
      (f_gl_has a1 s).bind fun x4 =>
      if x4.1 = 0 then
        some ((-1), x4.2)
      else
        (f_sh_holdGlass (40 + 2 * j2) a1 x4.2).bind fun x5 =>
        some (1, x5)
  else
    some ((-1), s)
noncomputable def f_g_row (a0 : Int32) (a1 : Int32) (a2 : Int32) (s : zSt) : Option (Int32 × zSt) :=
  if 0 ≤ a0.toInt ∧ a0.toInt < 6 then
    (some a0.toNatClampNeg).bind fun j2 =>
    (f_g_isWithin a1 (0) (4) s).bind fun x3 =>
    if x3.1 = 0 then
      some ((-1), x3.2)
    else
      if a2 ≤ 60 then
        if 0 ≤ a2 then
          (f_sh_holdRow (40 + 2 * j2) a1 a2 x3.2).bind fun x4 =>
          some (1, x4)
        else
          some ((-14), x3.2)
      else
        some ((-1), x3.2)
  else
    some ((-1), s)
noncomputable def f_g_put (a0 : Int32) (a1 : Int32) (a2 : Int64) (s : zSt) : Option (Int32 × zSt) :=
  if 0 ≤ a0.toInt ∧ a0.toInt < 6 then
    (some a0.toNatClampNeg).bind fun j2 =>
    (f_sh_refusalOfPlaces (40 + 2 * j2) a1 (1) s).bind fun x3 =>
    if x3.1 = 0 then
      (f_sh_write (40 + 2 * j2) a1 a2 x3.2).bind fun x4 =>
      some (1, x4)
    else
      some (x3.1, x3.2)
  else
    some ((-1), s)
noncomputable def f_g_element (a0 : Int32) (a1 : Int32) (s : zSt) : Option (Int64 × zSt) :=
  if 0 ≤ a0.toInt ∧ a0.toInt < 6 then
    (some a0.toNatClampNeg).bind fun j2 =>
    (f_sh_refusalOfPlaces (40 + 2 * j2) a1 (1) s).bind fun x3 =>
    if x3.1 = 0 then
      (zldl x3.2 ((40 + 2 * j2) + 1) 60 a1).bind fun x4 =>
      some (x4, x3.2)
    else
      some ((-9223372036854775808), x3.2)
  else
    some ((-9223372036854775808), s)
noncomputable def f_g_shift (a0 : Int32) (a1 : Int32) (a2 : Int32) (a3 : Int32) (a4 : Int32) (s : zSt) : Option (Int32 × zSt) :=
  if 0 ≤ a0.toInt ∧ a0.toInt < 6 then
    (some a0.toNatClampNeg).bind fun j2 =>
    if 0 ≤ a2.toInt ∧ a2.toInt < 6 then
      (some a2.toNatClampNeg).bind fun j6 =>
      (f_sh_isEmpty (40 + 2 * j2) s).bind fun x7 =>
      if x7.1 = 0 then
        (f_sh_isEmpty (40 + 2 * j6) x7.2).bind fun x8 =>
        if x8.1 = 0 then
          (f_sh_isRowOf (40 + 2 * j2) (x8.2.1 (40 + 2 * j6) 1) x8.2).bind fun x9 =>
          if x9.1 = 0 then
            some ((-12), x9.2)
          else
            (f_sh_hasPlaces (40 + 2 * j2) a1 a4 x9.2).bind fun x10 =>
            if x10.1 = 0 then
              some ((-13), x10.2)
            else
              (f_sh_hasPlaces (40 + 2 * j6) a3 a4 x10.2).bind fun x11 =>
              if x11.1 = 0 then
                some ((-13), x11.2)
              else
                (zcpl x11.2 ((40 + 2 * j2) + 1) 60 ((40 + 2 * j6) + 1) 60 a1 a3 a4).bind fun s12 =>
                some (a4, s12)
        else
          some ((-11), x8.2)
      else
        some ((-11), x7.2)
    else
      some ((-1), s)
  else
    if 0 ≤ a2.toInt ∧ a2.toInt < 6 then
      (some a2.toNatClampNeg).bind fun j4 =>
      some ((-1), s)
    else
      some ((-1), s)
noncomputable def f_g_taken (a0 : Int32) (a1 : Int32) (s : zSt) : Option (Int32 × zSt) :=
  if 0 ≤ a0.toInt ∧ a0.toInt < 6 then
    (some a0.toNatClampNeg).bind fun j2 =>
    (f_g_isWithin a1 (0) (7) s).bind fun x3 =>
    if x3.1 = 0 then
      some ((-1), x3.2)
    else
      (f_sh_isEmpty (40 + 2 * j2) x3.2).bind fun x4 =>
      if x4.1 = 0 then
        (f_gl_has (x4.2.1 (40 + 2 * j2) 0) x4.2).bind fun x5 =>
        if x5.1 = 0 then
          some ((-12), x5.2)
        else
          (f_gl_isUnder (x5.2.1 (40 + 2 * j2) 0) a1 x5.2).bind fun x6 =>
          if x6.1 = 0 then
            some ((-12), x6.2)
          else
            (zld x6.2 37 50 (x6.2.1 (40 + 2 * j2) 0)).bind fun x7 =>
            some (x7, x6.2)
      else
        some ((-11), x4.2)
  else
    some ((-1), s)
noncomputable def f_g_count (a0 : Int32) (s : zSt) : Option (Int32 × zSt) :=
  if a0.toInt < 0 ∨ 4 < a0.toInt then
    some ((-1), s)
  else
    if a0 = 0 then
      some ((s.1 6 3), s)
    else
      if a0 = 1 then
        some ((s.1 13 1), s)
      else
        if a0 = 2 then
          some ((s.1 1 4), s)
        else
          if a0 = 3 then
            some ((s.1 36 1), s)
          else
            if a0 = 4 then
              some ((s.1 36 3), s)
            else
              none
noncomputable def f_m_within (a0 : Int64) (a1 : Int64) (a2 : Int64) (s : zSt) : Option (Int32 × zSt) :=
  if (lg_cmp a0 a1) < 0 then
    some (0, s)
  else
    if 0 < (lg_cmp a0 a2) then
      some (0, s)
    else
      some (1, s)
noncomputable def f_m_becomes_97 (v1 : Int32) (v2 : Int32) (v3 : Int32) (s : zSt) : Option (Int32 × zSt) :=
  (zst s 2 40 (s.1 0 5) v1).bind fun s8 =>
  (zst s8 3 40 (s8.1 0 5) v3).bind fun s9 =>
  (zst s9 4 40 (s9.1 0 5) v2).bind fun s10 =>
  (zst (zw (zw s10 0 5 ((s10.1 0 5) + 1)) 0 4 ((zw s10 0 5 ((s10.1 0 5) + 1)).1 0 5)) 1 8 v1 v2).bind fun s11 =>
  some (v3, s11)
noncomputable def f_m_becomes_26 : Nat → Int32 → Int32 → Int32 → Int32 → zSt → Option (Int32 × zSt)
  | 0, _, _, _, _, _ => none
  | n + 1, v1, v2, v3, v4, s =>
    if 40 ≤ v4 then
      f_m_becomes_97 v1 v2 v3 (zw s 0 5 ((s.1 0 5) - 1))
    else
      (zld s 2 40 v4).bind fun x2 =>
      (zst s 2 40 (v4 - 1) x2).bind fun s3 =>
      (zld s3 3 40 v4).bind fun x4 =>
      (zst s3 3 40 (v4 - 1) x4).bind fun s5 =>
      (zld s5 4 40 v4).bind fun x6 =>
      (zst s5 4 40 (v4 - 1) x6).bind fun s7 =>
      (f_m_becomes_26 n) v1 v2 v3 (v4 + 1) s7
noncomputable def f_m_becomes (a0 : Int32) (a1 : Int32) (s : zSt) : Option (Int32 × zSt) :=
  (zld s 1 8 a0).bind fun x1 =>
  if x1 = a1 then
    some (x1, s)
  else
    if (s.1 0 5) = 40 then
      f_m_becomes_26 zFu a0 a1 x1 (1) s
    else
      f_m_becomes_97 a0 a1 x1 s
noncomputable def f_m_undo (s : zSt) : Option (Int32 × zSt) :=
  if (s.1 0 5) = 0 then
    some ((-5), s)
  else
    (zld (zw s 0 5 ((s.1 0 5) - 1)) 2 40 ((zw s 0 5 ((s.1 0 5) - 1)).1 0 5)).bind fun x1 =>
    (zld (zw s 0 5 ((s.1 0 5) - 1)) 3 40 ((zw s 0 5 ((s.1 0 5) - 1)).1 0 5)).bind fun x2 =>
    (zst (zw s 0 5 ((s.1 0 5) - 1)) 1 8 x1 x2).bind fun s3 =>
    some ((s3.1 0 5), s3)
noncomputable def f_m_redo (s : zSt) : Option (Int32 × zSt) :=
  if (s.1 0 5) = (s.1 0 4) then
    some ((-5), s)
  else
    (zld s 2 40 (s.1 0 5)).bind fun x1 =>
    (zld s 4 40 (s.1 0 5)).bind fun x2 =>
    (zst s 1 8 x1 x2).bind fun s3 =>
    some ((((zw s3 0 5 ((s3.1 0 5) + 1)).1 0 4) - ((zw s3 0 5 ((s3.1 0 5) + 1)).1 0 5)), (zw s3 0 5 ((s3.1 0 5) + 1)))
noncomputable def f_m_isQuarter (a0 : Int32) (s : zSt) : Option (Int32 × zSt) :=
  (f_m_within (a0 : Int32).toInt64 (0) (31) s).bind fun x1 =>
  (zbo x1.1).bind fun v => some (v, x1.2)
noncomputable def f_m_isPlace (a0 : Int32) (s : zSt) : Option (Int32 × zSt) :=
  (f_m_within (a0 : Int32).toInt64 (0) (((s.1 0 8) - 1) : Int32).toInt64 s).bind fun x1 =>
  (zbo x1.1).bind fun v => some (v, x1.2)
noncomputable def f_m_isFt (a0 : Int32) (s : zSt) : Option (Int32 × zSt) :=
  if a0 < 0 then
    some (0, s)
  else
    if (zrem a0 100) < (a0 / 100) then
      some (0, s)
    else
      (f_m_isQuarter (zrem a0 100) s).bind fun x1 =>
      if x1.1 = 0 then
        some (0, x1.2)
      else
        some (1, x1.2)
noncomputable def f_m_heat (a0 : Int32) (a1 : Int32) (s : zSt) : Option (Int32 × zSt) :=
  (f_m_isQuarter a0 s).bind fun x1 =>
  if x1.1 = 0 then
    some ((-1), x1.2)
  else
    (f_m_within (a1 : Int32).toInt64 (0) (40) x1.2).bind fun x2 =>
    if x2.1 = 0 then
      some ((-1), x2.2)
    else
      (zld x2.2 5 32 a0).bind fun x3 =>
      (zst x2.2 5 32 a0 a1).bind fun s4 =>
      some (x3, s4)
noncomputable def f_m_isShelf (a0 : Int32) (s : zSt) : Option (Int32 × zSt) :=
  (f_m_within (a0 : Int32).toInt64 (0) (5) s).bind fun x1 =>
  (zbo x1.1).bind fun v => some (v, x1.2)
noncomputable def f_m_heats_157 (k86 : Int32 → Int32 → Int32 → Int32 → Int32 → zSt → Option (Int32 × zSt)) (v1 : Int32) (v2 : Int32) (v3 : Int32) (v4 : Int32) (w0 : Int32) (s : zSt) : Option (Int32 × zSt) :=
  if w0 = 0 then
    k86 v1 v2 v3 v4 w0 s
  else
    (zldl s 28 360 (((60 * v1) + v2) + v4)).bind fun x11 =>
    (zst s 5 32 ((v3 / 100) + v4) (x11 : Int64).toInt32).bind fun s12 =>
    k86 v1 v2 v3 (v4 + 1) w0 s12
noncomputable def f_m_heats_156 (k86 : Int32 → Int32 → Int32 → Int32 → Int32 → zSt → Option (Int32 × zSt)) (v1 : Int32) (v2 : Int32) (v3 : Int32) (v4 : Int32) (s : zSt) : Option (Int32 × zSt) :=
  f_m_heats_157 k86 v1 v2 v3 v4 (0) s
noncomputable def f_m_heats_86 : Nat → Int32 → Int32 → Int32 → Int32 → Int32 → zSt → Option (Int32 × zSt)
  | 0, _, _, _, _, _, _ => none
  | n + 1, v1, v2, v3, v4, v5, s =>
    if v5 = 0 then
      some (v4, s)
    else
      if (zrem v3 100) ≤ v4 then
        some (v4, s)
      else
        (zld s 27 6 v1).bind fun x7 =>
        if ((x7 - 1) - v4) < v2 then
          f_m_heats_156 (f_m_heats_86 n) v1 v2 v3 v4 s
        else
          (f_m_isQuarter ((v3 / 100) + v4) s).bind fun x8 =>
          if x8.1 = 0 then
            f_m_heats_156 (f_m_heats_86 n) v1 v2 v3 v4 x8.2
          else
            (zldl x8.2 28 360 (((60 * v1) + v2) + v4)).bind fun x9 =>
            (f_m_within x9 (0) (40) x8.2).bind fun x10 =>
            if x10.1 = 0 then
              f_m_heats_156 (f_m_heats_86 n) v1 v2 v3 v4 x10.2
            else
              f_m_heats_157 (f_m_heats_86 n) v1 v2 v3 v4 (1) x10.2
noncomputable def f_m_heats_61 (v1 : Int32) (v2 : Int32) (v3 : Int32) (s : zSt) : Option (Int32 × zSt) :=
  (zld s 26 6 v1).bind fun x6 =>
  if x6 = 50 then
    if v2 < 0 then
      f_m_heats_86 zFu v1 v2 v3 (0) (0) s
    else
      f_m_heats_86 zFu v1 v2 v3 (0) (1) s
  else
    f_m_heats_86 zFu v1 v2 v3 (0) (0) s
noncomputable def f_m_heats (a0 : Int32) (a1 : Int32) (a2 : Int32) (s : zSt) : Option (Int32 × zSt) :=
  (f_m_isShelf a0 s).bind fun x1 =>
  if x1.1 = 0 then
    some ((-1), x1.2)
  else
    if a2 < 0 then
      some ((-1), x1.2)
    else
      (f_m_isQuarter (a2 / 100) x1.2).bind fun x2 =>
      if x2.1 = 0 then
        some ((-1), x2.2)
      else
        (f_m_within ((zrem a2 100) : Int32).toInt64 (1) (32) x2.2).bind fun x3 =>
        if x3.1 = 0 then
          some ((-1), x3.2)
        else
          (zld x3.2 26 6 a0).bind fun x4 =>
          if x4 < 0 then
            f_m_heats_61 a0 a1 a2 x3.2
          else
            (zld x3.2 26 6 a0).bind fun x5 =>
            if x5 = 50 then
              f_m_heats_61 a0 a1 a2 x3.2
            else
              some ((-12), x3.2)
noncomputable def f_m_place (s : zSt) : Option (Int32 × zSt) :=
  if (s.1 0 8) = 4 then
    some ((-3), s)
  else
    some ((((zw s 0 8 ((s.1 0 8) + 1)).1 0 8) - 1), (zw s 0 8 ((s.1 0 8) + 1)))
noncomputable def f_m_flow_35 : Nat → Int32 → Int32 → Int32 → Int32 → zSt → Option (Int32 × zSt)
  | 0, _, _, _, _, _ => none
  | n + 1, v1, v2, v3, v4, s =>
    if (zrem v2 100) < v4 then
      some ((((zrem v2 100) - (v2 / 100)) + 1), s)
    else
      (zst s 7 128 ((32 * v1) + v4) v3).bind fun s4 =>
      (f_m_flow_35 n) v1 v2 v3 (v4 + 1) s4
noncomputable def f_m_flow (a0 : Int32) (a1 : Int32) (a2 : Int32) (s : zSt) : Option (Int32 × zSt) :=
  (f_m_isPlace a0 s).bind fun x1 =>
  if x1.1 = 0 then
    some ((-1), x1.2)
  else
    (f_m_isFt a1 x1.2).bind fun x2 =>
    if x2.1 = 0 then
      some ((-1), x2.2)
    else
      (f_m_within (a2 : Int32).toInt64 (0) (9) x2.2).bind fun x3 =>
      if x3.1 = 0 then
        some ((-1), x3.2)
      else
        f_m_flow_35 zFu a0 a1 a2 (a1 / 100) x3.2
noncomputable def f_m_stand_27 : Nat → Int32 → Int32 → Int32 → zSt → Option (Int32 × zSt)
  | 0, _, _, _, _ => none
  | n + 1, v1, v2, v3, s =>
    if (zrem v2 100) < v3 then
      some ((((zrem v2 100) - (v2 / 100)) + 1), s)
    else
      (zst s 6 32 v3 v1).bind fun s4 =>
      (f_m_stand_27 n) v1 v2 (v3 + 1) s4
noncomputable def f_m_stand (a0 : Int32) (a1 : Int32) (s : zSt) : Option (Int32 × zSt) :=
  if a0 = (-1) then
    (f_m_isFt a1 s).bind fun x1 =>
    if x1.1 = 0 then
      some ((-1), x1.2)
    else
      f_m_stand_27 zFu a0 a1 (a1 / 100) x1.2
  else
    (f_m_isPlace a0 s).bind fun x2 =>
    if x2.1 = 0 then
      some ((-1), x2.2)
    else
      (f_m_isFt a1 x2.2).bind fun x3 =>
      if x3.1 = 0 then
        some ((-1), x3.2)
      else
        f_m_stand_27 zFu a0 a1 (a1 / 100) x3.2
noncomputable def f_m_mayBe (a0 : Int32) (a1 : Int32) (s : zSt) : Option (Int32 × zSt) :=
  if a0.toInt < 0 ∨ 7 < a0.toInt then
    some (0, s)
  else
    if a0 = 0 then
      (f_m_within (a1 : Int32).toInt64 (0) (9) s).bind fun x1 =>
      (zbo x1.1).bind fun v => some (v, x1.2)
    else
      if a0 = 1 then
        (f_m_within (a1 : Int32).toInt64 (0) (9) s).bind fun x2 =>
        (zbo x2.1).bind fun v => some (v, x2.2)
      else
        if a0 = 2 then
          (f_m_within (a1 : Int32).toInt64 (1) (20) s).bind fun x3 =>
          (zbo x3.1).bind fun v => some (v, x3.2)
        else
          if a0 = 3 then
            (f_m_within (a1 : Int32).toInt64 (0) (50) s).bind fun x4 =>
            (zbo x4.1).bind fun v => some (v, x4.2)
          else
            if a0 = 4 then
              (f_m_within (a1 : Int32).toInt64 (0) (50) s).bind fun x5 =>
              (zbo x5.1).bind fun v => some (v, x5.2)
            else
              if a0 = 5 then
                (f_m_within (a1 : Int32).toInt64 (1) (32) s).bind fun x6 =>
                (zbo x6.1).bind fun v => some (v, x6.2)
              else
                if a0 = 6 then
                  (f_m_within (a1 : Int32).toInt64 (0) (12) s).bind fun x7 =>
                  (zbo x7.1).bind fun v => some (v, x7.2)
                else
                  if a0 = 7 then
                    (f_m_within (a1 : Int32).toInt64 (0) (9) s).bind fun x8 =>
                    (zbo x8.1).bind fun v => some (v, x8.2)
                  else
                    none
noncomputable def f_m_mend (a0 : Int32) (a1 : Int32) (s : zSt) : Option (Int32 × zSt) :=
  (f_m_mayBe a0 a1 s).bind fun x1 =>
  if x1.1 = 0 then
    some ((-1), x1.2)
  else
    (f_m_becomes a0 a1 x1.2).bind fun x2 =>
    some (x2.1, x2.2)
noncomputable def f_m_jugCost (s : zSt) : Option (Int32 × zSt) :=
  (zld s 1 8 0).bind fun x1 =>
  (zld s 1 8 1).bind fun x2 =>
  some (((3 * x1) + x2), s)
noncomputable def f_m_of (a0 : Int32) (s : zSt) : Option (Int32 × zSt) :=
  (f_m_within (a0 : Int32).toInt64 (0) (7) s).bind fun x1 =>
  if x1.1 = 0 then
    (f_m_within (a0 : Int32).toInt64 (8) (9) x1.2).bind fun x2 =>
    if x2.1 = 0 then
      if a0 < 1000 then
        (f_m_within (a0 : Int32).toInt64 (100) (299) x2.2).bind fun x3 =>
        if x3.1 = 0 then
          some ((-2000000000), x3.2)
        else
          (f_m_isQuarter (zrem a0 100) x3.2).bind fun x4 =>
          if x4.1 = 0 then
            some ((-2000000000), x4.2)
          else
            if 200 ≤ a0 then
              (zld x4.2 6 32 (a0 - 200)).bind fun x5 =>
              some (x5, x4.2)
            else
              (zld x4.2 5 32 (a0 - 100)).bind fun x6 =>
              some (x6, x4.2)
      else
        (f_m_isPlace ((a0 - 1000) / 100) x2.2).bind fun x7 =>
        if x7.1 = 0 then
          some ((-2000000000), x7.2)
        else
          (f_m_isQuarter (zrem a0 100) x7.2).bind fun x8 =>
          if x8.1 = 0 then
            some ((-2000000000), x8.2)
          else
            (zld x8.2 7 128 ((32 * ((a0 - 1000) / 100)) + (zrem a0 100))).bind fun x9 =>
            some (x9, x8.2)
    else
      if a0 = 8 then
        (f_m_jugCost x2.2).bind fun x10 =>
        some (x10.1, x10.2)
      else
        (f_m_jugCost x2.2).bind fun x11 =>
        (zld x11.2 1 8 2).bind fun x12 =>
        (zdv x11.1 x12).bind fun x13 =>
        some (x13, x11.2)
  else
    (zld x1.2 1 8 a0).bind fun x14 =>
    some (x14, x1.2)
noncomputable def f_m_feed (a0 : Int32) (s : zSt) : Option (Int32 × zSt) :=
  (f_m_within (a0 : Int32).toInt64 (0) (255) s).bind fun x1 =>
  if x1.1 = 0 then
    some ((-1), x1.2)
  else
    if (x1.2.1 0 11) = 120 then
      some ((-3), x1.2)
    else
      (zst x1.2 8 120 (x1.2.1 0 11) a0).bind fun s2 =>
      some (((zw s2 0 11 ((s2.1 0 11) + 1)).1 0 11), (zw s2 0 11 ((s2.1 0 11) + 1)))
noncomputable def f_m_byteAt (s : zSt) : Option (Int32 × zSt) :=
  if (s.1 0 16) ≤ (s.1 0 15) then
    some (0, s)
  else
    if 0 ≤ (s.1 0 14) then
      (zld s 9 240 ((s.1 0 14) + (s.1 0 15))).bind fun x1 =>
      some (x1, s)
    else
      (zld s 8 120 (s.1 0 15)).bind fun x2 =>
      some (x2, s)
noncomputable def f_m_wrong (s : zSt) : Option (Int32 × zSt) :=
  if 0 ≤ (s.1 0 17) then
    some (0, (zw s 0 17 (s.1 0 17)))
  else
    some (0, (zw s 0 17 (s.1 0 15)))
noncomputable def f_m_takes (a0 : Int32) (s : zSt) : Option (Int32 × zSt) :=
  if 0 ≤ (s.1 0 17) then
    some (0, s)
  else
    (f_m_byteAt s).bind fun x1 =>
    if x1.1 = a0 then
      some (1, (zw x1.2 0 15 ((x1.2.1 0 15) + 1)))
    else
      some (0, x1.2)
noncomputable def f_m_nameOf (a0 : Int32) (s : zSt) : Option (Int32 × zSt) :=
  if a0.toInt < 97 ∨ 116 < a0.toInt then
    some ((-1), s)
  else
    if a0 = 97 then
      some (3, s)
    else
      if a0 = 98 then
        some (7, s)
      else
        if a0 = 99 then
          some ((-1), s)
        else
          if a0 = 100 then
            some ((-1), s)
          else
            if a0 = 101 then
              some ((-1), s)
            else
              if a0 = 102 then
                some ((-1), s)
              else
                if a0 = 103 then
                  some (2, s)
                else
                  if a0 = 104 then
                    some (4, s)
                  else
                    if a0 = 105 then
                      some ((-1), s)
                    else
                      if a0 = 106 then
                        some ((-1), s)
                      else
                        if a0 = 107 then
                          some ((-1), s)
                        else
                          if a0 = 108 then
                            some (0, s)
                          else
                            if a0 = 109 then
                              some ((-1), s)
                            else
                              if a0 = 110 then
                                some ((-1), s)
                              else
                                if a0 = 111 then
                                  some ((-1), s)
                                else
                                  if a0 = 112 then
                                    some (6, s)
                                  else
                                    if a0 = 113 then
                                      some (8, s)
                                    else
                                      if a0 = 114 then
                                        some ((-1), s)
                                      else
                                        if a0 = 115 then
                                          some (1, s)
                                        else
                                          if a0 = 116 then
                                            some (5, s)
                                          else
                                            none
noncomputable def f_m_either_5 (c_m_both : zSt → Option (Int32 × zSt)) : Nat → Int32 → zSt → Option (Int32 × zSt)
  | 0, _, _ => none
  | n + 1, v1, s =>
    (f_m_takes (124) s).bind fun x2 =>
    if x2.1 = 0 then
      some (v1, x2.2)
    else
      (c_m_both x2.2).bind fun x3 =>
      if v1 = 0 then
        if x3.1 = 0 then
          (f_m_either_5 c_m_both n) (0) x3.2
        else
          (f_m_either_5 c_m_both n) (1) x3.2
      else
        (f_m_either_5 c_m_both n) (1) x3.2
noncomputable def b_m_either (c_m_both : zSt → Option (Int32 × zSt)) (s : zSt) : Option (Int32 × zSt) :=
  (c_m_both s).bind fun x1 =>
  f_m_either_5 c_m_both zFu x1.1 x1.2
noncomputable def f_m_both_5 (c_m_compared : zSt → Option (Int32 × zSt)) : Nat → Int32 → zSt → Option (Int32 × zSt)
  | 0, _, _ => none
  | n + 1, v1, s =>
    (f_m_takes (38) s).bind fun x2 =>
    if x2.1 = 0 then
      some (v1, x2.2)
    else
      (c_m_compared x2.2).bind fun x3 =>
      if v1 = 0 then
        (f_m_both_5 c_m_compared n) (0) x3.2
      else
        if x3.1 = 0 then
          (f_m_both_5 c_m_compared n) (0) x3.2
        else
          (f_m_both_5 c_m_compared n) (1) x3.2
noncomputable def b_m_both (c_m_compared : zSt → Option (Int32 × zSt)) (s : zSt) : Option (Int32 × zSt) :=
  (c_m_compared s).bind fun x1 =>
  f_m_both_5 c_m_compared zFu x1.1 x1.2
noncomputable def f_m_compared_37 (c_m_sums : zSt → Option (Int32 × zSt)) (v1 : Int32) (v2 : Int32) (s : zSt) : Option (Int32 × zSt) :=
  (c_m_sums (zw s 0 15 ((s.1 0 15) + 1))).bind fun x3 =>
  if v2 = 60 then
    if x3.1 ≤ v1 then
      some (0, x3.2)
    else
      some (1, x3.2)
  else
    if v2 = 61 then
      if v1 = x3.1 then
        some (1, x3.2)
      else
        some (0, x3.2)
    else
      if v1 ≤ x3.1 then
        some (0, x3.2)
      else
        some (1, x3.2)
noncomputable def b_m_compared (c_m_sums : zSt → Option (Int32 × zSt)) (s : zSt) : Option (Int32 × zSt) :=
  (c_m_sums s).bind fun x1 =>
  (f_m_byteAt x1.2).bind fun x2 =>
  if 0 ≤ (x2.2.1 0 17) then
    some (x1.1, x2.2)
  else
    if x2.1 = 60 then
      f_m_compared_37 c_m_sums x1.1 x2.1 x2.2
    else
      if x2.1 = 61 then
        f_m_compared_37 c_m_sums x1.1 x2.1 x2.2
      else
        if x2.1 = 62 then
          f_m_compared_37 c_m_sums x1.1 x2.1 x2.2
        else
          some (x1.1, x2.2)
noncomputable def f_m_sums_44 (c_m_product : zSt → Option (Int32 × zSt)) (k5 : Int32 → zSt → Option (Int32 × zSt)) (v1 : Int32) (w0 : Int32) (s : zSt) : Option (Int32 × zSt) :=
  (c_m_product (zw s 0 15 ((s.1 0 15) + 1))).bind fun x5 =>
  if w0 = 0 then
    k5 (v1 - x5.1) x5.2
  else
    k5 (v1 + x5.1) x5.2
noncomputable def f_m_sums_30 (c_m_product : zSt → Option (Int32 × zSt)) (k5 : Int32 → zSt → Option (Int32 × zSt)) (v1 : Int32) (s : zSt) : Option (Int32 × zSt) :=
  (f_m_byteAt s).bind fun x4 =>
  if x4.1 = 43 then
    f_m_sums_44 c_m_product k5 v1 (1) x4.2
  else
    f_m_sums_44 c_m_product k5 v1 (0) x4.2
noncomputable def f_m_sums_5 (c_m_product : zSt → Option (Int32 × zSt)) : Nat → Int32 → zSt → Option (Int32 × zSt)
  | 0, _, _ => none
  | n + 1, v1, s =>
    if 0 ≤ (s.1 0 17) then
      some (v1, s)
    else
      (f_m_byteAt s).bind fun x2 =>
      if x2.1 = 43 then
        f_m_sums_30 c_m_product (f_m_sums_5 c_m_product n) v1 x2.2
      else
        (f_m_byteAt x2.2).bind fun x3 =>
        if x3.1 = 45 then
          f_m_sums_30 c_m_product (f_m_sums_5 c_m_product n) v1 x3.2
        else
          some (v1, x3.2)
noncomputable def b_m_sums (c_m_product : zSt → Option (Int32 × zSt)) (s : zSt) : Option (Int32 × zSt) :=
  (c_m_product s).bind fun x1 =>
  f_m_sums_5 c_m_product zFu x1.1 x1.2
noncomputable def f_m_product_35 (c_m_one : zSt → Option (Int32 × zSt)) (k10 : Int32 → Int32 → zSt → Option (Int32 × zSt)) (v1 : Int32) (v2 : Int32) (s : zSt) : Option (Int32 × zSt) :=
  (c_m_one (zw s 0 15 ((s.1 0 15) + 1))).bind fun x3 =>
  if v2 = 42 then
    (f_m_byteAt x3.2).bind fun x4 =>
    k10 (v1 * x3.1) x4.1 x4.2
  else
    if x3.1 = 0 then
      (f_m_byteAt x3.2).bind fun x5 =>
      k10 (0) x5.1 x5.2
    else
      if v2 = 47 then
        (zdv v1 x3.1).bind fun x6 =>
        (f_m_byteAt x3.2).bind fun x7 =>
        k10 x6 x7.1 x7.2
      else
        (zrv v1 x3.1).bind fun x8 =>
        (f_m_byteAt x3.2).bind fun x9 =>
        k10 x8 x9.1 x9.2
noncomputable def f_m_product_10 (c_m_one : zSt → Option (Int32 × zSt)) : Nat → Int32 → Int32 → zSt → Option (Int32 × zSt)
  | 0, _, _, _ => none
  | n + 1, v1, v2, s =>
    if 0 ≤ (s.1 0 17) then
      some (v1, s)
    else
      if v2 = 42 then
        f_m_product_35 c_m_one (f_m_product_10 c_m_one n) v1 v2 s
      else
        if v2 = 47 then
          f_m_product_35 c_m_one (f_m_product_10 c_m_one n) v1 v2 s
        else
          if v2 = 37 then
            f_m_product_35 c_m_one (f_m_product_10 c_m_one n) v1 v2 s
          else
            some (v1, s)
noncomputable def b_m_product (c_m_one : zSt → Option (Int32 × zSt)) (s : zSt) : Option (Int32 × zSt) :=
  (c_m_one s).bind fun x1 =>
  (f_m_byteAt x1.2).bind fun x2 =>
  f_m_product_10 c_m_one zFu x1.1 x2.1 x2.2
noncomputable def f_m_one_104 (c_m_either : zSt → Option (Int32 × zSt)) (c_m_one : zSt → Option (Int32 × zSt)) (v1 : Int32) (v2 : Int32) (s : zSt) : Option (Int32 × zSt) :=
  if v1 = 40 then
    some (v2, (zw s 0 18 ((s.1 0 18) - 1)))
  else
    if v1 = 45 then
      some ((-v2), (zw s 0 18 ((s.1 0 18) - 1)))
    else
      if v2 = 0 then
        some (1, (zw s 0 18 ((s.1 0 18) - 1)))
      else
        some (0, (zw s 0 18 ((s.1 0 18) - 1)))
noncomputable def f_m_one_83 (c_m_either : zSt → Option (Int32 × zSt)) (c_m_one : zSt → Option (Int32 × zSt)) (v1 : Int32) (w0 : Int32) (s : zSt) : Option (Int32 × zSt) :=
  if v1 = 40 then
    (f_m_takes (41) s).bind fun x13 =>
    if x13.1 = 0 then
      (f_m_wrong x13.2).bind fun x14 =>
      some (x14.1, x14.2)
    else
      f_m_one_104 c_m_either c_m_one v1 w0 x13.2
  else
    f_m_one_104 c_m_either c_m_one v1 w0 s
noncomputable def f_m_one_32 (c_m_either : zSt → Option (Int32 × zSt)) (c_m_one : zSt → Option (Int32 × zSt)) (v1 : Int32) (s : zSt) : Option (Int32 × zSt) :=
  if (s.1 0 18) = 6 then
    (f_m_wrong s).bind fun x4 =>
    some (x4.1, x4.2)
  else
    if v1 = 40 then
      (c_m_either (zw (zw s 0 18 ((s.1 0 18) + 1)) 0 15 (((zw s 0 18 ((s.1 0 18) + 1)).1 0 15) + 1))).bind fun x5 =>
      f_m_one_83 c_m_either c_m_one v1 x5.1 x5.2
    else
      (c_m_one (zw (zw s 0 18 ((s.1 0 18) + 1)) 0 15 (((zw s 0 18 ((s.1 0 18) + 1)).1 0 15) + 1))).bind fun x6 =>
      f_m_one_83 c_m_either c_m_one v1 x6.1 x6.2
noncomputable def f_m_one_176 (c_m_either : zSt → Option (Int32 × zSt)) (c_m_one : zSt → Option (Int32 × zSt)) : Nat → Int32 → Int32 → zSt → Option (Int32 × zSt)
  | 0, _, _, _ => none
  | n + 1, v3, v4, s =>
    if 4 ≤ v4 then
      if v4 = 0 then
        (f_m_wrong s).bind fun x7 =>
        some (x7.1, x7.2)
      else
        some (v3, s)
    else
      (f_m_byteAt s).bind fun x8 =>
      if x8.1 < 48 then
        if v4 = 0 then
          (f_m_wrong x8.2).bind fun x9 =>
          some (x9.1, x9.2)
        else
          some (v3, x8.2)
      else
        (f_m_byteAt x8.2).bind fun x10 =>
        if 57 < x10.1 then
          if v4 = 0 then
            (f_m_wrong x10.2).bind fun x11 =>
            some (x11.1, x11.2)
          else
            some (v3, x10.2)
        else
          (f_m_byteAt x10.2).bind fun x12 =>
          (f_m_one_176 c_m_either c_m_one n) (((10 * v3) + x12.1) - 48) (v4 + 1) (zw x12.2 0 15 ((x12.2.1 0 15) + 1))
noncomputable def b_m_one (c_m_either : zSt → Option (Int32 × zSt)) (c_m_one : zSt → Option (Int32 × zSt)) (s : zSt) : Option (Int32 × zSt) :=
  if (s.1 0 17) < 0 then
    (f_m_byteAt s).bind fun x1 =>
    if x1.1 = 33 then
      f_m_one_32 c_m_either c_m_one x1.1 x1.2
    else
      if x1.1 = 45 then
        f_m_one_32 c_m_either c_m_one x1.1 x1.2
      else
        if x1.1 = 40 then
          f_m_one_32 c_m_either c_m_one x1.1 x1.2
        else
          (f_m_nameOf x1.1 x1.2).bind fun x2 =>
          if x2.1 < 0 then
            f_m_one_176 c_m_either c_m_one zFu (0) (0) x2.2
          else
            (zld (zw x2.2 0 15 ((x2.2.1 0 15) + 1)) 11 9 x2.1).bind fun x3 =>
            some (x3, (zw x2.2 0 15 ((x2.2.1 0 15) + 1)))
  else
    some (0, s)
noncomputable def F_m : Nat → Nat → zSt → Option (Int32 × zSt)
  | 0, _, _ => none
  | n + 1, 0, s => b_m_either (F_m n 1) s
  | n + 1, 1, s => b_m_both (F_m n 2) s
  | n + 1, 2, s => b_m_compared (F_m n 3) s
  | n + 1, 3, s => b_m_sums (F_m n 4) s
  | n + 1, 4, s => b_m_product (F_m n 5) s
  | n + 1, _ + 5, s => b_m_one (F_m n 0) (F_m n 5) s
noncomputable def f_m_either (s : zSt) : Option (Int32 × zSt) := F_m 70 0 s
noncomputable def f_m_workOut_74 (k33 : Int32 → Int32 → Int32 → zSt → Option (Int32 × zSt)) (v3 : Int32) (v4 : Int32) (v6 : Int32) (v7 : Int32) (s : zSt) : Option (Int32 × zSt) :=
  if 0 ≤ (s.1 0 17) then
    (f_m_takes (59) s).bind fun x4 =>
    k33 v3 v4 x4.1 x4.2
  else
    if v7 = 0 then
      (f_m_takes (59) s).bind fun x5 =>
      k33 v3 v4 x5.1 x5.2
    else
      if v3 = 0 then
        (f_m_takes (59) s).bind fun x6 =>
        k33 (1) v6 x6.1 x6.2
      else
        (f_m_takes (59) s).bind fun x7 =>
        k33 v3 v4 x7.1 x7.2
noncomputable def f_m_workOut_66 (k33 : Int32 → Int32 → Int32 → zSt → Option (Int32 × zSt)) (v3 : Int32) (v4 : Int32) (w0 : Int32) (s : zSt) : Option (Int32 × zSt) :=
  (f_m_either s).bind fun x8 =>
  f_m_workOut_74 k33 v3 v4 x8.1 w0 x8.2
noncomputable def f_m_workOut_33 : Nat → Int32 → Int32 → Int32 → zSt → Option (Int32 × zSt)
  | 0, _, _, _, _ => none
  | n + 1, v3, v4, v5, s =>
    if v5 = 0 then
      if 0 ≤ (s.1 0 17) then
        some (v4, s)
      else
        if (s.1 0 16) ≤ (s.1 0 15) then
          some (v4, s)
        else
          (f_m_wrong s).bind fun x1 =>
          some (x1.1, x1.2)
    else
      (f_m_either s).bind fun x2 =>
      (f_m_takes (63) x2.2).bind fun x3 =>
      if x3.1 = 0 then
        f_m_workOut_74 (f_m_workOut_33 n) v3 v4 x2.1 (1) x3.2
      else
        if x2.1 = 0 then
          f_m_workOut_66 (f_m_workOut_33 n) v3 v4 (0) x3.2
        else
          f_m_workOut_66 (f_m_workOut_33 n) v3 v4 (1) x3.2
noncomputable def f_m_workOut (a0 : Int32) (a1 : Int32) (s : zSt) : Option (Int32 × zSt) :=
  f_m_workOut_33 zFu (0) (0) (1) (zw (zw (zw (zw (zw s 0 14 a0) 0 15 0) 0 16 a1) 0 17 (-1)) 0 18 0)
noncomputable def f_m_law_50 : Nat → Int32 → Int32 → Int32 → zSt → Option (Int32 × zSt)
  | 0, _, _, _, _ => none
  | n + 1, v1, v3, v4, s =>
    if v3 ≤ v4 then
      (zst s 10 2 v1 v3).bind fun s3 =>
      some (1, s3)
    else
      (zld s 8 120 v4).bind fun x4 =>
      (zst s 9 240 ((120 * v1) + v4) x4).bind fun s5 =>
      (f_m_law_50 n) v1 v3 (v4 + 1) s5
noncomputable def f_m_law (a0 : Int32) (s : zSt) : Option (Int32 × zSt) :=
  (f_m_within (a0 : Int32).toInt64 (0) (1) s).bind fun x1 =>
  if x1.1 = 0 then
    some ((-1), x1.2)
  else
    (f_m_workOut (-1) (x1.2.1 0 11) x1.2).bind fun x2 =>
    if ((zw x2.2 0 11 0).1 0 17) < 0 then
      f_m_law_50 zFu a0 (x2.2.1 0 11) (0) (zw x2.2 0 11 0)
    else
      some (((-100) - ((zw x2.2 0 11 0).1 0 17)), (zw x2.2 0 11 0))
noncomputable def f_m_namesAll (a0 : Int32) (a1 : Int32) (a2 : Int32) (s : zSt) : Option (zSt) :=
  (zld s 1 8 0).bind fun x1 =>
  (zst s 11 9 0 x1).bind fun s2 =>
  (zld s2 1 8 1).bind fun x3 =>
  (zst s2 11 9 1 x3).bind fun s4 =>
  (zld s4 1 8 2).bind fun x5 =>
  (zst s4 11 9 2 x5).bind fun s6 =>
  (zst s6 11 9 3 a1).bind fun s7 =>
  (zld s7 5 32 a0).bind fun x8 =>
  (zst s7 11 9 4 x8).bind fun s9 =>
  (zst s9 11 9 5 a2).bind fun s10 =>
  (zld s10 1 8 3).bind fun x11 =>
  (zst s10 11 9 6 x11).bind fun s12 =>
  (zld s12 1 8 4).bind fun x13 =>
  (zst s12 11 9 7 x13).bind fun s14 =>
  (zst s14 11 9 8 a0).bind fun s15 =>
  some s15
noncomputable def f_m_heldTo (a0 : Int32) (a1 : Int32) (s : zSt) : Option (Int32 × zSt) :=
  if 0 ≤ a0 then
    if a0 ≤ a1 then
      some (a0, s)
    else
      some (a1, s)
  else
    some (0, s)
noncomputable def f_m_tasteOf (a0 : Int32) (a1 : Int32) (s : zSt) : Option (Int32 × zSt) :=
  (zld s 1 8 5).bind fun x1 =>
  if a1 < x1 then
    (zld s 1 8 0).bind fun x2 =>
    (zld s 1 8 1).bind fun x3 =>
    (zld s 1 8 2).bind fun x4 =>
    (zld s 10 2 0).bind fun x5 =>
    if x5 < 0 then
      (f_m_heldTo ((x2 + x3) - (x4 / 3)) (9) s).bind fun x6 =>
      some (x6.1, x6.2)
    else
      (f_m_namesAll a0 a1 (0) s).bind fun x7 =>
      (zld x7 10 2 0).bind fun x8 =>
      (f_m_workOut (0) x8 x7).bind fun x9 =>
      (f_m_heldTo x9.1 (9) x9.2).bind fun x10 =>
      some (x10.1, x10.2)
  else
    some (0, s)
noncomputable def f_m_buysOf (a0 : Int32) (a1 : Int32) (s : zSt) : Option (Int32 × zSt) :=
  (f_m_tasteOf a0 a1 s).bind fun x1 =>
  (zld x1.2 5 32 a0).bind fun x2 =>
  (zld x1.2 1 8 3).bind fun x3 =>
  (zld x1.2 1 8 4).bind fun x4 =>
  (zld x1.2 10 2 1).bind fun x5 =>
  if x5 < 0 then
    (f_m_heldTo (((x1.1 + (x2 / 5)) - (x3 / 4)) + (x4 / 4)) (12) x1.2).bind fun x6 =>
    some (x6.1, x6.2)
  else
    (f_m_namesAll a0 a1 x1.1 x1.2).bind fun x7 =>
    (zld x7 10 2 1).bind fun x8 =>
    (f_m_workOut (120) x8 x7).bind fun x9 =>
    (f_m_heldTo x9.1 (12) x9.2).bind fun x10 =>
    some (x10.1, x10.2)
noncomputable def f_m_taste (a0 : Int32) (a1 : Int32) (a2 : Int32) (s : zSt) : Option (Int32 × zSt) :=
  (f_m_isQuarter a0 s).bind fun x1 =>
  if x1.1 = 0 then
    some ((-1), x1.2)
  else
    (f_m_within (a1 : Int32).toInt64 (0) (32) x1.2).bind fun x2 =>
    if x2.1 = 0 then
      some ((-1), x2.2)
    else
      (f_m_within (a2 : Int32).toInt64 (0) (1) x2.2).bind fun x3 =>
      if x3.1 = 0 then
        some ((-1), x3.2)
      else
        if a2 = 0 then
          (f_m_tasteOf a0 a1 x3.2).bind fun x4 =>
          some (x4.1, x4.2)
        else
          (f_m_buysOf a0 a1 x3.2).bind fun x5 =>
          some (x5.1, x5.2)
noncomputable def f_m_draws (s : zSt) : Option (Int32 × zSt) :=
  some ((zrem (zush ((zw s 0 21 (((s.1 0 21) * 1103515245) + 12345)).1 0 21) 8) 12), (zw s 0 21 (((s.1 0 21) * 1103515245) + 12345)))
noncomputable def f_m_makesOne (s : zSt) : Option (zSt) :=
  if (s.1 0 22) = 0 then
    (zld s 1 8 7).bind fun x1 =>
    if x1 ≤ (s.1 0 24) then
      some s
    else
      (zld (zw s 0 24 ((s.1 0 24) + 1)) 1 8 2).bind fun x2 =>
      some (zw (zw (zw s 0 24 ((s.1 0 24) + 1)) 0 22 x2) 0 23 0)
  else
    some s
noncomputable def f_m_passersIn (a0 : Int32) (s : zSt) : Option (Int32 × zSt) :=
  (zld s 6 32 a0).bind fun x1 =>
  (f_m_isPlace x1 s).bind fun x2 =>
  if x2.1 = 0 then
    some (0, x2.2)
  else
    (zld x2.2 6 32 a0).bind fun x3 =>
    (zld x2.2 7 128 ((32 * x3) + a0)).bind fun x4 =>
    some (x4, x2.2)
noncomputable def f_m_quarterGoes_122 (s : zSt) : Option (zSt) :=
  if (s.1 0 22) ≤ 0 then
    some s
  else
    (zld s 1 8 5).bind fun x11 =>
    if ((s.1 0 23) + 1) < x11 then
      some (zw s 0 23 ((s.1 0 23) + 1))
    else
      (f_m_makesOne (zw (zw s 0 26 ((s.1 0 26) + (s.1 0 22))) 0 22 0)).bind fun x12 =>
      some x12
noncomputable def f_m_quarterGoes_15 : Nat → Int32 → Int32 → Int32 → zSt → Option (zSt)
  | 0, _, _, _, _ => none
  | n + 1, v1, v2, v3, s =>
    if v2 ≤ v3 then
      (f_m_draws s).bind fun x3 =>
      (zld x3.2 1 8 6).bind fun x4 =>
      if x4 ≤ x3.1 then
        f_m_quarterGoes_122 x3.2
      else
        if (x3.2.1 0 22) ≤ 0 then
          f_m_quarterGoes_122 x3.2
        else
          (f_m_makesOne (zw (zw x3.2 0 22 ((x3.2.1 0 22) - 1)) 0 25 (((zw x3.2 0 22 ((x3.2.1 0 22) - 1)).1 0 25) + 1))).bind fun x5 =>
          f_m_quarterGoes_122 x5
    else
      (f_m_draws s).bind fun x6 =>
      if (x6.2.1 0 22) ≤ 0 then
        (f_m_quarterGoes_15 n) v1 v2 (v3 + 1) x6.2
      else
        (f_m_buysOf v1 (x6.2.1 0 23) x6.2).bind fun x7 =>
        if x7.1 ≤ x6.1 then
          (f_m_quarterGoes_15 n) v1 v2 (v3 + 1) x7.2
        else
          (zld (zw x7.2 0 22 ((x7.2.1 0 22) - 1)) 12 32 v1).bind fun x8 =>
          (zst (zw x7.2 0 22 ((x7.2.1 0 22) - 1)) 12 32 v1 (x8 + 1)).bind fun s9 =>
          (f_m_makesOne s9).bind fun x10 =>
          (f_m_quarterGoes_15 n) v1 v2 (v3 + 1) x10
noncomputable def f_m_quarterGoes (a0 : Int32) (s : zSt) : Option (zSt) :=
  (zst s 12 32 a0 0).bind fun s1 =>
  (f_m_passersIn a0 s1).bind fun x2 =>
  f_m_quarterGoes_15 zFu a0 x2.1 (0) x2.2
noncomputable def f_m_dayGoes_33 : Nat → Int32 → Int32 → zSt → Option (Int32 × zSt)
  | 0, _, _, _ => none
  | n + 1, v2, v3, s =>
    if 32 ≤ v3 then
      some (v2, s)
    else
      (f_m_quarterGoes v3 s).bind fun x2 =>
      (zld x2 12 32 v3).bind fun x3 =>
      (f_m_dayGoes_33 n) (v2 + x3) (v3 + 1) x2
noncomputable def f_m_dayGoes (a0 : Int32) (s : zSt) : Option (Int32 × zSt) :=
  (f_m_makesOne (zw (zw (zw (zw (zw s 0 21 a0) 0 22 0) 0 24 0) 0 25 0) 0 26 0)).bind fun x1 =>
  f_m_dayGoes_33 zFu (0) (0) x1
noncomputable def f_m_gainOf (a0 : Int32) (s : zSt) : Option (Int32 × zSt) :=
  (f_m_dayGoes a0 s).bind fun x1 =>
  (zld x1.2 1 8 3).bind fun x2 =>
  (f_m_jugCost x1.2).bind fun x3 =>
  some (((x1.1 * x2) - ((x1.2.1 0 24) * x3.1)), x3.2)
noncomputable def f_m_day_119 : Nat → Int32 → Int32 → zSt → Option (Int32 × zSt)
  | 0, _, _, _ => none
  | n + 1, v2, v3, s =>
    if 32 ≤ v3 then
      some (v2, s)
    else
      (zld s 12 32 v3).bind fun x14 =>
      (zst s 14 32 v3 x14).bind fun s15 =>
      (f_m_day_119 n) v2 (v3 + 1) s15
noncomputable def f_m_day (a0 : Int32) (s : zSt) : Option (Int32 × zSt) :=
  (f_m_dayGoes a0 s).bind fun x1 =>
  (zld (zw x1.2 0 27 1) 1 8 3).bind fun x2 =>
  (zst (zw (zw x1.2 0 27 1) 0 30 x2) 13 8 0 x1.1).bind fun s3 =>
  (zst s3 13 8 1 (x1.1 * (s3.1 0 30))).bind fun s4 =>
  (zst s4 13 8 2 (s4.1 0 25)).bind fun s5 =>
  (zst s5 13 8 3 (s5.1 0 26)).bind fun s6 =>
  (zst s6 13 8 4 (s6.1 0 22)).bind fun s7 =>
  (zst s7 13 8 5 (s7.1 0 24)).bind fun s8 =>
  (f_m_jugCost s8).bind fun x9 =>
  (zst x9.2 13 8 6 ((s8.1 0 24) * x9.1)).bind fun s10 =>
  (zld s10 13 8 1).bind fun x11 =>
  (zld s10 13 8 6).bind fun x12 =>
  (zst s10 13 8 7 (x11 - x12)).bind fun s13 =>
  f_m_day_119 zFu x1.1 (0) s13
noncomputable def f_m_told_49 (v1 : Int32) (s : zSt) : Option (Int32 × zSt) :=
  if (s.1 0 27) = 0 then
    some ((-5), s)
  else
    if 8 ≤ v1 then
      if 200 ≤ v1 then
        (zld s 14 32 (v1 - 200)).bind fun x4 =>
        some ((x4 * (s.1 0 30)), s)
      else
        (zld s 14 32 (v1 - 100)).bind fun x5 =>
        some (x5, s)
    else
      (zld s 13 8 v1).bind fun x6 =>
      some (x6, s)
noncomputable def f_m_told_29 (v1 : Int32) (w0 : Int32) (s : zSt) : Option (Int32 × zSt) :=
  (f_m_within (v1 : Int32).toInt64 (0) (7) s).bind fun x3 =>
  if x3.1 = 0 then
    if w0 = 0 then
      some ((-2000000000), x3.2)
    else
      f_m_told_49 v1 x3.2
  else
    f_m_told_49 v1 x3.2
noncomputable def f_m_told_28 (v1 : Int32) (s : zSt) : Option (Int32 × zSt) :=
  f_m_told_29 v1 (0) s
noncomputable def f_m_told (a0 : Int32) (s : zSt) : Option (Int32 × zSt) :=
  (f_m_within (a0 : Int32).toInt64 (100) (299) s).bind fun x1 =>
  if x1.1 = 0 then
    f_m_told_28 a0 x1.2
  else
    (f_m_isQuarter (zrem a0 100) x1.2).bind fun x2 =>
    if x2.1 = 0 then
      f_m_told_28 a0 x2.2
    else
      f_m_told_29 a0 (1) x2.2
noncomputable def f_m_best_53 (k40 : Int32 → Int32 → Int32 → Int32 → Int32 → Int32 → Int32 → zSt → Option (Int32 × zSt)) (v1 : Int32) (v2 : Int32) (v3 : Int32) (v4 : Int32) (v5 : Int32) (v6 : Int32) (v7 : Int32) (w0 : Int32) (w1 : Int32) (s : zSt) : Option (Int32 × zSt) :=
  if w0 < w1 then
    (zst s 1 8 v3 v4).bind fun s3 =>
    some (v5, s3)
  else
    (zst s 1 8 v3 v7).bind fun s4 =>
    (f_m_gainOf v1 s4).bind fun x5 =>
    if v5 < 0 then
      k40 v1 v2 v3 v4 v7 x5.1 (v7 + 1) x5.2
    else
      if x5.1 ≤ v6 then
        k40 v1 v2 v3 v4 v5 v6 (v7 + 1) x5.2
      else
        k40 v1 v2 v3 v4 v7 x5.1 (v7 + 1) x5.2
noncomputable def f_m_best_40 : Nat → Int32 → Int32 → Int32 → Int32 → Int32 → Int32 → Int32 → zSt → Option (Int32 × zSt)
  | 0, _, _, _, _, _, _, _, _ => none
  | n + 1, v1, v2, v3, v4, v5, v6, v7, s =>
    if v2 = 0 then
      f_m_best_53 (f_m_best_40 n) v1 v2 v3 v4 v5 v6 v7 (50) v7 s
    else
      f_m_best_53 (f_m_best_40 n) v1 v2 v3 v4 v5 v6 v7 (9) v7 s
noncomputable def f_m_best_22 (v1 : Int32) (v2 : Int32) (w0 : Int32) (s : zSt) : Option (Int32 × zSt) :=
  (zld s 1 8 w0).bind fun x2 =>
  f_m_best_40 zFu v1 v2 w0 x2 (-1) (0) (0) s
noncomputable def f_m_best (a0 : Int32) (a1 : Int32) (s : zSt) : Option (Int32 × zSt) :=
  (f_m_within (a1 : Int32).toInt64 (0) (1) s).bind fun x1 =>
  if x1.1 = 0 then
    some ((-1), x1.2)
  else
    if a1 = 0 then
      f_m_best_22 a0 a1 (3) x1.2
    else
      f_m_best_22 a0 a1 (7) x1.2
noncomputable def f_m_passesAt (a0 : Int32) (a1 : Int32) (s : zSt) : Option (Int32 × zSt) :=
  if 0 ≤ a1 then
    (zld s 7 128 ((32 * a1) + a0)).bind fun x1 =>
    some (x1, s)
  else
    some (0, s)
noncomputable def f_m_mayFollow (a0 : Int32) (a1 : Int32) (s : zSt) : Option (Int32 × zSt) :=
  if a0 < 0 then
    some (1, s)
  else
    if a1 < 0 then
      some (1, s)
    else
      if a0 = a1 then
        some (1, s)
      else
        some (0, s)
noncomputable def f_m_passesBy (a0 : Int32) (a1 : Int32) (s : zSt) : Option (Int32 × zSt) :=
  (f_m_passesAt a0 a1 s).bind fun x1 =>
  (zld x1.2 15 165 (((5 * (a0 + 1)) + a1) + 1)).bind fun x2 =>
  some ((x1.1 + x2), x1.2)
noncomputable def f_m_where_112 (k85 : Int32 → Int32 → Int32 → zSt → Option (Int32 × zSt)) (k97 : Int32 → Int32 → Int32 → Int32 → zSt → Option (Int32 × zSt)) : Nat → Int32 → Int32 → Int32 → Int32 → Int32 → Int32 → zSt → Option (Int32 × zSt)
  | 0, _, _, _, _, _, _, _ => none
  | n + 1, v1, v2, v4, v5, v6, v7, s =>
    if (s.1 0 8) ≤ v7 then
      (zst s 15 165 (((5 * v4) + v5) + 1) v6).bind fun s8 =>
      k97 v1 v2 v4 (v5 + 1) s8
    else
      (f_m_mayFollow v5 v7 s).bind fun x9 =>
      if x9.1 = 0 then
        if 0 ≤ v6 then
          (f_m_where_112 k85 k97 n) v1 v2 v4 v5 v6 (v7 + 1) x9.2
        else
          (f_m_where_112 k85 k97 n) v1 v2 v4 v5 (0) (v7 + 1) x9.2
      else
        (f_m_passesBy v4 v7 x9.2).bind fun x10 =>
        if x10.1 ≤ v6 then
          (f_m_where_112 k85 k97 n) v1 v2 v4 v5 v6 (v7 + 1) x10.2
        else
          (f_m_where_112 k85 k97 n) v1 v2 v4 v5 x10.1 (v7 + 1) x10.2
noncomputable def f_m_where_97 (k85 : Int32 → Int32 → Int32 → zSt → Option (Int32 × zSt)) : Nat → Int32 → Int32 → Int32 → Int32 → zSt → Option (Int32 × zSt)
  | 0, _, _, _, _, _ => none
  | n + 1, v1, v2, v4, v5, s =>
    if (s.1 0 8) ≤ v5 then
      k85 v1 v2 (v4 + (-1)) s
    else
      f_m_where_112 k85 (f_m_where_97 k85 n) zFu v1 v2 v4 v5 (0) (-1) s
noncomputable def f_m_where_230 (k221 : Int32 → Int32 → Int32 → zSt → Option (Int32 × zSt)) : Nat → Int32 → Int32 → Int32 → Int32 → zSt → Option (Int32 × zSt)
  | 0, _, _, _, _, _ => none
  | n + 1, v2, v4, v5, v6, s =>
    (f_m_mayFollow v4 v6 s).bind fun x5 =>
    if x5.1 = 0 then
      (f_m_where_230 k221 n) v2 v4 v5 (v6 + 1) x5.2
    else
      (f_m_passesBy v5 v6 x5.2).bind fun x6 =>
      (zld x6.2 15 165 (((5 * v5) + v4) + 1)).bind fun x7 =>
      if x6.1 = x7 then
        k221 v2 v6 (v5 + 1) x6.2
      else
        (f_m_where_230 k221 n) v2 v4 v5 (v6 + 1) x6.2
noncomputable def f_m_where_221 : Nat → Int32 → Int32 → Int32 → zSt → Option (Int32 × zSt)
  | 0, _, _, _, _ => none
  | n + 1, v2, v4, v5, s =>
    if v2 < v5 then
      some (v4, s)
    else
      f_m_where_230 (f_m_where_221 n) zFu v2 v4 v5 (-1) s
noncomputable def f_m_where_85 : Nat → Int32 → Int32 → Int32 → zSt → Option (Int32 × zSt)
  | 0, _, _, _, _ => none
  | n + 1, v1, v2, v4, s =>
    if v4 < (v1 / 100) then
      if v2 = (-1) then
        (zld s 15 165 (5 * (v1 / 100))).bind fun x4 =>
        some (x4, s)
      else
        f_m_where_221 zFu v2 (-1) (v1 / 100) s
    else
      f_m_where_97 (f_m_where_85 n) zFu v1 v2 v4 (-1) s
noncomputable def f_m_where_51 : Nat → Int32 → Int32 → Int32 → Int32 → zSt → Option (Int32 × zSt)
  | 0, _, _, _, _, _ => none
  | n + 1, v1, v2, v3, v4, s =>
    if (s.1 0 8) ≤ v4 then
      f_m_where_85 zFu v1 v2 v3 s
    else
      (zst s 15 165 (((5 * (v3 + 1)) + v4) + 1) 0).bind fun s3 =>
      (f_m_where_51 n) v1 v2 v3 (v4 + 1) s3
noncomputable def f_m_where_33 (v1 : Int32) (v2 : Int32) (s : zSt) : Option (Int32 × zSt) :=
  if (s.1 0 8) = 0 then
    some ((-5), s)
  else
    f_m_where_51 zFu v1 v2 (zrem v1 100) (-1) s
noncomputable def f_m_where (a0 : Int32) (a1 : Int32) (s : zSt) : Option (Int32 × zSt) :=
  (f_m_isFt a0 s).bind fun x1 =>
  if x1.1 = 0 then
    some ((-2000000000), x1.2)
  else
    if a1 = (-1) then
      f_m_where_33 a0 a1 x1.2
    else
      (f_m_within (a1 : Int32).toInt64 ((a0 / 100) : Int32).toInt64 ((zrem a0 100) : Int32).toInt64 x1.2).bind fun x2 =>
      if x2.1 = 0 then
        some ((-2000000000), x2.2)
      else
        f_m_where_33 a0 a1 x2.2
noncomputable def f_m_dayIs (a0 : Int32) (s : zSt) : Option (Int32 × zSt) :=
  (f_m_isShelf a0 s).bind fun x1 =>
  if x1.1 = 0 then
    some ((-1), x1.2)
  else
    (zld x1.2 26 6 a0).bind fun x2 =>
    if 0 ≤ x2 then
      (zld x1.2 26 6 a0).bind fun x3 =>
      if x3 = 51 then
        some (1, x1.2)
      else
        some ((-12), x1.2)
    else
      some ((-11), x1.2)
noncomputable def f_m_firstFalse_8 : Nat → Int32 → Int32 → zSt → Option (Int32 × zSt)
  | 0, _, _, _ => none
  | n + 1, v1, v3, s =>
    (zld s 27 6 v1).bind fun x2 =>
    if x2 ≤ v3 then
      some ((-2), s)
    else
      if 32 ≤ v3 then
        some ((-2), s)
      else
        (zldl s 28 360 ((60 * v1) + v3)).bind fun x3 =>
        (zld s 12 32 v3).bind fun x4 =>
        if (lg_cmp x3 (x4 : Int32).toInt64) = 0 then
          (f_m_firstFalse_8 n) v1 (v3 + 1) s
        else
          some (v3, s)
noncomputable def f_m_firstFalse (a0 : Int32) (a1 : Int32) (s : zSt) : Option (Int32 × zSt) :=
  (f_m_dayGoes a1 s).bind fun x1 =>
  f_m_firstFalse_8 zFu a0 (0) x1.2
noncomputable def f_m_judge (a0 : Int32) (a1 : Int32) (s : zSt) : Option (Int32 × zSt) :=
  (f_m_dayIs a0 s).bind fun x1 =>
  if 0 ≤ x1.1 then
    (f_m_firstFalse a0 a1 x1.2).bind fun x2 =>
    some (x2.1, x2.2)
  else
    (f_m_dayIs a0 x1.2).bind fun x3 =>
    some (x3.1, x3.2)
noncomputable def f_m_seeded_16 : Nat → Int32 → Int32 → zSt → Option (Int32 × zSt)
  | 0, _, _, _ => none
  | n + 1, v1, v2, s =>
    if 100 ≤ v2 then
      some ((-2), s)
    else
      (f_m_firstFalse v1 v2 s).bind fun x3 =>
      if x3.1 = (-2) then
        some (v2, x3.2)
      else
        (f_m_seeded_16 n) v1 (v2 + 1) x3.2
noncomputable def f_m_seeded (a0 : Int32) (s : zSt) : Option (Int32 × zSt) :=
  (f_m_dayIs a0 s).bind fun x1 =>
  if 0 ≤ x1.1 then
    f_m_seeded_16 zFu a0 (0) x1.2
  else
    (f_m_dayIs a0 x1.2).bind fun x2 =>
    some (x2.1, x2.2)
noncomputable def f_m_common_17 : Nat → Int64 → Int64 → zSt → Option (Int64 × zSt)
  | 0, _, _, _ => none
  | n + 1, v4, v6, s =>
    if (lg_cmp v6 0) = 0 then
      some (v4, s)
    else
      (zrvl v4 v6).bind fun x1 =>
      (f_m_common_17 n) v6 x1 s
noncomputable def f_m_common (a0 : Int64) (a1 : Int64) (s : zSt) : Option (Int64 × zSt) :=
  if 0 ≤ (lg_cmp a0 0) then
    f_m_common_17 zFu a0 a1 s
  else
    f_m_common_17 zFu (-a0) a1 s
noncomputable def f_m_partOf (a0 : Int64) (a1 : Int64) (a2 : Int32) (s : zSt) : Option (Int64 × zSt) :=
  if (lg_cmp a0 0) = 0 then
    some ((a2 : Int32).toInt64, s)
  else
    (f_m_common a0 a1 s).bind fun x1 =>
    if a2 = 0 then
      (zdvl a0 x1.1).bind fun x2 =>
      some (x2, x1.2)
    else
      (zdvl a1 x1.1).bind fun x3 =>
      some (x3, x1.2)
noncomputable def f_m_make_120 (k99 : Int32 → Int32 → Int32 → Int32 → Int64 → Int32 → zSt → Option (Int64 × zSt)) : Nat → Int32 → Int32 → Int32 → Int32 → Int64 → Int32 → Int32 → zSt → Option (Int64 × zSt)
  | 0, _, _, _, _, _, _, _, _ => none
  | n + 1, v2, v3, v4, v5, v6, v8, v9, s =>
    if v9 < 0 then
      k99 v2 v3 v4 v5 v6 (v8 + 1) s
    else
      (zldl s 16 10 v9).bind fun x6 =>
      if v9 ≤ 0 then
        (zstl s 16 10 v9 ((x6 * ((12 - v5) : Int32).toInt64) + 0)).bind fun s7 =>
        (f_m_make_120 k99 n) v2 v3 v4 v5 v6 v8 (v9 + (-1)) s7
      else
        (zldl s 16 10 (v9 - 1)).bind fun x8 =>
        (zstl s 16 10 v9 ((x6 * ((12 - v5) : Int32).toInt64) + (x8 * (v5 : Int32).toInt64))).bind fun s9 =>
        (f_m_make_120 k99 n) v2 v3 v4 v5 v6 v8 (v9 + (-1)) s9
noncomputable def f_m_make_211 (k190 : Int32 → Int32 → Int32 → Int64 → Int32 → Int64 → Int32 → zSt → Option (Int64 × zSt)) : Nat → Int32 → Int32 → Int32 → Int64 → Int32 → Int64 → Int32 → Int64 → Int32 → zSt → Option (Int64 × zSt)
  | 0, _, _, _, _, _, _, _, _, _, _ => none
  | n + 1, v2, v3, v4, v6, v8, v9, v11, v12, v14, s =>
    if v4 < v14 then
      if v11 = 0 then
        k190 v2 v3 v4 v6 v11 v12 (v11 + 1) s
      else
        if (lg_cmp v12 v9) ≤ 0 then
          k190 v2 v3 v4 v6 v8 v9 (v11 + 1) s
        else
          k190 v2 v3 v4 v6 v11 v12 (v11 + 1) s
    else
      (zldl s 16 10 v14).bind fun x10 =>
      (zld s 1 8 3).bind fun x11 =>
      if v11 ≤ v14 then
        (f_m_make_211 k190 n) v2 v3 v4 v6 v8 v9 v11 (v12 + ((x10 * (x11 : Int32).toInt64) * (v11 : Int32).toInt64)) (v14 + 1) s
      else
        (f_m_make_211 k190 n) v2 v3 v4 v6 v8 v9 v11 (v12 + ((x10 * (x11 : Int32).toInt64) * (v14 : Int32).toInt64)) (v14 + 1) s
noncomputable def f_m_make_190 : Nat → Int32 → Int32 → Int32 → Int64 → Int32 → Int64 → Int32 → zSt → Option (Int64 × zSt)
  | 0, _, _, _, _, _, _, _, _ => none
  | n + 1, v2, v3, v4, v6, v8, v9, v11, s =>
    if v4 < v11 then
      if v3 = 0 then
        some ((v8 : Int32).toInt64, s)
      else
        (f_m_partOf v9 v6 (v3 - 1) s).bind fun x5 =>
        some (x5.1, x5.2)
    else
      f_m_make_211 (f_m_make_190 n) zFu v2 v3 v4 v6 v8 v9 v11 ((((-v2) * v11) : Int32).toInt64 * v6) (0) s
noncomputable def f_m_make_99 : Nat → Int32 → Int32 → Int32 → Int32 → Int64 → Int32 → zSt → Option (Int64 × zSt)
  | 0, _, _, _, _, _, _, _ => none
  | n + 1, v2, v3, v4, v5, v6, v8, s =>
    if v4 ≤ v8 then
      f_m_make_190 zFu v2 v3 v4 v6 (0) (0) (0) s
    else
      f_m_make_120 (f_m_make_99 n) zFu v2 v3 v4 v5 (v6 * 12) v8 (v8 + 1) s
noncomputable def f_m_make_68 : Nat → Int32 → Int32 → Int32 → Int32 → Int64 → Int32 → zSt → Option (Int64 × zSt)
  | 0, _, _, _, _, _, _, _ => none
  | n + 1, v2, v3, v4, v5, v6, v8, s =>
    if 10 ≤ v8 then
      (zstl s 16 10 0 1).bind fun s3 =>
      f_m_make_99 zFu v2 v3 v4 v5 v6 (0) s3
    else
      (zstl s 16 10 v8 0).bind fun s4 =>
      (f_m_make_68 n) v2 v3 v4 v5 v6 (v8 + 1) s4
noncomputable def f_m_make (a0 : Int32) (a1 : Int32) (a2 : Int32) (s : zSt) : Option (Int64 × zSt) :=
  if a0 < 0 then
    some ((-9223372036854775808), s)
  else
    if 8 < (a0 / 100) then
      some ((-9223372036854775808), s)
    else
      if 12 < (zrem a0 100) then
        some ((-9223372036854775808), s)
      else
        (f_m_within (a1 : Int32).toInt64 (0) (99) s).bind fun x1 =>
        if x1.1 = 0 then
          some ((-9223372036854775808), x1.2)
        else
          (f_m_within (a2 : Int32).toInt64 (0) (2) x1.2).bind fun x2 =>
          if x2.1 = 0 then
            some ((-9223372036854775808), x2.2)
          else
            f_m_make_68 zFu a1 a2 (a0 / 100) (zrem a0 100) (1) (0) x2.2
noncomputable def f_m_undercut_140 (k72 : Int32 → Int32 → Int32 → Int32 → Int32 → Int32 → Int32 → zSt → Option (Int32 × zSt)) (v1 : Int32) (v2 : Int32) (v3 : Int32) (v4 : Int32) (v6 : Int32) (v7 : Int32) (v8 : Int32) (w0 : Int32) (s : zSt) : Option (Int32 × zSt) :=
  if (zrem v6 2) = 0 then
    k72 v1 v2 v3 v4 w0 (v6 + 1) v7 s
  else
    k72 v1 v2 v3 v8 w0 (v6 + 1) v7 s
noncomputable def f_m_undercut_119 (k72 : Int32 → Int32 → Int32 → Int32 → Int32 → Int32 → Int32 → zSt → Option (Int32 × zSt)) (v1 : Int32) (v2 : Int32) (v3 : Int32) (v4 : Int32) (v5 : Int32) (v6 : Int32) (v8 : Int32) (w0 : Int32) (s : zSt) : Option (Int32 × zSt) :=
  if w0 = 0 then
    k72 v1 v2 v3 v4 v5 v6 w0 s
  else
    if (zrem v6 2) = 0 then
      f_m_undercut_140 k72 v1 v2 v3 v4 v6 w0 v8 v8 s
    else
      f_m_undercut_140 k72 v1 v2 v3 v4 v6 w0 v8 v5 s
noncomputable def f_m_undercut_111 (k72 : Int32 → Int32 → Int32 → Int32 → Int32 → Int32 → Int32 → zSt → Option (Int32 × zSt)) (v1 : Int32) (v2 : Int32) (v3 : Int32) (v4 : Int32) (v5 : Int32) (v6 : Int32) (v8 : Int32) (w0 : Int32) (w1 : Int32) (s : zSt) : Option (Int32 × zSt) :=
  if w1 < w0 then
    f_m_undercut_119 k72 v1 v2 v3 v4 v5 v6 v8 (0) s
  else
    f_m_undercut_119 k72 v1 v2 v3 v4 v5 v6 v8 (1) s
noncomputable def f_m_undercut_95 (k72 : Int32 → Int32 → Int32 → Int32 → Int32 → Int32 → Int32 → zSt → Option (Int32 × zSt)) (v1 : Int32) (v2 : Int32) (v3 : Int32) (v4 : Int32) (v5 : Int32) (v6 : Int32) (w0 : Int32) (s : zSt) : Option (Int32 × zSt) :=
  if (zrem v6 2) = 0 then
    f_m_undercut_111 k72 v1 v2 v3 v4 v5 v6 w0 v1 w0 s
  else
    f_m_undercut_111 k72 v1 v2 v3 v4 v5 v6 w0 v3 w0 s
noncomputable def f_m_undercut_72 : Nat → Int32 → Int32 → Int32 → Int32 → Int32 → Int32 → Int32 → zSt → Option (Int32 × zSt)
  | 0, _, _, _, _, _, _, _, _ => none
  | n + 1, v1, v2, v3, v4, v5, v6, v7, s =>
    if v7 = 0 then
      if v2 = 0 then
        some (v6, s)
      else
        if v2 = 1 then
          some (v4, s)
        else
          some (v5, s)
    else
      if (zrem v6 2) = 0 then
        f_m_undercut_95 (f_m_undercut_72 n) v1 v2 v3 v4 v5 v6 (v4 - 1) s
      else
        f_m_undercut_95 (f_m_undercut_72 n) v1 v2 v3 v4 v5 v6 (v5 - 1) s
noncomputable def f_m_undercut (a0 : Int32) (a1 : Int32) (s : zSt) : Option (Int32 × zSt) :=
  (f_m_within (a0 : Int32).toInt64 (0) (50) s).bind fun x1 =>
  if x1.1 = 0 then
    some ((-1), x1.2)
  else
    (f_m_within (a1 : Int32).toInt64 (0) (2) x1.2).bind fun x2 =>
    if x2.1 = 0 then
      some ((-1), x2.2)
    else
      (zld x2.2 1 8 4).bind fun x3 =>
      if x3 = 0 then
        some ((-5), x2.2)
      else
        (f_m_jugCost x2.2).bind fun x4 =>
        (zld x4.2 1 8 2).bind fun x5 =>
        (zdv x4.1 x5).bind fun x6 =>
        (zld x4.2 1 8 3).bind fun x7 =>
        (zld x4.2 1 8 4).bind fun x8 =>
        f_m_undercut_72 zFu a0 a1 x6 x7 x8 (0) (1) x4.2
noncomputable def f_m_brings (a0 : Int32) (a1 : Int32) (s : zSt) : Option (Int32 × zSt) :=
  (f_m_within (a0 : Int32).toInt64 (1) (7) s).bind fun x1 =>
  if x1.1 = 0 then
    some ((-1), x1.2)
  else
    (f_m_within (a1 : Int32).toInt64 (0) (999) x1.2).bind fun x2 =>
    if x2.1 = 0 then
      some ((-1), x2.2)
    else
      (zld x2.2 17 8 a0).bind fun x3 =>
      (zst x2.2 17 8 a0 a1).bind fun s4 =>
      some (x3, s4)
noncomputable def f_m_minutes (a0 : Int32) (a1 : Int32) (s : zSt) : Option (Int32 × zSt) :=
  (f_m_within (a0 : Int32).toInt64 (0) (2) s).bind fun x1 =>
  if x1.1 = 0 then
    some ((-1), x1.2)
  else
    (f_m_within (a1 : Int32).toInt64 (0) (600) x1.2).bind fun x2 =>
    if x2.1 = 0 then
      some ((-1), x2.2)
    else
      (zld x2.2 18 3 a0).bind fun x3 =>
      (zst x2.2 18 3 a0 a1).bind fun s4 =>
      some (x3, s4)
noncomputable def f_m_addsOf (a0 : Int32) (s : zSt) : Option (Int32 × zSt) :=
  (zld s 17 8 (1 <<< (a0 &&& 31))).bind fun x1 =>
  (zld s 17 8 ((1 <<< (a0 &&& 31)) ||| (1 <<< ((zrem (a0 + 1) 3) &&& 31)))).bind fun x2 =>
  (zld s 17 8 (1 <<< ((zrem (a0 + 1) 3) &&& 31))).bind fun x3 =>
  (zld s 17 8 ((1 <<< (a0 &&& 31)) ||| (1 <<< ((zrem (a0 + 2) 3) &&& 31)))).bind fun x4 =>
  (zld s 17 8 (1 <<< ((zrem (a0 + 2) 3) &&& 31))).bind fun x5 =>
  (zld s 17 8 7).bind fun x6 =>
  (zld s 17 8 ((1 <<< ((zrem (a0 + 1) 3) &&& 31)) ||| (1 <<< ((zrem (a0 + 2) 3) &&& 31)))).bind fun x7 =>
  some ((((2 * x1) + (((x2 - x3) + x4) - x5)) + (2 * (x6 - x7))), s)
noncomputable def f_m_share (a0 : Int32) (a1 : Int32) (a2 : Int32) (s : zSt) : Option (Int32 × zSt) :=
  (f_m_within (a0 : Int32).toInt64 (0) (2) s).bind fun x1 =>
  if x1.1 = 0 then
    some ((-2000000000), x1.2)
  else
    (f_m_within (a1 : Int32).toInt64 (0) (2) x1.2).bind fun x2 =>
    if x2.1 = 0 then
      some ((-2000000000), x2.2)
    else
      (f_m_within (a2 : Int32).toInt64 (0) (1) x2.2).bind fun x3 =>
      if x3.1 = 0 then
        some ((-2000000000), x3.2)
      else
        if a1 = 0 then
          (zld x3.2 17 8 7).bind fun x4 =>
          (f_m_partOf (x4 : Int32).toInt64 (3) a2 x3.2).bind fun x5 =>
          some ((x5.1 : Int64).toInt32, x5.2)
        else
          if a1 = 2 then
            (f_m_addsOf a0 x3.2).bind fun x6 =>
            (f_m_partOf (x6.1 : Int32).toInt64 (6) a2 x6.2).bind fun x7 =>
            some ((x7.1 : Int64).toInt32, x7.2)
          else
            (zld x3.2 18 3 0).bind fun x8 =>
            (zld x3.2 18 3 1).bind fun x9 =>
            (zld x3.2 18 3 2).bind fun x10 =>
            if ((x8 + x9) + x10) = 0 then
              some (((a2 : Int32).toInt64 : Int64).toInt32, x3.2)
            else
              (zld x3.2 17 8 7).bind fun x11 =>
              (zld x3.2 18 3 a0).bind fun x12 =>
              (f_m_partOf ((x11 : Int32).toInt64 * (x12 : Int32).toInt64) (((x8 + x9) + x10) : Int32).toInt64 a2 x3.2).bind fun x13 =>
              some ((x13.1 : Int64).toInt32, x13.2)
noncomputable def f_m_slate (a0 : Int32) (a1 : Int32) (s : zSt) : Option (Int32 × zSt) :=
  if a0 < 0 then
    some ((-1), s)
  else
    if 6 ≤ (a0 / 10) then
      some ((-1), s)
    else
      if 6 ≤ (zrem a0 10) then
        some ((-1), s)
      else
        if (a0 / 10) = (zrem a0 10) then
          some ((-1), s)
        else
          (f_m_within (a1 : Int32).toInt64 (0) (999) s).bind fun x1 =>
          if x1.1 = 0 then
            some ((-1), x1.2)
          else
            (zld x1.2 19 36 ((6 * (a0 / 10)) + (zrem a0 10))).bind fun x2 =>
            (zst x1.2 19 36 ((6 * (a0 / 10)) + (zrem a0 10)) a1).bind fun s3 =>
            some (x2, s3)
noncomputable def f_m_owesOf_4 : Nat → Int32 → Int32 → Int32 → zSt → Option (Int32 × zSt)
  | 0, _, _, _, _ => none
  | n + 1, v1, v2, v3, s =>
    if 6 ≤ v3 then
      some (v2, s)
    else
      (zld s 19 36 ((6 * v1) + v3)).bind fun x1 =>
      (zld s 19 36 ((6 * v3) + v1)).bind fun x2 =>
      (f_m_owesOf_4 n) v1 (v2 + (x1 - x2)) (v3 + 1) s
noncomputable def f_m_owesOf (a0 : Int32) (s : zSt) : Option (Int32 × zSt) :=
  f_m_owesOf_4 zFu a0 (0) (0) s
noncomputable def f_m_owes (a0 : Int32) (s : zSt) : Option (Int32 × zSt) :=
  (f_m_within (a0 : Int32).toInt64 (0) (5) s).bind fun x1 =>
  if x1.1 = 0 then
    some ((-2000000000), x1.2)
  else
    (f_m_owesOf a0 x1.2).bind fun x2 =>
    some (x2.1, x2.2)
noncomputable def f_m_wiped_74 (k64 : Int32 → zSt → Option (Int32 × zSt)) : Nat → Int32 → Int32 → Int32 → zSt → Option (Int32 × zSt)
  | 0, _, _, _, _ => none
  | n + 1, v1, v2, v3, s =>
    if 6 ≤ v3 then
      if v1 ≤ 0 then
        (zst s 21 64 v1 (v2 + 0)).bind fun s7 =>
        k64 (v1 + 1) s7
      else
        (zld s 20 64 v1).bind fun x8 =>
        if x8 = 0 then
          (zst s 21 64 v1 (v2 + 1)).bind fun s9 =>
          k64 (v1 + 1) s9
        else
          (zst s 21 64 v1 (v2 + 0)).bind fun s10 =>
          k64 (v1 + 1) s10
    else
      if ((v1 >>> (v3 &&& 31)) &&& 1) = 1 then
        (zld s 21 64 (v1 &&& ((1 <<< (v3 &&& 31)) ^^^ (-1)))).bind fun x11 =>
        if x11 ≤ v2 then
          (f_m_wiped_74 k64 n) v1 v2 (v3 + 1) s
        else
          (f_m_wiped_74 k64 n) v1 x11 (v3 + 1) s
      else
        if 0 ≤ v2 then
          (f_m_wiped_74 k64 n) v1 v2 (v3 + 1) s
        else
          (f_m_wiped_74 k64 n) v1 (0) (v3 + 1) s
noncomputable def f_m_wiped_64 : Nat → Int32 → zSt → Option (Int32 × zSt)
  | 0, _, _ => none
  | n + 1, v1, s =>
    if 64 ≤ v1 then
      (zld s 21 64 63).bind fun x2 =>
      some ((6 - x2), s)
    else
      f_m_wiped_74 (f_m_wiped_64 n) zFu v1 (0) (0) s
noncomputable def f_m_wiped_17 (k2 : Int32 → zSt → Option (Int32 × zSt)) : Nat → Int32 → Int32 → zSt → Option (Int32 × zSt)
  | 0, _, _, _ => none
  | n + 1, v1, v2, s =>
    if 6 ≤ v2 then
      k2 (v1 + 1) s
    else
      (zld s 20 64 v1).bind fun x3 =>
      if ((v1 >>> (v2 &&& 31)) &&& 1) = 1 then
        (f_m_owesOf v2 s).bind fun x4 =>
        (zst x4.2 20 64 v1 (x3 + x4.1)).bind fun s5 =>
        (f_m_wiped_17 k2 n) v1 (v2 + 1) s5
      else
        (zst s 20 64 v1 (x3 + 0)).bind fun s6 =>
        (f_m_wiped_17 k2 n) v1 (v2 + 1) s6
noncomputable def f_m_wiped_2 : Nat → Int32 → zSt → Option (Int32 × zSt)
  | 0, _, _ => none
  | n + 1, v1, s =>
    if 64 ≤ v1 then
      f_m_wiped_64 zFu (0) s
    else
      (zst s 20 64 v1 0).bind fun s1 =>
      f_m_wiped_17 (f_m_wiped_2 n) zFu v1 (0) s1
noncomputable def f_m_wiped (s : zSt) : Option (Int32 × zSt) :=
  f_m_wiped_2 zFu (0) s
noncomputable def f_m_allHeats_4 : Nat → Int32 → Int32 → zSt → Option (Int32 × zSt)
  | 0, _, _, _ => none
  | n + 1, v1, v2, s =>
    if 32 ≤ v2 then
      some (v1, s)
    else
      (zld s 5 32 v2).bind fun x1 =>
      (f_m_allHeats_4 n) (v1 + x1) (v2 + 1) s
noncomputable def f_m_allHeats (s : zSt) : Option (Int32 × zSt) :=
  f_m_allHeats_4 zFu (0) (0) s
noncomputable def f_m_image_7 : Nat → Int32 → zSt → Option (Int32 × zSt)
  | 0, _, _ => none
  | n + 1, v1, s =>
    if 32 ≤ v1 then
      (f_m_allHeats s).bind fun x1 =>
      some (x1.1, x1.2)
    else
      (zld s 5 32 v1).bind fun x2 =>
      (zst s 22 32 v1 x2).bind fun s3 =>
      (zld s3 6 32 v1).bind fun x4 =>
      (zst s3 23 32 v1 x4).bind fun s5 =>
      (f_m_image_7 n) (v1 + 1) s5
noncomputable def f_m_image (s : zSt) : Option (Int32 × zSt) :=
  f_m_image_7 zFu (0) (zw s 0 38 1)
noncomputable def f_m_back_12 : Nat → Int32 → zSt → Option (Int32 × zSt)
  | 0, _, _ => none
  | n + 1, v1, s =>
    if 32 ≤ v1 then
      (f_m_allHeats s).bind fun x1 =>
      some (x1.1, x1.2)
    else
      (zld s 22 32 v1).bind fun x2 =>
      (zst s 5 32 v1 x2).bind fun s3 =>
      (zld s3 23 32 v1).bind fun x4 =>
      (zst s3 6 32 v1 x4).bind fun s5 =>
      (f_m_back_12 n) (v1 + 1) s5
noncomputable def f_m_back (s : zSt) : Option (Int32 × zSt) :=
  if (s.1 0 38) = 0 then
    some ((-5), s)
  else
    f_m_back_12 zFu (0) s
noncomputable def f_m_isBody (a0 : Int32) (s : zSt) : Option (Int32 × zSt) :=
  (f_m_within (a0 : Int32).toInt64 (0) (((s.1 0 41) - 1) : Int32).toInt64 s).bind fun x1 =>
  (zbo x1.1).bind fun v => some (v, x1.2)
noncomputable def f_m_kindOf (a0 : Int32) (s : zSt) : Option (Int32 × zSt) :=
  (zld s 24 50 a0).bind fun x1 =>
  some (x1, s)
noncomputable def f_m_body (a0 : Int32) (s : zSt) : Option (Int32 × zSt) :=
  (f_m_within (a0 : Int32).toInt64 (0) (7) s).bind fun x1 =>
  if x1.1 = 0 then
    some ((-1), x1.2)
  else
    if (x1.2.1 0 41) = 50 then
      some ((-3), x1.2)
    else
      (zst x1.2 24 50 (x1.2.1 0 41) a0).bind fun s2 =>
      some ((((zw s2 0 41 ((s2.1 0 41) + 1)).1 0 41) - 1), (zw s2 0 41 ((s2.1 0 41) + 1)))
noncomputable def f_m_above (a0 : Int32) (s : zSt) : Option (Int32 × zSt) :=
  if a0 = 3 then
    some (2, s)
  else
    if a0 = 4 then
      some (1, s)
    else
      if a0 = 5 then
        some (3, s)
      else
        if a0 = 7 then
          some (4, s)
        else
          some (0, s)
noncomputable def f_m_begins (a0 : Int32) (s : zSt) : Option (zSt) :=
  if 24 ≤ (s.1 0 44) then
    some (zw s 0 44 ((s.1 0 44) + 1))
  else
    (zst s 25 24 (s.1 0 44) a0).bind fun s1 =>
    some (zw s1 0 44 ((s1.1 0 44) + 1))
noncomputable def b_m_makesAs (c_m_makesAs : Int32 → Int32 → zSt → Option (Int32 × zSt)) (a0 : Int32) (a1 : Int32) (s : zSt) : Option (Int32 × zSt) :=
  if a0 = 1 then
    (f_m_begins (20) s).bind fun x1 =>
    (c_m_makesAs (0) a1 x1).bind fun x2 =>
    some ((x2.1 + 3), x2.2)
  else
    if a0 = 4 then
      (f_m_begins (20) s).bind fun x3 =>
      (c_m_makesAs (0) a1 x3).bind fun x4 =>
      some ((x4.1 + 3), x4.2)
    else
      if a0 = 7 then
        (f_m_begins (20) s).bind fun x5 =>
        (c_m_makesAs (0) a1 x5).bind fun x6 =>
        some ((x6.1 + 3), x6.2)
      else
        if a0 = 6 then
          (f_m_begins (70) s).bind fun x7 =>
          (c_m_makesAs (0) a1 x7).bind fun x8 =>
          some ((x8.1 * 2), x8.2)
        else
          (f_m_begins (1) s).bind fun x9 =>
          some ((a1 + (x9.1 0 46)), x9)
noncomputable def F_mk : Nat → Int32 → Int32 → zSt → Option (Int32 × zSt)
  | 0, _, _, _ => none
  | n + 1, a, b, s => b_m_makesAs (F_mk n) a b s
noncomputable def f_m_makesAs (a0 a1 : Int32) (s : zSt) : Option (Int32 × zSt) := F_mk 20 a0 a1 s
noncomputable def f_m_sharesAs_36 (c_m_sharesAs : Int32 → Int32 → zSt → Option (Int32 × zSt)) (v2 : Int32) (s : zSt) : Option (Int32 × zSt) :=
  (f_m_begins (50) s).bind fun x6 =>
  (c_m_sharesAs (1) v2 x6).bind fun x7 =>
  (f_m_makesAs (x7.2.1 0 45) (2) x7.2).bind fun x8 =>
  some ((x7.1 - x8.1), x8.2)
noncomputable def b_m_sharesAs (c_m_sharesAs : Int32 → Int32 → zSt → Option (Int32 × zSt)) (a0 : Int32) (a1 : Int32) (s : zSt) : Option (Int32 × zSt) :=
  if a0 = 3 then
    (f_m_begins (40) s).bind fun x1 =>
    (c_m_sharesAs (2) a1 x1).bind fun x2 =>
    some ((x2.1 * 3), x2.2)
  else
    if a0 = 5 then
      (f_m_begins (40) s).bind fun x3 =>
      (c_m_sharesAs (2) a1 x3).bind fun x4 =>
      some ((x4.1 * 3), x4.2)
    else
      if a0 = 4 then
        f_m_sharesAs_36 c_m_sharesAs a1 s
      else
        if a0 = 7 then
          f_m_sharesAs_36 c_m_sharesAs a1 s
        else
          (f_m_begins (11) s).bind fun x5 =>
          some ((a1 ^^^ (x5.1 0 46)), x5)
noncomputable def F_sr : Nat → Int32 → Int32 → zSt → Option (Int32 × zSt)
  | 0, _, _, _ => none
  | n + 1, a, b, s => b_m_sharesAs (F_sr n) a b s
noncomputable def f_m_sharesAs (a0 a1 : Int32) (s : zSt) : Option (Int32 × zSt) := F_sr 20 a0 a1 s
noncomputable def b_m_sellsAs (c_m_sellsAs : Int32 → Int32 → zSt → Option (Int32 × zSt)) (a0 : Int32) (a1 : Int32) (s : zSt) : Option (Int32 × zSt) :=
  if a0 = 3 then
    (f_m_begins (41) s).bind fun x1 =>
    (c_m_sellsAs (2) (a1 + 1) x1).bind fun x2 =>
    some (x2.1, x2.2)
  else
    if a0 = 5 then
      (f_m_begins (41) s).bind fun x3 =>
      (c_m_sellsAs (2) (a1 + 1) x3).bind fun x4 =>
      some (x4.1, x4.2)
    else
      if a0 = 2 then
        (f_m_begins (30) s).bind fun x5 =>
        (c_m_sellsAs (0) a1 x5).bind fun x6 =>
        some ((-x6.1), x6.2)
      else
        if a0 = 7 then
          (f_m_begins (80) s).bind fun x7 =>
          (c_m_sellsAs (4) a1 x7).bind fun x8 =>
          (f_m_sharesAs (x8.2.1 0 45) (2) x8.2).bind fun x9 =>
          some ((x8.1 + x9.1), x9.2)
        else
          (f_m_begins (10) s).bind fun x10 =>
          (f_m_makesAs (x10.1 0 45) a1 x10).bind fun x11 =>
          some ((x11.1 * 2), x11.2)
noncomputable def F_sl : Nat → Int32 → Int32 → zSt → Option (Int32 × zSt)
  | 0, _, _, _ => none
  | n + 1, a, b, s => b_m_sellsAs (F_sl n) a b s
noncomputable def f_m_sellsAs (a0 a1 : Int32) (s : zSt) : Option (Int32 × zSt) := F_sl 20 a0 a1 s
noncomputable def b_m_tellsAs (c_m_tellsAs : Int32 → Int32 → zSt → Option (Int32 × zSt)) (a0 : Int32) (a1 : Int32) (s : zSt) : Option (Int32 × zSt) :=
  if a0 = 5 then
    (f_m_begins (60) s).bind fun x1 =>
    (c_m_tellsAs (3) a1 x1).bind fun x2 =>
    some ((x2.1 ^^^ 5), x2.2)
  else
    if a0 = 7 then
      (f_m_begins (81) s).bind fun x3 =>
      (c_m_tellsAs (4) a1 x3).bind fun x4 =>
      some ((x4.1 - 1), x4.2)
    else
      (f_m_begins (2) s).bind fun x5 =>
      (f_m_sellsAs (x5.1 0 45) a1 x5).bind fun x6 =>
      (f_m_sharesAs (x6.2.1 0 45) (1) x6.2).bind fun x7 =>
      some ((x6.1 - x7.1), x7.2)
noncomputable def F_tl : Nat → Int32 → Int32 → zSt → Option (Int32 × zSt)
  | 0, _, _, _ => none
  | n + 1, a, b, s => b_m_tellsAs (F_tl n) a b s
noncomputable def f_m_tellsAs (a0 a1 : Int32) (s : zSt) : Option (Int32 × zSt) := F_tl 20 a0 a1 s
noncomputable def f_m_act (a0 : Int32) (a1 : Int32) (a2 : Int32) (s : zSt) : Option (Int32 × zSt) :=
  (f_m_isBody a0 (zw s 0 44 0)).bind fun x1 =>
  if x1.1 = 0 then
    some (0, x1.2)
  else
    (zld x1.2 24 50 a0).bind fun x2 =>
    if a1.toInt < 0 ∨ 3 < a1.toInt then
      some (0, (zw (zw x1.2 0 45 x2) 0 46 a0))
    else
      if a1 = 0 then
        (f_m_makesAs ((zw (zw x1.2 0 45 x2) 0 46 a0).1 0 45) a2 (zw (zw x1.2 0 45 x2) 0 46 a0)).bind fun x3 =>
        some (x3.1, x3.2)
      else
        if a1 = 1 then
          (f_m_sellsAs ((zw (zw x1.2 0 45 x2) 0 46 a0).1 0 45) a2 (zw (zw x1.2 0 45 x2) 0 46 a0)).bind fun x4 =>
          some (x4.1, x4.2)
        else
          if a1 = 2 then
            (f_m_sharesAs ((zw (zw x1.2 0 45 x2) 0 46 a0).1 0 45) a2 (zw (zw x1.2 0 45 x2) 0 46 a0)).bind fun x5 =>
            some (x5.1, x5.2)
          else
            if a1 = 3 then
              (f_m_tellsAs ((zw (zw x1.2 0 45 x2) 0 46 a0).1 0 45) a2 (zw (zw x1.2 0 45 x2) 0 46 a0)).bind fun x6 =>
              some (x6.1, x6.2)
            else
              none
noncomputable def f_m_trace (a0 : Int32) (s : zSt) : Option (Int32 × zSt) :=
  if a0 < 0 then
    some ((-1), s)
  else
    if (s.1 0 44) ≤ a0 then
      some ((-1), s)
    else
      if 24 ≤ a0 then
        some ((-1), s)
      else
        (zld s 25 24 a0).bind fun x1 =>
        some (x1, s)
noncomputable def f_m_keep_22 (v1 : Int32) (v2 : Int32) (s : zSt) : Option (Int32 × zSt) :=
  (zst s 26 6 v1 v2).bind fun s3 =>
  (zst s3 27 6 v1 0).bind fun s4 =>
  some (1, s4)
noncomputable def f_m_keep (a0 : Int32) (a1 : Int32) (s : zSt) : Option (Int32 × zSt) :=
  (f_m_isShelf a0 s).bind fun x1 =>
  if x1.1 = 0 then
    some ((-1), x1.2)
  else
    if a1 = (-1) then
      f_m_keep_22 a0 a1 x1.2
    else
      (f_m_isBody a1 x1.2).bind fun x2 =>
      if x2.1 = 0 then
        some ((-1), x2.2)
      else
        f_m_keep_22 a0 a1 x2.2
noncomputable def f_m_row_57 : Nat → Int32 → Int32 → zSt → Option (Int32 × zSt)
  | 0, _, _, _ => none
  | n + 1, v1, v4, s =>
    if ((60 * v1) + 60) ≤ v4 then
      some (1, s)
    else
      (zstl s 28 360 v4 0).bind fun s5 =>
      (f_m_row_57 n) v1 (v4 + 1) s5
noncomputable def f_m_row (a0 : Int32) (a1 : Int32) (a2 : Int32) (s : zSt) : Option (Int32 × zSt) :=
  (f_m_isShelf a0 s).bind fun x1 =>
  if x1.1 = 0 then
    some ((-1), x1.2)
  else
    (f_m_within (a1 : Int32).toInt64 (0) (4) x1.2).bind fun x2 =>
    if x2.1 = 0 then
      some ((-1), x2.2)
    else
      if a2 ≤ 60 then
        if 0 ≤ a2 then
          (zst x2.2 26 6 a0 (50 + a1)).bind fun s3 =>
          (zst s3 27 6 a0 a2).bind fun s4 =>
          f_m_row_57 zFu a0 (60 * a0) s4
        else
          some ((-14), x2.2)
      else
        some ((-1), x2.2)
noncomputable def f_m_refusal (a0 : Int32) (a1 : Int32) (s : zSt) : Option (Int32 × zSt) :=
  (f_m_isShelf a0 s).bind fun x1 =>
  if x1.1 = 0 then
    some ((-1), x1.2)
  else
    (zld x1.2 26 6 a0).bind fun x2 =>
    if 0 ≤ x2 then
      (zld x1.2 26 6 a0).bind fun x3 =>
      if 50 ≤ x3 then
        if a1 < 0 then
          some ((-13), x1.2)
        else
          (zld x1.2 27 6 a0).bind fun x4 =>
          if x4 ≤ a1 then
            some ((-13), x1.2)
          else
            some (0, x1.2)
      else
        some ((-12), x1.2)
    else
      some ((-11), x1.2)
noncomputable def f_m_asSort (a0 : Int32) (a1 : Int64) (s : zSt) : Option (Int64 × zSt) :=
  if a0 = 0 then
    some ((((a1 : Int64).toInt32).toInt8.toInt32 : Int32).toInt64, s)
  else
    if a0 = 1 then
      some ((((a1 : Int64).toInt32).toInt16.toInt32 : Int32).toInt64, s)
    else
      if a0 = 2 then
        some (((a1 : Int64).toInt32 : Int32).toInt64, s)
      else
        if a0 = 4 then
          if (lg_cmp a1 0) = 0 then
            some (0, s)
          else
            some (1, s)
        else
          some (a1, s)
noncomputable def f_m_put (a0 : Int32) (a1 : Int32) (a2 : Int64) (s : zSt) : Option (Int32 × zSt) :=
  (f_m_refusal a0 a1 s).bind fun x1 =>
  if x1.1 = 0 then
    (zld x1.2 26 6 a0).bind fun x2 =>
    (f_m_asSort (x2 - 50) a2 x1.2).bind fun x3 =>
    (zstl x3.2 28 360 ((60 * a0) + a1) x3.1).bind fun s4 =>
    if x1.1 = 0 then
      some (1, s4)
    else
      some (x1.1, s4)
  else
    if x1.1 = 0 then
      some (1, x1.2)
    else
      some (x1.1, x1.2)
noncomputable def f_m_element (a0 : Int32) (a1 : Int32) (s : zSt) : Option (Int64 × zSt) :=
  (f_m_refusal a0 a1 s).bind fun x1 =>
  if x1.1 = 0 then
    (zldl x1.2 28 360 ((60 * a0) + a1)).bind fun x2 =>
    some (x2, x1.2)
  else
    some ((-9223372036854775808), x1.2)
noncomputable def f_m_shift_150 : Nat → Int32 → Int32 → Int32 → Int32 → zSt → Option (Int32 × zSt)
  | 0, _, _, _, _, _ => none
  | n + 1, v3, v4, v5, v6, s =>
    if v5 ≤ v6 then
      some (v5, s)
    else
      (zldl s 29 60 v6).bind fun x12 =>
      (zstl s 28 360 (((60 * v3) + v4) + v6) x12).bind fun s13 =>
      (f_m_shift_150 n) v3 v4 v5 (v6 + 1) s13
noncomputable def f_m_shift_113 : Nat → Int32 → Int32 → Int32 → Int32 → Int32 → Int32 → zSt → Option (Int32 × zSt)
  | 0, _, _, _, _, _, _, _ => none
  | n + 1, v1, v2, v3, v4, v5, v6, s =>
    if v5 ≤ v6 then
      f_m_shift_150 zFu v3 v4 v5 (0) s
    else
      (zldl s 28 360 (((60 * v1) + v2) + v6)).bind fun x10 =>
      (zstl s 29 60 v6 x10).bind fun s11 =>
      (f_m_shift_113 n) v1 v2 v3 v4 v5 (v6 + 1) s11
noncomputable def f_m_shift (a0 : Int32) (a1 : Int32) (a2 : Int32) (a3 : Int32) (a4 : Int32) (s : zSt) : Option (Int32 × zSt) :=
  (f_m_isShelf a0 s).bind fun x1 =>
  if x1.1 = 0 then
    some ((-1), x1.2)
  else
    (f_m_isShelf a2 x1.2).bind fun x2 =>
    if x2.1 = 0 then
      some ((-1), x2.2)
    else
      (zld x2.2 26 6 a0).bind fun x3 =>
      if x3 < 0 then
        some ((-11), x2.2)
      else
        (zld x2.2 26 6 a2).bind fun x4 =>
        if 0 ≤ x4 then
          (zld x2.2 26 6 a0).bind fun x5 =>
          if x5 < 50 then
            some ((-12), x2.2)
          else
            (zld x2.2 26 6 a0).bind fun x6 =>
            (zld x2.2 26 6 a2).bind fun x7 =>
            if x6 = x7 then
              if a4 < 0 then
                some ((-13), x2.2)
              else
                if a1 < 0 then
                  some ((-13), x2.2)
                else
                  if a3 < 0 then
                    some ((-13), x2.2)
                  else
                    (zld x2.2 27 6 a0).bind fun x8 =>
                    if (x8 - a4) < a1 then
                      some ((-13), x2.2)
                    else
                      (zld x2.2 27 6 a2).bind fun x9 =>
                      if a3 ≤ (x9 - a4) then
                        f_m_shift_113 zFu a0 a1 a2 a3 a4 (0) x2.2
                      else
                        some ((-13), x2.2)
            else
              some ((-12), x2.2)
        else
          some ((-11), x2.2)
noncomputable def f_m_taken_75 (v1 : Int32) (v2 : Int32) (v3 : Int32) (s : zSt) : Option (Int32 × zSt) :=
  if v3 = v2 then
    (zld s 26 6 v1).bind fun x8 =>
    (f_m_kindOf x8 s).bind fun x9 =>
    some (x9.1, x9.2)
  else
    some ((-12), s)
noncomputable def f_m_taken_58 : Nat → Int32 → Int32 → Int32 → zSt → Option (Int32 × zSt)
  | 0, _, _, _, _ => none
  | n + 1, v1, v2, v3, s =>
    if v3 = v2 then
      f_m_taken_75 v1 v2 v3 s
    else
      if v3 ≤ 0 then
        f_m_taken_75 v1 v2 v3 s
      else
        (f_m_above v3 s).bind fun x7 =>
        (f_m_taken_58 n) v1 v2 x7.1 x7.2
noncomputable def f_m_taken (a0 : Int32) (a1 : Int32) (s : zSt) : Option (Int32 × zSt) :=
  (f_m_isShelf a0 s).bind fun x1 =>
  if x1.1 = 0 then
    some ((-1), x1.2)
  else
    (f_m_within (a1 : Int32).toInt64 (0) (7) x1.2).bind fun x2 =>
    if x2.1 = 0 then
      some ((-1), x2.2)
    else
      (zld x2.2 26 6 a0).bind fun x3 =>
      if 0 ≤ x3 then
        (zld x2.2 26 6 a0).bind fun x4 =>
        if x4 < 50 then
          (zld x2.2 26 6 a0).bind fun x5 =>
          (f_m_kindOf x5 x2.2).bind fun x6 =>
          f_m_taken_58 zFu a0 a1 x6.1 x6.2
        else
          some ((-12), x2.2)
      else
        some ((-11), x2.2)
noncomputable def f_m_count (a0 : Int32) (s : zSt) : Option (Int32 × zSt) :=
  if a0.toInt < 0 ∨ 4 < a0.toInt then
    some ((-1), s)
  else
    if a0 = 0 then
      some ((s.1 0 8), s)
    else
      if a0 = 1 then
        some ((s.1 0 11), s)
      else
        if a0 = 2 then
          some ((s.1 0 5), s)
        else
          if a0 = 3 then
            some ((s.1 0 41), s)
          else
            if a0 = 4 then
              some ((s.1 0 44), s)
            else
              none
