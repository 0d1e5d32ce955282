/-! printed by my own program: functions of the pure memory -/
def f_Told_addText  (M : pm_M) : Option (pm_M) :=
  pm_bd (pm_ms M 24 13 (i_ad (M 24 13) 1)) fun M308 =>
  some M308
def f_X_text  (M : pm_M) : Option (Int × pm_M) :=
  (f_Told_texts  M).bind fun r161 =>
  if r161 < 4 then (
    if 0 ≤ r161 ∧ r161 < 4 then (
    (f_Reader_read (pm_tx r161) M).bind fun r306 =>
    (f_Tape_cut 0 r306.2).bind fun M307 =>
    if r306.1 = 0 then (
      some ((-1), M307))
    else (
      (f_Told_addText  M307).bind fun M309 =>
      some (r161, M309))) else none)
  else (
    some ((-1), M))
def f_Reader_latestFault  (M : pm_M) : Option (Int) :=
  some (M 66 7)
def f_Reader_latestPlace  (M : pm_M) : Option (Int) :=
  some (M 66 8)
def f_X_fault (x1 : Int) (M : pm_M) : Option (Int) :=
  if x1 = 0 then (
    (f_Reader_latestFault  M).bind fun r310 =>
    some r310)
  else (
    if x1 = 1 then (
      (f_Reader_latestPlace  M).bind fun r311 =>
      some r311)
    else (
      some (-1)))
def f_Told_ruledBy (x1 : Int) (M : pm_M) : Option (pm_M) :=
  pm_bd (pm_ms M 24 14 x1) fun M312 =>
  some M312
def f_X_by (x1 : Int) (M : pm_M) : Option (Int × pm_M) :=
  if x1 = (-1) then (
    (f_Told_ruledBy x1 M).bind fun M313 =>
    some (1, M313))
  else (
    (f_Told_isText x1 M).bind fun r314 =>
    if r314 = 0 then (
      some (0, M))
    else (
      (f_Told_ruledBy x1 M).bind fun M315 =>
      some (1, M315)))
def f_Text_clauses (t0 : Nat) (M : pm_M) : Option (Int) :=
  some (M t0 5)
def f_Text_kind (t0 : Nat) (x1 : Int) (M : pm_M) : Option (Int) :=
  if 0 ≤ x1 ∧ x1 < 24 then (
  some (M (t0 + 1 + 0) (x1).toNat)) else none
def f_X_played_L23 (u2 : Nat) : Nat → Int → pm_M → Option ((Int × pm_M) ⊕ (pm_M))
  | 0, _, _ => none
  | n_ + 1, y3, M =>
    (f_Text_clauses u2 M).bind fun r318 =>
    if r318 ≤ y3 then (
      some (.inr M))
    else (
      (f_Text_first u2 y3 M).bind fun r319 =>
      (f_Text_second u2 y3 M).bind fun r320 =>
      (f_Text_kind u2 y3 M).bind fun r321 =>
      if r321 = 5 then (
        (f_X_put r319 r320 M).bind fun r322 =>
        if r322.1 = 0 then (
          some (.inl (y3, r322.2)))
        else (
          f_X_played_L23 u2 n_ (i_ad y3 1) r322.2))
      else
      if r321 = 6 then (
        (f_X_off r319 M).bind fun r323 =>
        if r323.1 = (-1) then (
          some (.inl (y3, r323.2)))
        else (
          f_X_played_L23 u2 n_ (i_ad y3 1) r323.2))
      else
      if r321 = 7 then (
        (f_X_change r319 r320 M).bind fun r324 =>
        if r324.1 = 0 then (
          some (.inl (y3, r324.2)))
        else (
          f_X_played_L23 u2 n_ (i_ad y3 1) r324.2))
      else
      if r321 = 8 then (
        (f_X_pass r319 M).bind fun r325 =>
        if r325.1 = (-1) then (
          some (.inl (y3, r325.2)))
        else (
          f_X_played_L23 u2 n_ (i_ad y3 1) r325.2))
      else
      (
        f_X_played_L23 u2 n_ (i_ad y3 1) M))
def f_X_played (x1 : Int) (M : pm_M) : Option (Int × pm_M) :=
  (f_Told_isText x1 M).bind fun r316 =>
  if r316 = 0 then (
    some ((-2), M))
  else (
    if 0 ≤ x1 ∧ x1 < 4 then (
    (f_X_played_L23 (pm_tx x1) pm_F 0 M).bind fun e330 =>
      match e330 with
      | .inl e330 => (
        some (e330.1, e330.2))
      | .inr e330 => (
      some ((-1), e330))) else none)
def f_Moment_copyFrom (x2 : Int) (M : pm_M) : Option (pm_M) :=
  if (0 ≤ (x2 : Int) ∧ 0 ≤ (0 : Int) ∧ 0 ≤ (186 : Int)) ∧ (x2 : Int) + (186 : Int) ≤ (3720 : Int) ∧ (0 : Int) + (186 : Int) ≤ (186 : Int) then (
  pm_bd (pm_cp M 2 36 (x2).toNat 0 186) fun M333 =>
  some M333) else none
def f_Steps_takeBack  (M : pm_M) : Option (Int × pm_M) :=
  if (M 1 2) = 0 then (
    some (0, M))
  else (
    pm_bd (pm_ms M 1 1 (i_rm (i_sb (i_ad (M 1 1) 20) 1) 20)) fun M331 =>
    pm_bd (pm_ms M331 1 2 (i_sb (M331 1 2) 1)) fun M332 =>
    (f_Moment_copyFrom (i_ml (M332 1 1) 186) M332).bind fun M334 =>
    some (1, M334))
def f_Steps_count  (M : pm_M) : Option (Int) :=
  some (M 1 2)
def f_X_undo  (M : pm_M) : Option (Int × pm_M) :=
  (f_Steps_takeBack  M).bind fun r335 =>
  if r335.1 = 0 then (
    some ((-1), r335.2))
  else (
    (f_Steps_count  r335.2).bind fun r336 =>
    some (r336, r335.2))
def f_X_of (x1 : Int) (x2 : Int) (M : pm_M) : Option (Int × pm_M) :=
  (f_Told_isPlinth x1 M).bind fun r337 =>
  if r337 = 0 then (
    some ((-2), M))
  else (
    (f_Moment_headAt x1 M).bind fun r338 =>
    if r338 = (-1) then (
      if x2 = 0 then (
        some (r338, M))
      else
      if x2 = 1 then (
        (f_Moment_nameAt x1 M).bind fun r339 =>
        some (r339, M))
      else
      if x2 = 2 then (
        some (0, M))
      else
      if x2 = 3 then (
        some (0, M))
      else
      if x2 = 4 then (
        some (0, M))
      else
      if x2 = 5 then (
        (f_Judge_amount 3 x1 (-1) M).bind fun r340 =>
        some (r340.1, r340.2))
      else
      if x2 = 6 then (
        some (0, M))
      else
      (
        some ((-2), M)))
    else (
      if x2 = 0 then (
        some (r338, M))
      else
      if x2 = 1 then (
        (f_Moment_nameAt x1 M).bind fun r341 =>
        some (r341, M))
      else
      if x2 = 2 then (
        (f_Judge_amount 0 x1 r338 M).bind fun r342 =>
        some (r342.1, r342.2))
      else
      if x2 = 3 then (
        (f_Judge_amount 1 x1 r338 M).bind fun r343 =>
        some (r343.1, r343.2))
      else
      if x2 = 4 then (
        (f_Judge_amount 2 x1 r338 M).bind fun r344 =>
        some (r344.1, r344.2))
      else
      if x2 = 5 then (
        some (0, M))
      else
      if x2 = 6 then (
        (f_Judge_amount 4 x1 r338 M).bind fun r345 =>
        some (r345.1, r345.2))
      else
      (
        some ((-2), M))))
def f_Told_chinOf (x1 : Int) (M : pm_M) : Option (Int) :=
  (f_Told_isHead x1 M).bind fun r364 =>
  if r364 = 0 then (
    some (-1))
  else (
    if 0 ≤ x1 ∧ x1 < 12 then (
    some (M 31 (x1).toNat)) else none)
def f_X_headOf (x1 : Int) (x2 : Int) (M : pm_M) : Option (Int) :=
  (f_Told_isHead x1 M).bind fun r360 =>
  if r360 = 0 then (
    some (-2))
  else (
    if x2 = 0 then (
      (f_Moment_placeOf x1 M).bind fun r361 =>
      some r361)
    else
    if x2 = 1 then (
      (f_Moment_debt x1 M).bind fun r362 =>
      some r362)
    else
    if x2 = 2 then (
      (f_Told_fameOf x1 M).bind fun r363 =>
      some r363)
    else
    if x2 = 3 then (
      (f_Told_chinOf x1 M).bind fun r365 =>
      some r365)
    else
    (
      some (-2)))
def f_Told_heads  (M : pm_M) : Option (Int) :=
  some (M 24 11)
def f_Placing_place (x0 : Int) (x1 : Int) (M : pm_M) : Option (Int) :=
  some (i_ad (i_ml x0 21) x1)
def f_Placing_weigh_L32  : Nat → Int → Int → Int → Int → pm_M → Option (Int × Int × pm_M)
  | 0, _, _, _, _, _ => none
  | n_ + 1, y1, y3, y4, y5, M =>
    if (M 67 11) < y5 then (
      some (y1, y3, M))
    else (
      (f_Told_isHead (i_sb y5 1) M).bind fun r375 =>
      if r375 = 0 then (
        (f_Placing_place (i_ad y3 1) y5 M).bind fun r376 =>
        if 0 ≤ r376 ∧ r376 < 189 then (
        pm_bd (pm_ms M 68 (r376).toNat y4) fun M377 =>
        if r375 = 0 then (
          if 0 ≤ r376 ∧ r376 < 189 then (
          pm_bd (pm_ms M377 69 (r376).toNat (l_sb 0 (l_ml y4 815730721))) fun M378 =>
          f_Placing_weigh_L32 n_ y1 y3 y4 (i_ad y5 1) M378) else none)
        else (
          if 0 ≤ r376 ∧ r376 < 189 then (
          pm_bd (pm_ms M377 69 (r376).toNat (l_sb (l_ml y5 y1) (l_ml y4 815730721))) fun M379 =>
          f_Placing_weigh_L32 n_ y1 y3 y4 (i_ad y5 1) M379) else none)) else none)
      else (
        (f_Judge_amount 1 y3 (i_sb y5 1) M).bind fun r380 =>
        (f_Judge_amount 0 y3 (i_sb y5 1) r380.2).bind fun r381 =>
        (f_Placing_place (i_ad y3 1) y5 r381.2).bind fun r382 =>
        if 0 ≤ r382 ∧ r382 < 189 then (
        pm_bd (pm_ms r381.2 68 (r382).toNat (i_sb r380.1 r381.1)) fun M383 =>
        if r375 = 0 then (
          if 0 ≤ r382 ∧ r382 < 189 then (
          pm_bd (pm_ms M383 69 (r382).toNat (l_sb 0 (l_ml (i_sb r380.1 r381.1) 815730721))) fun M384 =>
          f_Placing_weigh_L32 n_ y1 y3 y4 (i_ad y5 1) M384) else none)
        else (
          if 0 ≤ r382 ∧ r382 < 189 then (
          pm_bd (pm_ms M383 69 (r382).toNat (l_sb (l_ml y5 y1) (l_ml (i_sb r380.1 r381.1) 815730721))) fun M385 =>
          f_Placing_weigh_L32 n_ y1 y3 y4 (i_ad y5 1) M385) else none)) else none))
def f_Placing_weigh_L6  : Nat → Int → Int → pm_M → Option (pm_M)
  | 0, _, _, _ => none
  | n_ + 1, y1, y3, M =>
    (f_Told_plinths  M).bind fun r373 =>
    if r373 ≤ y3 then (
      some M)
    else (
      (f_Judge_amount 3 y3 (-1) M).bind fun r374 =>
      (f_Placing_weigh_L32 pm_F y1 y3 r374.1 1 r374.2).bind fun e386 =>
      f_Placing_weigh_L6 n_ (l_dv e386.1 13) (i_ad e386.2.1 1) e386.2.2)
def f_Placing_weigh  (M : pm_M) : Option (pm_M) :=
  (f_Placing_weigh_L6 pm_F 62748517 0 M).bind fun e387 =>
  some e387
def f_Arrays_fill2_70_L6  : Nat → Int → Int → Int → pm_M → Option (pm_M)
  | 0, _, _, _, _ => none
  | n_ + 1, y1, y3, y4, M =>
    if y4 ≤ y3 then (
      some M)
    else (
      if 0 ≤ y3 ∧ y3 < 9 then (
      pm_bd (pm_ms M 70 (y3).toNat y1) fun M389 =>
      f_Arrays_fill2_70_L6 n_ y1 (i_ad y3 1) y4 M389) else none)
def f_Arrays_fill2_70 (x1 : Int) (M : pm_M) : Option (pm_M) :=
  (f_Arrays_fill2_70_L6 pm_F x1 0 9 M).bind fun e390 =>
  some e390
def f_Arrays_fill2_71_L6  : Nat → Int → Int → Int → pm_M → Option (pm_M)
  | 0, _, _, _, _ => none
  | n_ + 1, y1, y3, y4, M =>
    if y4 ≤ y3 then (
      some M)
    else (
      if 0 ≤ y3 ∧ y3 < 21 then (
      pm_bd (pm_ms M 71 (y3).toNat y1) fun M392 =>
      f_Arrays_fill2_71_L6 n_ y1 (i_ad y3 1) y4 M392) else none)
def f_Arrays_fill2_71 (x1 : Int) (M : pm_M) : Option (pm_M) :=
  (f_Arrays_fill2_71_L6 pm_F x1 0 21 M).bind fun e393 =>
  some e393
def f_Arrays_fill_73_L5  : Nat → Int → Int → Int → pm_M → Option (pm_M)
  | 0, _, _, _, _ => none
  | n_ + 1, y1, y2, y3, M =>
    if y3 ≤ y2 then (
      some M)
    else (
      if 0 ≤ y2 ∧ y2 < 21 then (
      pm_bd (pm_ms M 73 (y2).toNat y1) fun M395 =>
      f_Arrays_fill_73_L5 n_ y1 (i_ad y2 1) y3 M395) else none)
def f_Arrays_fill_73 (x1 : Int) (M : pm_M) : Option (pm_M) :=
  (f_Arrays_fill_73_L5 pm_F x1 0 21 M).bind fun e396 =>
  some e396
def f_Placing_shift_L2  : Nat → Int → Int → pm_M → Option (pm_M)
  | 0, _, _, _ => none
  | n_ + 1, y1, y3, M =>
    if (M 67 11) < y3 then (
      some M)
    else (
      if 0 ≤ y3 ∧ y3 < 21 then (
      if (M 75 (y3).toNat) = 0 then (
        if 0 ≤ y3 ∧ y3 < 21 then (
        if 0 ≤ y3 ∧ y3 < 21 then (
        pm_bd (pm_ms M 72 (y3).toNat (l_sb (M 72 (y3).toNat) y1)) fun M408 =>
        f_Placing_shift_L2 n_ y1 (i_ad y3 1) M408) else none) else none)
      else (
        if 0 ≤ y3 ∧ y3 < 21 then (
        if 0 ≤ (M 73 (y3).toNat) ∧ (M 73 (y3).toNat) < 9 then (
        if 0 ≤ (M 73 (y3).toNat) ∧ (M 73 (y3).toNat) < 9 then (
        pm_bd (pm_ms M 70 ((M 73 (y3).toNat)).toNat (l_ad (M 70 ((M 73 (y3).toNat)).toNat) y1)) fun M409 =>
        if 0 ≤ y3 ∧ y3 < 21 then (
        if 0 ≤ y3 ∧ y3 < 21 then (
        pm_bd (pm_ms M409 71 (y3).toNat (l_sb (M409 71 (y3).toNat) y1)) fun M410 =>
        f_Placing_shift_L2 n_ y1 (i_ad y3 1) M410) else none) else none) else none) else none) else none)) else none)
def f_Placing_shift (x1 : Int) (M : pm_M) : Option (pm_M) :=
  (f_Placing_shift_L2 pm_F x1 0 M).bind fun e411 =>
  some e411
def f_Placing_nearestFrom_L17  : Nat → Int → Int → Int → Int → Int → pm_M → Option (Int × Int × pm_M)
  | 0, _, _, _, _, _, _ => none
  | n_ + 1, y1, y2, y3, y5, y6, M =>
    if (M 67 11) < y6 then (
      some (y3, y5, M))
    else (
      if 0 ≤ y6 ∧ y6 < 21 then (
      if (M 75 (y6).toNat) = 0 then (
        (f_Placing_place y2 y6 M).bind fun r404 =>
        if 0 ≤ r404 ∧ r404 < 189 then (
        if 0 ≤ y2 ∧ y2 < 9 then (
        if 0 ≤ y6 ∧ y6 < 21 then (
        if 0 ≤ y6 ∧ y6 < 21 then (
        if (M 72 (y6).toNat) ≤ (l_sb (l_sb (M 69 (r404).toNat) (M 70 (y2).toNat)) (M 71 (y6).toNat)) then (
          if 0 ≤ y6 ∧ y6 < 21 then (
          if y3 ≤ (M 72 (y6).toNat) then (
            f_Placing_nearestFrom_L17 n_ y1 y2 y3 y5 (i_ad y6 1) M)
          else (
            if 0 ≤ y6 ∧ y6 < 21 then (
            f_Placing_nearestFrom_L17 n_ y1 y2 (M 72 (y6).toNat) y6 (i_ad y6 1) M) else none)) else none)
        else (
          if 0 ≤ y6 ∧ y6 < 21 then (
          pm_bd (pm_ms M 72 (y6).toNat (l_sb (l_sb (M 69 (r404).toNat) (M 70 (y2).toNat)) (M 71 (y6).toNat))) fun M405 =>
          if 0 ≤ y6 ∧ y6 < 21 then (
          pm_bd (pm_ms M405 74 (y6).toNat y1) fun M406 =>
          if 0 ≤ y6 ∧ y6 < 21 then (
          if y3 ≤ (M406 72 (y6).toNat) then (
            f_Placing_nearestFrom_L17 n_ y1 y2 y3 y5 (i_ad y6 1) M406)
          else (
            if 0 ≤ y6 ∧ y6 < 21 then (
            f_Placing_nearestFrom_L17 n_ y1 y2 (M406 72 (y6).toNat) y6 (i_ad y6 1) M406) else none)) else none) else none) else none)) else none) else none) else none) else none)
      else (
        f_Placing_nearestFrom_L17 n_ y1 y2 y3 y5 (i_ad y6 1) M)) else none)
def f_Placing_nearestFrom (x1 : Int) (M : pm_M) : Option (Int × pm_M) :=
  if 0 ≤ x1 ∧ x1 < 21 then (
  (f_Placing_nearestFrom_L17 pm_F x1 (M 73 (x1).toNat) 1152921504606846976 0 1 M).bind fun e407 =>
  (f_Placing_shift e407.1 e407.2.2).bind fun M412 =>
  some (e407.2.1, M412)) else none
def f_Placing_match_L2  : Nat → Int → Int → pm_M → Option (Int × pm_M)
  | 0, _, _, _ => none
  | n_ + 1, y1, y2, M =>
    if (M 67 11) < y2 then (
      some (y1, M))
    else (
      if 0 ≤ y2 ∧ y2 < 21 then (
      pm_bd (pm_ms M 72 (y2).toNat 1152921504606846976) fun M399 =>
      if 0 ≤ y2 ∧ y2 < 21 then (
      pm_bd (pm_ms M399 75 (y2).toNat 0) fun M400 =>
      f_Placing_match_L2 n_ y1 (i_ad y2 1) M400) else none) else none)
def f_Placing_match_L43  : Nat → Int → Int → pm_M → Option (Int × pm_M)
  | 0, _, _, _ => none
  | n_ + 1, y2, y3, M =>
    if (M 67 11) < y3 then (
      some (y2, M))
    else (
      if 0 ≤ y2 ∧ y2 < 21 then (
      if (M 73 (y2).toNat) = 0 then (
        some (y2, M))
      else (
        if 0 ≤ y2 ∧ y2 < 21 then (
        pm_bd (pm_ms M 75 (y2).toNat 1) fun M403 =>
        (f_Placing_nearestFrom y2 M403).bind fun r413 =>
        f_Placing_match_L43 n_ r413.1 (i_ad y3 1) r413.2) else none)) else none)
def f_Placing_match_L81  : Nat → Int → Int → pm_M → Option (pm_M)
  | 0, _, _, _ => none
  | n_ + 1, y2, y3, M =>
    if (M 67 11) < y3 then (
      some M)
    else (
      if y2 = 0 then (
        some M)
      else (
        if 0 ≤ y2 ∧ y2 < 21 then (
        if 0 ≤ (M 74 (y2).toNat) ∧ (M 74 (y2).toNat) < 21 then (
        if 0 ≤ y2 ∧ y2 < 21 then (
        pm_bd (pm_ms M 73 (y2).toNat (M 73 ((M 74 (y2).toNat)).toNat)) fun M415 =>
        f_Placing_match_L81 n_ (M 74 (y2).toNat) (i_ad y3 1) M415) else none) else none) else none))
def f_Placing_match (x1 : Int) (M : pm_M) : Option (pm_M) :=
  (f_Placing_match_L2 pm_F x1 0 M).bind fun e401 =>
  pm_bd (pm_ms e401.2 73 0 e401.1) fun M402 =>
  (f_Placing_match_L43 pm_F 0 0 M402).bind fun e414 =>
  (f_Placing_match_L81 pm_F e414.1 0 e414.2).bind fun e416 =>
  some e416
def f_Placing_solve_L49  : Nat → Int → pm_M → Option (pm_M)
  | 0, _, _ => none
  | n_ + 1, y1, M =>
    (f_Told_plinths  M).bind fun r398 =>
    if r398 < y1 then (
      some M)
    else (
      (f_Placing_match y1 M).bind fun M417 =>
      f_Placing_solve_L49 n_ (i_ad y1 1) M417)
def f_Placing_solve_L78  : Nat → Int → pm_M → Option (pm_M)
  | 0, _, _ => none
  | n_ + 1, y1, M =>
    if (M 67 11) < y1 then (
      some M)
    else (
      if 0 ≤ y1 ∧ y1 < 21 then (
      if (M 73 (y1).toNat) ≤ 0 then (
        f_Placing_solve_L78 n_ (i_ad y1 1) M)
      else (
        (f_Told_heads  M).bind fun r420 =>
        if r420 < y1 then (
          if 0 ≤ (i_sb (M 73 (y1).toNat) 1) ∧ (i_sb (M 73 (y1).toNat) 1) < 8 then (
          pm_bd (pm_ms M 76 ((i_sb (M 73 (y1).toNat) 1)).toNat (-1)) fun M421 =>
          (f_Placing_place (M 73 (y1).toNat) y1 M421).bind fun r422 =>
          if 0 ≤ r422 ∧ r422 < 189 then (
          pm_bd (pm_ms M421 67 12 (i_ad (M421 67 12) (M421 68 (r422).toNat))) fun M423 =>
          f_Placing_solve_L78 n_ (i_ad y1 1) M423) else none) else none)
        else (
          if 0 ≤ (i_sb (M 73 (y1).toNat) 1) ∧ (i_sb (M 73 (y1).toNat) 1) < 8 then (
          pm_bd (pm_ms M 76 ((i_sb (M 73 (y1).toNat) 1)).toNat (i_sb y1 1)) fun M424 =>
          (f_Placing_place (M 73 (y1).toNat) y1 M424).bind fun r425 =>
          if 0 ≤ r425 ∧ r425 < 189 then (
          pm_bd (pm_ms M424 67 12 (i_ad (M424 67 12) (M424 68 (r425).toNat))) fun M426 =>
          f_Placing_solve_L78 n_ (i_ad y1 1) M426) else none) else none))) else none)
def f_Placing_solve  (M : pm_M) : Option (pm_M) :=
  (f_Told_heads  M).bind fun r370 =>
  (f_Told_plinths  M).bind fun r371 =>
  pm_bd (pm_ms M 67 11 (i_ad r370 r371)) fun M372 =>
  (f_Placing_weigh  M372).bind fun M388 =>
  (f_Arrays_fill2_70 0 M388).bind fun M391 =>
  (f_Arrays_fill2_71 0 M391).bind fun M394 =>
  (f_Arrays_fill_73 0 M394).bind fun M397 =>
  (f_Placing_solve_L49 pm_F 1 M397).bind fun e418 =>
  pm_bd (pm_ms e418 67 12 0) fun M419 =>
  (f_Placing_solve_L78 pm_F 1 M419).bind fun e427 =>
  some e427
def f_Placing_shillings  (M : pm_M) : Option (Int) :=
  some (M 67 12)
def f_Placing_headFor (x1 : Int) (M : pm_M) : Option (Int) :=
  if 0 ≤ x1 ∧ x1 < 8 then (
  some (M 76 (x1).toNat)) else none
def f_X_best (x1 : Int) (M : pm_M) : Option (Int × pm_M) :=
  if x1 = (-1) then (
    (f_Placing_solve  M).bind fun M428 =>
    if x1 = (-1) then (
      (f_Placing_shillings  M428).bind fun r429 =>
      some (r429, M428))
    else (
      (f_Placing_headFor x1 M428).bind fun r430 =>
      some (r430, M428)))
  else (
    (f_Told_isPlinth x1 M).bind fun r431 =>
    if r431 = 0 then (
      some ((-100000), M))
    else (
      (f_Placing_solve  M).bind fun M432 =>
      if x1 = (-1) then (
        (f_Placing_shillings  M432).bind fun r433 =>
        some (r433, M432))
      else (
        (f_Placing_headFor x1 M432).bind fun r434 =>
        some (r434, M432))))
def f_Told_addSeen (x1 : Int) (x2 : Int) (x3 : Int) (M : pm_M) : Option (Int × pm_M) :=
  if 12 ≤ (M 24 12) then (
    some ((-1), M))
  else (
    if x1 < 1 then (
      some ((-1), M))
    else (
      if 8 < x1 then (
        some ((-1), M))
      else (
        (f_Told_isPlinth x2 M).bind fun r435 =>
        if r435 = 0 then (
          some ((-1), M))
        else (
          if x3 < (-1) then (
            some ((-1), M))
          else (
            if x3 ≤ 3 then (
              if 0 ≤ (M 24 12) ∧ (M 24 12) < 12 then (
              pm_bd (pm_ms M 32 ((M 24 12)).toNat x1) fun M436 =>
              if 0 ≤ (M436 24 12) ∧ (M436 24 12) < 12 then (
              pm_bd (pm_ms M436 33 ((M436 24 12)).toNat x2) fun M437 =>
              if 0 ≤ (M437 24 12) ∧ (M437 24 12) < 12 then (
              pm_bd (pm_ms M437 34 ((M437 24 12)).toNat x3) fun M438 =>
              pm_bd (pm_ms M438 24 12 (i_ad (M438 24 12) 1)) fun M439 =>
              some ((M439 24 12), M439)) else none) else none) else none)
            else (
              some ((-1), M)))))))
def f_X_seen (x1 : Int) (x2 : Int) (x3 : Int) (M : pm_M) : Option (Int × pm_M) :=
  (f_Told_addSeen x1 x2 x3 M).bind fun r440 =>
  some (r440.1, r440.2)
def f_Told_dropSeen  (M : pm_M) : Option (Int × pm_M) :=
  pm_bd (pm_ms M 24 12 0) fun M441 =>
  some ((M 24 12), M441)
def f_X_forget  (M : pm_M) : Option (Int × pm_M) :=
  (f_Told_dropSeen  M).bind fun r442 =>
  some (r442.1, r442.2)
def f_Nights_swapScratch (x1 : Int) (x2 : Int) (M : pm_M) : Option (pm_M) :=
  if 0 ≤ x1 ∧ x1 < 5 then (
  if 0 ≤ x2 ∧ x2 < 5 then (
  if 0 ≤ x1 ∧ x1 < 5 then (
  pm_bd (pm_ms M 82 (x1).toNat (M 82 (x2).toNat)) fun M446 =>
  if 0 ≤ x2 ∧ x2 < 5 then (
  pm_bd (pm_ms M446 82 (x2).toNat (M 82 (x1).toNat)) fun M447 =>
  some M447) else none) else none) else none) else none
def f_Nights_write_L2  : Nat → Int → Int → pm_M → Option (Int × pm_M)
  | 0, _, _, _ => none
  | n_ + 1, y1, y2, M =>
    if 5 ≤ y2 then (
      some (y1, M))
    else (
      if 0 ≤ y2 ∧ y2 < 5 then (
      pm_bd (pm_ms M 82 (y2).toNat y2) fun M444 =>
      f_Nights_write_L2 n_ y1 (i_ad y2 1) M444) else none)
def f_Nights_write_L24  : Nat → Int → Int → pm_M → Option (pm_M)
  | 0, _, _, _ => none
  | n_ + 1, y2, y3, M =>
    if 5 ≤ y3 then (
      some M)
    else (
      if (i_ad y3 1) = 0 then none else (
      (f_Nights_swapScratch (i_rm y2 (i_ad y3 1)) y3 M).bind fun M448 =>
      if (i_ad y3 1) = 0 then none else (
      f_Nights_write_L24 n_ (i_dv y2 (i_ad y3 1)) (i_ad y3 1) M448)))
def f_Nights_write (x1 : Int) (M : pm_M) : Option (pm_M) :=
  (f_Nights_write_L2 pm_F x1 0 M).bind fun e445 =>
  (f_Nights_write_L24 pm_F e445.1 1 e445.2).bind fun e449 =>
  some e449
def f_Nights_swapOf (x0 : Int) (x1 : Int) (M : pm_M) : Option (Int) :=
  some (i_ad (i_dv (i_ml x1 (i_sb x1 1)) 2) x0)
def f_Nights_numberOfScratch_L13 (M : pm_M) : Nat → Int → Int → Int → Int → Option (Int × Int × Int)
  | 0, _, _, _, _ => none
  | n_ + 1, y1, y2, y3, y4 =>
    if y2 < y4 then (
      some (y1, y2, y3))
    else (
      if 0 ≤ y4 ∧ y4 < 5 then (
      if (M 82 (y4).toNat) = y2 then (
        f_Nights_numberOfScratch_L13 M n_ y1 y2 y4 (i_ad y4 1))
      else (
        f_Nights_numberOfScratch_L13 M n_ y1 y2 y3 (i_ad y4 1))) else none)
def f_Nights_numberOfScratch_L4  : Nat → Int → Int → pm_M → Option (Int × pm_M)
  | 0, _, _, _ => none
  | n_ + 1, y1, y2, M =>
    if y2 ≤ 0 then (
      some (y1, M))
    else (
      (f_Nights_numberOfScratch_L13 M pm_F y1 y2 0 1).bind fun e456 =>
      (f_Nights_swapScratch e456.2.2 e456.2.1 M).bind fun M457 =>
      pm_bd (i_ad (i_ml e456.1 (i_ad e456.2.1 1)) e456.2.2) fun v458 =>
      f_Nights_numberOfScratch_L4 n_ v458 (i_ad e456.2.1 (-1)) M457)
def f_Nights_numberOfScratch  (M : pm_M) : Option (Int × pm_M) :=
  (f_Nights_numberOfScratch_L4 pm_F 0 4 M).bind fun e459 =>
  some (e459.1, e459.2)
def f_Nights_makeStates_L2  : Nat → Int → pm_M → Option (pm_M)
  | 0, _, _ => none
  | n_ + 1, y1, M =>
    if 120 ≤ y1 then (
      some M)
    else (
      (f_Nights_write y1 M).bind fun M450 =>
      if (0 ≤ (0 : Int) ∧ 0 ≤ ((i_ml y1 5) : Int) ∧ 0 ≤ (5 : Int)) ∧ (0 : Int) + (5 : Int) ≤ (5 : Int) ∧ ((i_ml y1 5) : Int) + (5 : Int) ≤ (600 : Int) then (
      pm_bd (pm_cp M450 82 78 0 ((i_ml y1 5)).toNat 5) fun M451 =>
      f_Nights_makeStates_L2 n_ (i_ad y1 1) M451) else none)
def f_Nights_makeStates_L52  : Nat → Int → Int → Int → pm_M → Option (Int × Int × pm_M)
  | 0, _, _, _, _ => none
  | n_ + 1, y1, y2, y3, M =>
    if y2 ≤ y3 then (
      some (y1, y2, M))
    else (
      if (0 ≤ ((i_ml y1 5) : Int) ∧ 0 ≤ (0 : Int) ∧ 0 ≤ (5 : Int)) ∧ ((i_ml y1 5) : Int) + (5 : Int) ≤ (600 : Int) ∧ (0 : Int) + (5 : Int) ≤ (5 : Int) then (
      pm_bd (pm_cp M 78 82 ((i_ml y1 5)).toNat 0 5) fun M453 =>
      (f_Nights_swapScratch y3 y2 M453).bind fun M454 =>
      (f_Nights_swapOf y3 y2 M454).bind fun r455 =>
      (f_Nights_numberOfScratch  M454).bind fun r460 =>
      if 0 ≤ (i_ad (i_ml y1 10) r455) ∧ (i_ad (i_ml y1 10) r455) < 1200 then (
      pm_bd (pm_ms r460.2 79 ((i_ad (i_ml y1 10) r455)).toNat r460.1) fun M461 =>
      f_Nights_makeStates_L52 n_ y1 y2 (i_ad y3 1) M461) else none) else none)
def f_Nights_makeStates_L45  : Nat → Int → Int → pm_M → Option (Int × pm_M)
  | 0, _, _, _ => none
  | n_ + 1, y1, y2, M =>
    if 5 ≤ y2 then (
      some (y1, M))
    else (
      (f_Nights_makeStates_L52 pm_F y1 y2 0 M).bind fun e462 =>
      f_Nights_makeStates_L45 n_ e462.1 (i_ad e462.2.1 1) e462.2.2)
def f_Nights_makeStates_L37  : Nat → Int → pm_M → Option (pm_M)
  | 0, _, _ => none
  | n_ + 1, y1, M =>
    if 120 ≤ y1 then (
      some M)
    else (
      (f_Nights_makeStates_L45 pm_F y1 1 M).bind fun e463 =>
      f_Nights_makeStates_L37 n_ (i_ad e463.1 1) e463.2)
def f_Nights_makeStates  (M : pm_M) : Option (pm_M) :=
  (f_Nights_makeStates_L2 pm_F 0 M).bind fun e452 =>
  (f_Nights_makeStates_L37 pm_F 0 e452).bind fun e464 =>
  some e464
def f_Nights_headIn (x1 : Int) (x2 : Int) (M : pm_M) : Option (Int) :=
  if 0 ≤ (i_ad (i_ml x1 5) x2) ∧ (i_ad (i_ml x1 5) x2) < 600 then (
  (f_Moment_headAt (M 78 ((i_ad (i_ml x1 5) x2)).toNat) M).bind fun r468 =>
  some r468) else none
def f_Nights_looksAsNow_L2 (M : pm_M) : Nat → Int → Int → Option ((Unit) ⊕ (Unit))
  | 0, _, _ => none
  | n_ + 1, y1, y2 =>
    if 5 ≤ y2 then (
      some (.inr ()))
    else (
      if 0 ≤ (i_ad (i_ml y1 5) y2) ∧ (i_ad (i_ml y1 5) y2) < 600 then (
      if (M 78 ((i_ad (i_ml y1 5) y2)).toNat) = y2 then (
        f_Nights_looksAsNow_L2 M n_ y1 (i_ad y2 1))
      else (
        (f_Told_plinths  M).bind fun r467 =>
        if r467 ≤ y2 then (
          some (.inl ()))
        else (
          (f_Nights_headIn y1 y2 M).bind fun r469 =>
          (f_Moment_headAt y2 M).bind fun r470 =>
          if r469 = r470 then (
            f_Nights_looksAsNow_L2 M n_ y1 (i_ad y2 1))
          else (
            some (.inl ()))))) else none)
def f_Nights_looksAsNow (x1 : Int) (M : pm_M) : Option (Int) :=
  (f_Nights_looksAsNow_L2 M pm_F x1 0).bind fun e471 =>
    match e471 with
    | .inl e471 => (
      some 0)
    | .inr e471 => (
    some 1)
def f_Nights_spread_77_80_L30  : Nat → Int → Int → Int → Int → pm_M → Option (Int × Int × pm_M)
  | 0, _, _, _, _, _ => none
  | n_ + 1, y2, y3, y4, y5, M =>
    if 120 ≤ y5 then (
      some (y2, y3, M))
    else (
      if 0 ≤ (i_ad (i_ml y5 10) y4) ∧ (i_ad (i_ml y5 10) y4) < 1200 then (
      if 0 ≤ (M 79 ((i_ad (i_ml y5 10) y4)).toNat) ∧ (M 79 ((i_ad (i_ml y5 10) y4)).toNat) < 120 then (
      pm_bd (i_ad (M 80 ((M 79 ((i_ad (i_ml y5 10) y4)).toNat)).toNat) 1) fun v480 =>
      if 0 ≤ y5 ∧ y5 < 120 then (
      if (M 80 (y5).toNat) ≤ v480 then (
        f_Nights_spread_77_80_L30 n_ y2 y3 y4 (i_ad y5 1) M)
      else (
        if 0 ≤ y5 ∧ y5 < 120 then (
        pm_bd (pm_ms M 80 (y5).toNat v480) fun M481 =>
        f_Nights_spread_77_80_L30 n_ y2 y3 y4 (i_ad y5 1) M481) else none)) else none) else none) else none)
def f_Nights_spread_77_80_L15  : Nat → Int → Int → pm_M → Option (Int × pm_M)
  | 0, _, _, _ => none
  | n_ + 1, y2, y3, M =>
    if y2 ≤ y3 then (
      some (y2, M))
    else (
      (f_Nights_swapOf y3 y2 M).bind fun r479 =>
      (f_Nights_spread_77_80_L30 pm_F y2 y3 r479 0 M).bind fun e482 =>
      f_Nights_spread_77_80_L15 n_ e482.1 (i_ad e482.2.1 1) e482.2.2)
def f_Nights_spread_77_80_L2  : Nat → Int → pm_M → Option (pm_M)
  | 0, _, _ => none
  | n_ + 1, y2, M =>
    (f_Told_plinths  M).bind fun r478 =>
    if r478 ≤ y2 then (
      some M)
    else (
      (f_Nights_spread_77_80_L15 pm_F y2 0 M).bind fun e483 =>
      f_Nights_spread_77_80_L2 n_ (i_ad e483.1 1) e483.2)
def f_Nights_spread_77_80  (M : pm_M) : Option (pm_M) :=
  (f_Nights_spread_77_80_L2 pm_F 1 M).bind fun e484 =>
  some e484
def f_Told_countSeen  (M : pm_M) : Option (Int) :=
  some (M 24 12)
def f_Told_nightSeen (x1 : Int) (M : pm_M) : Option (Int) :=
  if 0 ≤ x1 ∧ x1 < 12 then (
  some (M 32 (x1).toNat)) else none
def f_Told_plinthSeen (x1 : Int) (M : pm_M) : Option (Int) :=
  if 0 ≤ x1 ∧ x1 < 12 then (
  some (M 33 (x1).toNat)) else none
def f_Told_chinSeen (x1 : Int) (M : pm_M) : Option (Int) :=
  if 0 ≤ x1 ∧ x1 < 12 then (
  some (M 34 (x1).toNat)) else none
def f_Nights_keepSeen_77_80_L38  : Nat → Int → Int → Int → Int → pm_M → Option (Int × Int × pm_M)
  | 0, _, _, _, _, _ => none
  | n_ + 1, y2, y3, y4, y5, M =>
    if 120 ≤ y5 then (
      some (y2, y3, M))
    else (
      (f_Nights_headIn y5 y4 M).bind fun r489 =>
      (f_Told_chinOf r489 M).bind fun r490 =>
      (f_Told_chinSeen y3 M).bind fun r491 =>
      if r490 = r491 then (
        f_Nights_keepSeen_77_80_L38 n_ y2 y3 y4 (i_ad y5 1) M)
      else (
        if 0 ≤ y5 ∧ y5 < 120 then (
        pm_bd (pm_ms M 80 (y5).toNat 1000) fun M492 =>
        f_Nights_keepSeen_77_80_L38 n_ y2 y3 y4 (i_ad y5 1) M492) else none))
def f_Nights_keepSeen_77_80_L2  : Nat → Int → Int → pm_M → Option (pm_M)
  | 0, _, _, _ => none
  | n_ + 1, y2, y3, M =>
    (f_Told_countSeen  M).bind fun r486 =>
    if r486 ≤ y3 then (
      some M)
    else (
      (f_Told_nightSeen y3 M).bind fun r487 =>
      if r487 = y2 then (
        (f_Told_plinthSeen y3 M).bind fun r488 =>
        (f_Nights_keepSeen_77_80_L38 pm_F y2 y3 r488 0 M).bind fun e493 =>
        f_Nights_keepSeen_77_80_L2 n_ e493.1 (i_ad e493.2.1 1) e493.2.2)
      else (
        f_Nights_keepSeen_77_80_L2 n_ y2 (i_ad y3 1) M))
def f_Nights_keepSeen_77_80 (x2 : Int) (M : pm_M) : Option (pm_M) :=
  (f_Nights_keepSeen_77_80_L2 pm_F x2 0 M).bind fun e494 =>
  some e494
def f_Nights_keepSeen_77_81_L38  : Nat → Int → Int → Int → Int → pm_M → Option (Int × Int × pm_M)
  | 0, _, _, _, _, _ => none
  | n_ + 1, y2, y3, y4, y5, M =>
    if 120 ≤ y5 then (
      some (y2, y3, M))
    else (
      (f_Nights_headIn y5 y4 M).bind fun r500 =>
      (f_Told_chinOf r500 M).bind fun r501 =>
      (f_Told_chinSeen y3 M).bind fun r502 =>
      if r501 = r502 then (
        f_Nights_keepSeen_77_81_L38 n_ y2 y3 y4 (i_ad y5 1) M)
      else (
        if 0 ≤ y5 ∧ y5 < 120 then (
        pm_bd (pm_ms M 81 (y5).toNat 1000) fun M503 =>
        f_Nights_keepSeen_77_81_L38 n_ y2 y3 y4 (i_ad y5 1) M503) else none))
def f_Nights_keepSeen_77_81_L2  : Nat → Int → Int → pm_M → Option (pm_M)
  | 0, _, _, _ => none
  | n_ + 1, y2, y3, M =>
    (f_Told_countSeen  M).bind fun r497 =>
    if r497 ≤ y3 then (
      some M)
    else (
      (f_Told_nightSeen y3 M).bind fun r498 =>
      if r498 = y2 then (
        (f_Told_plinthSeen y3 M).bind fun r499 =>
        (f_Nights_keepSeen_77_81_L38 pm_F y2 y3 r499 0 M).bind fun e504 =>
        f_Nights_keepSeen_77_81_L2 n_ e504.1 (i_ad e504.2.1 1) e504.2.2)
      else (
        f_Nights_keepSeen_77_81_L2 n_ y2 (i_ad y3 1) M))
def f_Nights_keepSeen_77_81 (x2 : Int) (M : pm_M) : Option (pm_M) :=
  (f_Nights_keepSeen_77_81_L2 pm_F x2 0 M).bind fun e505 =>
  some e505
def f_Nights_spread_77_81_L30  : Nat → Int → Int → Int → Int → pm_M → Option (Int × Int × pm_M)
  | 0, _, _, _, _, _ => none
  | n_ + 1, y2, y3, y4, y5, M =>
    if 120 ≤ y5 then (
      some (y2, y3, M))
    else (
      if 0 ≤ (i_ad (i_ml y5 10) y4) ∧ (i_ad (i_ml y5 10) y4) < 1200 then (
      if 0 ≤ (M 79 ((i_ad (i_ml y5 10) y4)).toNat) ∧ (M 79 ((i_ad (i_ml y5 10) y4)).toNat) < 120 then (
      pm_bd (i_ad (M 81 ((M 79 ((i_ad (i_ml y5 10) y4)).toNat)).toNat) 1) fun v509 =>
      if 0 ≤ y5 ∧ y5 < 120 then (
      if (M 81 (y5).toNat) ≤ v509 then (
        f_Nights_spread_77_81_L30 n_ y2 y3 y4 (i_ad y5 1) M)
      else (
        if 0 ≤ y5 ∧ y5 < 120 then (
        pm_bd (pm_ms M 81 (y5).toNat v509) fun M510 =>
        f_Nights_spread_77_81_L30 n_ y2 y3 y4 (i_ad y5 1) M510) else none)) else none) else none) else none)
def f_Nights_spread_77_81_L15  : Nat → Int → Int → pm_M → Option (Int × pm_M)
  | 0, _, _, _ => none
  | n_ + 1, y2, y3, M =>
    if y2 ≤ y3 then (
      some (y2, M))
    else (
      (f_Nights_swapOf y3 y2 M).bind fun r508 =>
      (f_Nights_spread_77_81_L30 pm_F y2 y3 r508 0 M).bind fun e511 =>
      f_Nights_spread_77_81_L15 n_ e511.1 (i_ad e511.2.1 1) e511.2.2)
def f_Nights_spread_77_81_L2  : Nat → Int → pm_M → Option (pm_M)
  | 0, _, _ => none
  | n_ + 1, y2, M =>
    (f_Told_plinths  M).bind fun r507 =>
    if r507 ≤ y2 then (
      some M)
    else (
      (f_Nights_spread_77_81_L15 pm_F y2 0 M).bind fun e512 =>
      f_Nights_spread_77_81_L2 n_ (i_ad e512.1 1) e512.2)
def f_Nights_spread_77_81  (M : pm_M) : Option (pm_M) :=
  (f_Nights_spread_77_81_L2 pm_F 1 M).bind fun e513 =>
  some e513
def f_Nights_search_L31  : Nat → Int → Int → pm_M → Option (Int × pm_M)
  | 0, _, _, _ => none
  | n_ + 1, y1, y2, M =>
    if 120 ≤ y2 then (
      some (y1, M))
    else (
      (f_Nights_looksAsNow y2 M).bind fun r472 =>
      if r472 = 0 then (
        if 0 ≤ y2 ∧ y2 < 120 then (
        pm_bd (pm_ms M 80 (y2).toNat 1000) fun M473 =>
        if 0 ≤ y2 ∧ y2 < 120 then (
        pm_bd (pm_ms M473 81 (y2).toNat 0) fun M474 =>
        f_Nights_search_L31 n_ y1 (i_ad y2 1) M474) else none) else none)
      else (
        if 0 ≤ y2 ∧ y2 < 120 then (
        pm_bd (pm_ms M 80 (y2).toNat 0) fun M475 =>
        if 0 ≤ y2 ∧ y2 < 120 then (
        pm_bd (pm_ms M475 81 (y2).toNat 0) fun M476 =>
        f_Nights_search_L31 n_ y1 (i_ad y2 1) M476) else none) else none))
def f_Nights_search_L73  : Nat → Int → Int → pm_M → Option (Int × pm_M)
  | 0, _, _, _ => none
  | n_ + 1, y1, y2, M =>
    if y1 < y2 then (
      some (y1, M))
    else (
      (f_Nights_spread_77_80  M).bind fun M485 =>
      (f_Nights_keepSeen_77_80 y2 M485).bind fun M495 =>
      f_Nights_search_L73 n_ y1 (i_ad y2 1) M495)
def f_Nights_search_L104  : Nat → Int → Int → pm_M → Option (pm_M)
  | 0, _, _, _ => none
  | n_ + 1, y1, y2, M =>
    if y2 ≤ y1 then (
      some M)
    else (
      (f_Nights_keepSeen_77_81 y2 M).bind fun M506 =>
      (f_Nights_spread_77_81  M506).bind fun M514 =>
      f_Nights_search_L104 n_ y1 (i_ad y2 (-1)) M514)
def f_Nights_search_L141  : Nat → Int → pm_M → Option (pm_M)
  | 0, _, _ => none
  | n_ + 1, y2, M =>
    if 120 ≤ y2 then (
      some M)
    else (
      if 0 ≤ y2 ∧ y2 < 120 then (
      if 0 ≤ y2 ∧ y2 < 120 then (
      pm_bd (pm_ms M 77 8 (i_mn (M 77 8) (i_ad (M 80 (y2).toNat) (M 81 (y2).toNat)))) fun M517 =>
      f_Nights_search_L141 n_ (i_ad y2 1) M517) else none) else none)
def f_Nights_search (x1 : Int) (M : pm_M) : Option (Int × pm_M) :=
  (f_Told_plinths  M).bind fun r443 =>
  if r443 ≤ 5 then (
    if (M 77 7) = 0 then (
      (f_Nights_makeStates  M).bind fun M465 =>
      pm_bd (pm_ms M465 77 7 1) fun M466 =>
      (f_Nights_search_L31 pm_F x1 0 M466).bind fun e477 =>
      (f_Nights_search_L73 pm_F e477.1 1 e477.2).bind fun e496 =>
      (f_Nights_search_L104 pm_F e496.1 8 e496.2).bind fun e515 =>
      pm_bd (pm_ms e515 77 8 1000) fun M516 =>
      (f_Nights_search_L141 pm_F 0 M516).bind fun e518 =>
      if 1000 ≤ (e518 77 8) then (
        some ((-1), e518))
      else (
        some ((e518 77 8), e518)))
    else (
      (f_Nights_search_L31 pm_F x1 0 M).bind fun e519 =>
      (f_Nights_search_L73 pm_F e519.1 1 e519.2).bind fun e520 =>
      (f_Nights_search_L104 pm_F e520.1 8 e520.2).bind fun e521 =>
      pm_bd (pm_ms e521 77 8 1000) fun M522 =>
      (f_Nights_search_L141 pm_F 0 M522).bind fun e523 =>
      if 1000 ≤ (e523 77 8) then (
        some ((-1), e523))
      else (
        some ((e523 77 8), e523))))
  else (
    some ((-1), M))
def f_X_fewest  (M : pm_M) : Option (Int × pm_M) :=
  (f_Nights_search 8 M).bind fun r524 =>
  some (r524.1, r524.2)
def f_Nights_headsAt_L4 (M : pm_M) : Nat → Int → Int → Int → Option (Int)
  | 0, _, _, _ => none
  | n_ + 1, y1, y2, y3 =>
    if 120 ≤ y3 then (
      some y2)
    else (
      if 0 ≤ y3 ∧ y3 < 120 then (
      if 0 ≤ y3 ∧ y3 < 120 then (
      if (i_ad (M 80 (y3).toNat) (M 81 (y3).toNat)) = (M 77 8) then (
        (f_Nights_headIn y3 y1 M).bind fun r527 =>
        if r527 = (-1) then (
          f_Nights_headsAt_L4 M n_ y1 (i_or y2 4096) (i_ad y3 1))
        else (
          pm_bd (i_or y2 (i_sl 1 r527)) fun v528 =>
          f_Nights_headsAt_L4 M n_ y1 v528 (i_ad y3 1)))
      else (
        f_Nights_headsAt_L4 M n_ y1 y2 (i_ad y3 1))) else none) else none)
def f_Nights_headsAt (x1 : Int) (M : pm_M) : Option (Int) :=
  (f_Nights_headsAt_L4 M pm_F x1 0 0).bind fun e529 =>
  some e529
def f_X_who (x1 : Int) (x2 : Int) (M : pm_M) : Option (Int × pm_M) :=
  if x1 < 0 then (
    some ((-1), M))
  else (
    if 8 < x1 then (
      some ((-1), M))
    else (
      (f_Told_isPlinth x2 M).bind fun r525 =>
      if r525 = 0 then (
        some ((-1), M))
      else (
        (f_Nights_search x1 M).bind fun r526 =>
        if r526.1 = (-1) then (
          some ((-1), r526.2))
        else (
          (f_Nights_headsAt x2 r526.2).bind fun r530 =>
          some (r530, r526.2)))))
def f_Moment_daysStood (x1 : Int) (x2 : Int) (M : pm_M) : Option (Int) :=
  (f_Moment_stoodPlace x1 x2 M).bind fun r533 =>
  if 0 ≤ r533 ∧ r533 < 186 then (
  some (M 36 (r533).toNat)) else none
def f_X_stood (x1 : Int) (x2 : Int) (M : pm_M) : Option (Int) :=
  (f_Told_isHead x1 M).bind fun r531 =>
  if r531 = 0 then (
    some (-1))
  else (
    (f_X_isName x2 M).bind fun r532 =>
    if r532 = 0 then (
      some (-1))
    else (
      (f_Moment_daysStood x1 x2 M).bind fun r534 =>
      some r534))
def f_X_longest_L16 (M : pm_M) : Nat → Int → Int → Int → Int → Option (Int)
  | 0, _, _, _, _ => none
  | n_ + 1, y1, y2, y3, y4 =>
    (f_Told_heads  M).bind fun r536 =>
    if r536 ≤ y4 then (
      some y2)
    else (
      (f_Moment_daysStood y4 y1 M).bind fun r537 =>
      if r537 ≤ y3 then (
        f_X_longest_L16 M n_ y1 y2 y3 (i_ad y4 1))
      else (
        f_X_longest_L16 M n_ y1 y4 r537 (i_ad y4 1)))
def f_X_longest (x1 : Int) (M : pm_M) : Option (Int) :=
  (f_X_isName x1 M).bind fun r535 =>
  if r535 = 0 then (
    some (-1))
  else (
    (f_X_longest_L16 M pm_F x1 (-1) 0 0).bind fun e538 =>
    some e538)
def f_Walk_canBeBetter_L7 (M : pm_M) : Nat → Int → Int → Int → Int → Int → Option (Int × Int)
  | 0, _, _, _, _, _ => none
  | n_ + 1, y1, y2, y3, y5, y6 =>
    (f_Told_plinths  M).bind fun r556 =>
    if r556 ≤ y6 then (
      some (y3, y5))
    else (
      if (i_an y2 (i_sl 1 y6)) = 0 then (
        if 0 ≤ (i_ad (i_ml y1 8) y6) ∧ (i_ad (i_ml y1 8) y6) < 64 then (
        if (M 83 4) < (i_ad y3 (M 84 ((i_ad (i_ml y1 8) y6)).toNat)) then (
          f_Walk_canBeBetter_L7 M n_ y1 y2 y3 y5 (i_ad y6 1))
        else (
          (f_Told_viewOf y6 M).bind fun r557 =>
          f_Walk_canBeBetter_L7 M n_ y1 y2 y3 (i_ad y5 r557) (i_ad y6 1))) else none)
      else (
        f_Walk_canBeBetter_L7 M n_ y1 y2 y3 y5 (i_ad y6 1)))
def f_Walk_canBeBetter (x1 : Int) (x2 : Int) (x3 : Int) (x4 : Int) (M : pm_M) : Option (Int) :=
  (f_Walk_canBeBetter_L7 M pm_F x1 x2 x3 x4 0).bind fun e558 =>
  if (M 83 6) < e558.2 then (
    some 1)
  else (
    if e558.2 = (M 83 6) then (
      if (M 83 7) ≤ e558.1 then (
        some 0)
      else (
        some 1))
    else (
      some 0))
def f_Walk_goOn_L98 (rc : Int → Int → Int → Int → pm_M → Option pm_M) : Nat → Int → Int → Int → Int → Int → Int → pm_M → Option (pm_M)
  | 0, _, _, _, _, _, _, _ => none
  | n_ + 1, y1, y2, y3, y4, y5, y6, M =>
    (f_Told_plinths  M).bind fun r561 =>
    if r561 ≤ y6 then (
      some M)
    else (
      if 0 ≤ (i_ad y5 y6) ∧ (i_ad y5 y6) < 64 then (
      pm_bd (i_ad y3 (M 84 ((i_ad y5 y6)).toNat)) fun v562 =>
      if (i_an y2 (i_sl 1 y6)) = 0 then (
        if (M 83 4) < v562 then (
          f_Walk_goOn_L98 rc n_ y1 y2 y3 y4 y5 (i_ad y6 1) M)
        else (
          if 0 ≤ y1 ∧ y1 < 8 then (
          pm_bd (pm_ms M 85 (y1).toNat y6) fun M563 =>
          (f_Told_viewOf y6 M563).bind fun r564 =>
          (rc (i_ad y1 1) (i_or y2 (i_sl 1 y6)) v562 (i_ad y4 r564) M563).bind fun M565 =>
          f_Walk_goOn_L98 rc n_ y1 y2 y3 y4 y5 (i_ad y6 1) M565) else none))
      else (
        f_Walk_goOn_L98 rc n_ y1 y2 y3 y4 y5 (i_ad y6 1) M)) else none)
def f_Walk_goOn (rc : Int → Int → Int → Int → pm_M → Option pm_M) (x1 : Int) (x2 : Int) (x3 : Int) (x4 : Int) (M : pm_M) : Option (pm_M) :=
  if (M 83 6) < x4 then (
    if (0 ≤ (0 : Int) ∧ 0 ≤ (0 : Int) ∧ 0 ≤ (x1 : Int)) ∧ (0 : Int) + (x1 : Int) ≤ (8 : Int) ∧ (0 : Int) + (x1 : Int) ≤ (8 : Int) then (
    pm_bd (pm_cp M 85 86 0 0 (x1).toNat) fun M552 =>
    pm_bd (pm_ms M552 83 5 x1) fun M553 =>
    pm_bd (pm_ms M553 83 6 x4) fun M554 =>
    pm_bd (pm_ms M554 83 7 x3) fun M555 =>
    if 8 ≤ x1 then (
      some M555)
    else (
      if 0 ≤ (i_sb x1 1) ∧ (i_sb x1 1) < 8 then (
      (f_Walk_canBeBetter (M555 85 ((i_sb x1 1)).toNat) x2 x3 x4 M555).bind fun r559 =>
      if r559 = 0 then (
        some M555)
      else (
        if 0 ≤ (i_sb x1 1) ∧ (i_sb x1 1) < 8 then (
        pm_bd (i_ml (M555 85 ((i_sb x1 1)).toNat) 8) fun v560 =>
        (f_Walk_goOn_L98 rc pm_F x1 x2 x3 x4 v560 0 M555).bind fun e566 =>
        some e566) else none)) else none)) else none)
  else (
    if x4 = (M 83 6) then (
      if (M 83 7) ≤ x3 then (
        if 8 ≤ x1 then (
          some M)
        else (
          if 0 ≤ (i_sb x1 1) ∧ (i_sb x1 1) < 8 then (
          (f_Walk_canBeBetter (M 85 ((i_sb x1 1)).toNat) x2 x3 x4 M).bind fun r567 =>
          if r567 = 0 then (
            some M)
          else (
            if 0 ≤ (i_sb x1 1) ∧ (i_sb x1 1) < 8 then (
            pm_bd (i_ml (M 85 ((i_sb x1 1)).toNat) 8) fun v568 =>
            (f_Walk_goOn_L98 rc pm_F x1 x2 x3 x4 v568 0 M).bind fun e569 =>
            some e569) else none)) else none))
      else (
        if (0 ≤ (0 : Int) ∧ 0 ≤ (0 : Int) ∧ 0 ≤ (x1 : Int)) ∧ (0 : Int) + (x1 : Int) ≤ (8 : Int) ∧ (0 : Int) + (x1 : Int) ≤ (8 : Int) then (
        pm_bd (pm_cp M 85 86 0 0 (x1).toNat) fun M570 =>
        pm_bd (pm_ms M570 83 5 x1) fun M571 =>
        pm_bd (pm_ms M571 83 6 x4) fun M572 =>
        pm_bd (pm_ms M572 83 7 x3) fun M573 =>
        if 8 ≤ x1 then (
          some M573)
        else (
          if 0 ≤ (i_sb x1 1) ∧ (i_sb x1 1) < 8 then (
          (f_Walk_canBeBetter (M573 85 ((i_sb x1 1)).toNat) x2 x3 x4 M573).bind fun r574 =>
          if r574 = 0 then (
            some M573)
          else (
            if 0 ≤ (i_sb x1 1) ∧ (i_sb x1 1) < 8 then (
            pm_bd (i_ml (M573 85 ((i_sb x1 1)).toNat) 8) fun v575 =>
            (f_Walk_goOn_L98 rc pm_F x1 x2 x3 x4 v575 0 M573).bind fun e576 =>
            some e576) else none)) else none)) else none))
    else (
      if 8 ≤ x1 then (
        some M)
      else (
        if 0 ≤ (i_sb x1 1) ∧ (i_sb x1 1) < 8 then (
        (f_Walk_canBeBetter (M 85 ((i_sb x1 1)).toNat) x2 x3 x4 M).bind fun r577 =>
        if r577 = 0 then (
          some M)
        else (
          if 0 ≤ (i_sb x1 1) ∧ (i_sb x1 1) < 8 then (
          pm_bd (i_ml (M 85 ((i_sb x1 1)).toNat) 8) fun v578 =>
          (f_Walk_goOn_L98 rc pm_F x1 x2 x3 x4 v578 0 M).bind fun e579 =>
          some e579) else none)) else none)))
def f_Walk_goOn_r : Nat → Int → Int → Int → Int → pm_M → Option pm_M
  | 0, _, _, _, _, _ => none
  | k_ + 1, x1, x2, x3, x4, M => f_Walk_goOn (f_Walk_goOn_r k_) x1 x2 x3 x4 M
def f_Walk_find_L36  : Nat → Int → Int → Int → pm_M → Option (Int × Int × pm_M)
  | 0, _, _, _, _ => none
  | n_ + 1, y1, y3, y4, M =>
    (f_Told_plinths  M).bind fun r545 =>
    if r545 ≤ y4 then (
      some (y1, y3, M))
    else (
      (f_Told_milesApart y3 y4 M).bind fun r546 =>
      if 0 ≤ (i_ad (i_ml y3 8) y4) ∧ (i_ad (i_ml y3 8) y4) < 64 then (
      pm_bd (pm_ms M 84 ((i_ad (i_ml y3 8) y4)).toNat r546) fun M547 =>
      f_Walk_find_L36 n_ y1 y3 (i_ad y4 1) M547) else none)
def f_Walk_find_L22  : Nat → Int → Int → pm_M → Option (Int × pm_M)
  | 0, _, _, _ => none
  | n_ + 1, y1, y3, M =>
    (f_Told_plinths  M).bind fun r544 =>
    if r544 ≤ y3 then (
      some (y1, M))
    else (
      (f_Walk_find_L36 pm_F y1 y3 0 M).bind fun e548 =>
      f_Walk_find_L22 n_ e548.1 (i_ad e548.2.1 1) e548.2.2)
def f_Walk_find (x1 : Int) (x2 : Int) (M : pm_M) : Option (pm_M) :=
  pm_bd (pm_ms M 83 4 x2) fun M540 =>
  pm_bd (pm_ms M540 83 5 0) fun M541 =>
  pm_bd (pm_ms M541 83 6 (-1)) fun M542 =>
  pm_bd (pm_ms M542 83 7 0) fun M543 =>
  (f_Walk_find_L22 pm_F x1 0 M543).bind fun e549 =>
  pm_bd (pm_ms e549.2 85 0 e549.1) fun M550 =>
  (f_Told_viewOf e549.1 M550).bind fun r551 =>
  (f_Walk_goOn_r 20 1 (i_sl 1 e549.1) 0 r551 M550).bind fun M580 =>
  some M580
def f_Walk_foundView  (M : pm_M) : Option (Int) :=
  some (M 83 6)
def f_Walk_foundMiles  (M : pm_M) : Option (Int) :=
  some (M 83 7)
def f_Walk_foundPlinth (x1 : Int) (M : pm_M) : Option (Int) :=
  if x1 < 0 then (
    some (-1))
  else (
    if (M 83 5) ≤ x1 then (
      some (-1))
    else (
      if 0 ≤ x1 ∧ x1 < 8 then (
      some (M 86 (x1).toNat)) else none))
def f_X_tour (x1 : Int) (x2 : Int) (x3 : Int) (M : pm_M) : Option (Int × pm_M) :=
  (f_Told_isPlinth x1 M).bind fun r539 =>
  if r539 = 0 then (
    some ((-1), M))
  else (
    if x2 < 0 then (
      some ((-1), M))
    else (
      if 999 < x2 then (
        some ((-1), M))
      else (
        if 0 ≤ x3 then (
          (f_Walk_find x1 x2 M).bind fun M581 =>
          if x3 = 0 then (
            (f_Walk_foundView  M581).bind fun r582 =>
            some (r582, M581))
          else (
            if x3 = 1 then (
              (f_Walk_foundMiles  M581).bind fun r583 =>
              some (r583, M581))
            else (
              (f_Walk_foundPlinth (i_sb x3 2) M581).bind fun r584 =>
              some (r584, M581))))
        else (
          some ((-1), M)))))
def f_Keeper_start (x1 : Int) (M : pm_M) : Option (pm_M) :=
  pm_bd (pm_ms M 18 5 x1) fun M587 =>
  some M587
def f_Keeper_expect (x1 : Int) (x2 : Int) (M : pm_M) : Option (pm_M) :=
  if 0 ≤ x1 ∧ x1 < 8 then (
  pm_bd (pm_ms M 19 (x1).toNat x2) fun M591 =>
  some M591) else none
def f_Keeper_clean_L49 (rc : Int → Int → pm_M → Option pm_M) : Nat → Int → Int → Int → pm_M → Option (pm_M)
  | 0, _, _, _, _ => none
  | n_ + 1, y1, y2, y3, M =>
    if (M 18 5) ≤ y3 then (
      some M)
    else (
      if 0 ≤ y3 ∧ y3 < 8 then (
      if 0 ≤ y1 ∧ y1 < 5 then (
      pm_bd (pm_ms M 21 (y1).toNat y3) fun M604 =>
      if 0 ≤ y3 ∧ y3 < 8 then (
      pm_bd (pm_ms M604 20 (y3).toNat y1) fun M605 =>
      if 0 ≤ y3 ∧ y3 < 8 then (
      (rc (i_ad y1 1) (i_ad y2 (i_ml (i_ml (M605 19 (y3).toNat) (i_sb y1 (M 20 (y3).toNat))) (i_sb (M605 18 6) y1))) M605).bind fun M606 =>
      if 0 ≤ y3 ∧ y3 < 8 then (
      pm_bd (pm_ms M606 20 (y3).toNat (M 20 (y3).toNat)) fun M607 =>
      f_Keeper_clean_L49 rc n_ y1 y2 (i_ad y3 1) M607) else none) else none) else none) else none) else none)
def f_Keeper_clean (rc : Int → Int → pm_M → Option pm_M) (x1 : Int) (x2 : Int) (M : pm_M) : Option (pm_M) :=
  if 0 ≤ x1 ∧ x1 < 6 then (
  if (M 18 7) < (i_ad x2 (M 23 (x1).toNat)) then (
    if x1 < (M 18 6) then (
      (f_Keeper_clean_L49 rc pm_F x1 x2 0 M).bind fun e608 =>
      some e608)
    else (
      pm_bd (pm_ms M 18 7 x2) fun M609 =>
      if (0 ≤ (0 : Int) ∧ 0 ≤ (0 : Int) ∧ 0 ≤ ((M609 18 6) : Int)) ∧ (0 : Int) + ((M609 18 6) : Int) ≤ (5 : Int) ∧ (0 : Int) + ((M609 18 6) : Int) ≤ (5 : Int) then (
      pm_bd (pm_cp M609 21 22 0 0 ((M609 18 6)).toNat) fun M610 =>
      some M610) else none))
  else (
    some M)) else none
def f_Keeper_clean_r : Nat → Int → Int → pm_M → Option pm_M
  | 0, _, _, _ => none
  | k_ + 1, x1, x2, M => f_Keeper_clean (f_Keeper_clean_r k_) x1 x2 M
def f_Keeper_plan_L14  : Nat → Int → Int → pm_M → Option (Int × pm_M)
  | 0, _, _, _ => none
  | n_ + 1, y2, y3, M =>
    if (M 18 5) ≤ y3 then (
      some (y2, M))
    else (
      if 0 ≤ y3 ∧ y3 < 8 then (
      pm_bd (i_mx y2 (M 19 (y3).toNat)) fun v598 =>
      if 0 ≤ y3 ∧ y3 < 8 then (
      pm_bd (pm_ms M 20 (y3).toNat (-1)) fun M599 =>
      f_Keeper_plan_L14 n_ v598 (i_ad y3 1) M599) else none) else none)
def f_Keeper_plan_L63  : Nat → Int → Int → pm_M → Option (pm_M)
  | 0, _, _, _ => none
  | n_ + 1, y2, y3, M =>
    if y3 < 0 then (
      some M)
    else (
      if 0 ≤ (i_ad y3 1) ∧ (i_ad y3 1) < 6 then (
      if 0 ≤ y3 ∧ y3 < 6 then (
      pm_bd (pm_ms M 23 (y3).toNat (i_ad (M 23 ((i_ad y3 1)).toNat) (i_ml (i_ml y2 (i_ad y3 1)) (i_sb (M 18 6) y3)))) fun M602 =>
      f_Keeper_plan_L63 n_ y2 (i_ad y3 (-1)) M602) else none) else none)
def f_Keeper_plan (x1 : Int) (M : pm_M) : Option (pm_M) :=
  pm_bd (pm_ms M 18 6 x1) fun M596 =>
  pm_bd (pm_ms M596 18 7 (-1)) fun M597 =>
  (f_Keeper_plan_L14 pm_F 0 0 M597).bind fun e600 =>
  if 0 ≤ (e600.2 18 6) ∧ (e600.2 18 6) < 6 then (
  pm_bd (pm_ms e600.2 23 ((e600.2 18 6)).toNat 0) fun M601 =>
  (f_Keeper_plan_L63 pm_F e600.1 (i_sb (M601 18 6) 1) M601).bind fun e603 =>
  (f_Keeper_clean_r 20 0 0 e603).bind fun M611 =>
  some M611) else none
def f_Keeper_leastDirt_L4 (M : pm_M) : Nat → Int → Int → Option (Int)
  | 0, _, _ => none
  | n_ + 1, y1, y2 =>
    if (M 18 5) ≤ y2 then (
      some y1)
    else (
      if 0 ≤ y2 ∧ y2 < 8 then (
      pm_bd (i_ad y1 (M 19 (y2).toNat)) fun v613 =>
      f_Keeper_leastDirt_L4 M n_ v613 (i_ad y2 1)) else none)
def f_Keeper_leastDirt  (M : pm_M) : Option (Int) :=
  (f_Keeper_leastDirt_L4 M pm_F 0 0).bind fun e614 =>
  some (i_sb (i_dv (i_ml (i_ml e614 (M 18 6)) (i_ad (M 18 6) 1)) 2) (M 18 7))
def f_Keeper_cleanedOn (x1 : Int) (M : pm_M) : Option (Int) :=
  if 0 ≤ x1 ∧ x1 < 5 then (
  some (M 22 (x1).toNat)) else none
def f_X_rounds_L48  : Nat → Int → Int → Int → pm_M → Option (Int × Int × pm_M)
  | 0, _, _, _, _ => none
  | n_ + 1, y1, y2, y3, M =>
    (f_Told_plinths  M).bind fun r589 =>
    if r589 ≤ y3 then (
      some (y1, y2, M))
    else (
      (f_Moment_headAt y3 M).bind fun r590 =>
      if r590 = (-1) then (
        (f_Keeper_expect y3 0 M).bind fun M592 =>
        f_X_rounds_L48 n_ y1 y2 (i_ad y3 1) M592)
      else (
        (f_Judge_amount 2 y3 r590 M).bind fun r593 =>
        (f_Keeper_expect y3 r593.1 r593.2).bind fun M594 =>
        f_X_rounds_L48 n_ y1 y2 (i_ad y3 1) M594))
def f_X_rounds (x1 : Int) (x2 : Int) (M : pm_M) : Option (Int × pm_M) :=
  if x1 < 1 then (
    some ((-1), M))
  else (
    if 5 < x1 then (
      some ((-1), M))
    else (
      if x2 < (-1) then (
        some ((-1), M))
      else (
        if x1 ≤ x2 then (
          some ((-1), M))
        else (
          (f_Told_plinths  M).bind fun r585 =>
          if r585 = 0 then (
            some ((-1), M))
          else (
            (f_Told_plinths  M).bind fun r586 =>
            (f_Keeper_start r586 M).bind fun M588 =>
            (f_X_rounds_L48 pm_F x1 x2 0 M588).bind fun e595 =>
            (f_Keeper_plan e595.1 e595.2.2).bind fun M612 =>
            if e595.2.1 = (-1) then (
              (f_Keeper_leastDirt  M612).bind fun r615 =>
              some (r615, M612))
            else (
              (f_Keeper_cleanedOn e595.2.1 M612).bind fun r616 =>
              some (r616, M612)))))))
def f_X_draw (x1 : Int) (M : pm_M) : Option (Int × pm_M) :=
  if x1 ≤ 0 then (
    pm_bd (pm_ms M 0 14 (i_rm (i_ad (i_ml (M 0 14) 193) 71) 30059)) fun M621 =>
    some (0, M621))
  else (
    if x1 = 0 then none else (
    pm_bd (pm_ms M 0 14 (i_rm (i_ad (i_ml (M 0 14) 193) 71) 30059)) fun M622 =>
    some ((i_rm (M 0 14) x1), M622)))
def f_X_turns  (M : pm_M) : Option (Int × pm_M) :=
  (f_X_draw 3 M).bind fun r623 =>
  if r623.1 = 0 then (
    (f_Told_heads  r623.2).bind fun r624 =>
    (f_X_draw r624 r623.2).bind fun r625 =>
    (f_Told_plinths  r625.2).bind fun r626 =>
    (f_X_draw r626 r625.2).bind fun r627 =>
    if r623.1 = 0 then (
      (f_X_canPut r625.1 r627.1 r627.2).bind fun r628 =>
      if r628 = 0 then (
        if r623.1 = 1 then (
          (f_X_canChange r625.1 r627.1 r627.2).bind fun r629 =>
          if r629 = 0 then (
            if r623.1 = 2 then (
              (f_X_canOff r625.1 r627.2).bind fun r630 =>
              if r630 = 0 then (
                some (0, r627.2))
              else (
                (f_Moment_stand r625.1 (-1) r627.2).bind fun M631 =>
                some (1, M631)))
            else (
              some (0, r627.2)))
          else (
            (f_Moment_swap r625.1 r627.1 r627.2).bind fun M632 =>
            some (1, M632)))
        else (
          if r623.1 = 2 then (
            (f_X_canOff r625.1 r627.2).bind fun r633 =>
            if r633 = 0 then (
              some (0, r627.2))
            else (
              (f_Moment_stand r625.1 (-1) r627.2).bind fun M634 =>
              some (1, M634)))
          else (
            some (0, r627.2))))
      else (
        (f_Moment_stand r627.1 r625.1 r627.2).bind fun M635 =>
        some (1, M635)))
    else (
      if r623.1 = 1 then (
        (f_X_canChange r625.1 r627.1 r627.2).bind fun r636 =>
        if r636 = 0 then (
          if r623.1 = 2 then (
            (f_X_canOff r625.1 r627.2).bind fun r637 =>
            if r637 = 0 then (
              some (0, r627.2))
            else (
              (f_Moment_stand r625.1 (-1) r627.2).bind fun M638 =>
              some (1, M638)))
          else (
            some (0, r627.2)))
        else (
          (f_Moment_swap r625.1 r627.1 r627.2).bind fun M639 =>
          some (1, M639)))
      else (
        if r623.1 = 2 then (
          (f_X_canOff r625.1 r627.2).bind fun r640 =>
          if r640 = 0 then (
            some (0, r627.2))
          else (
            (f_Moment_stand r625.1 (-1) r627.2).bind fun M641 =>
            some (1, M641)))
        else (
          some (0, r627.2)))))
  else (
    (f_Told_plinths  r623.2).bind fun r642 =>
    (f_X_draw r642 r623.2).bind fun r643 =>
    (f_Told_plinths  r643.2).bind fun r644 =>
    (f_X_draw r644 r643.2).bind fun r645 =>
    if r623.1 = 0 then (
      (f_X_canPut r643.1 r645.1 r645.2).bind fun r646 =>
      if r646 = 0 then (
        if r623.1 = 1 then (
          (f_X_canChange r643.1 r645.1 r645.2).bind fun r647 =>
          if r647 = 0 then (
            if r623.1 = 2 then (
              (f_X_canOff r643.1 r645.2).bind fun r648 =>
              if r648 = 0 then (
                some (0, r645.2))
              else (
                (f_Moment_stand r643.1 (-1) r645.2).bind fun M649 =>
                some (1, M649)))
            else (
              some (0, r645.2)))
          else (
            (f_Moment_swap r643.1 r645.1 r645.2).bind fun M650 =>
            some (1, M650)))
        else (
          if r623.1 = 2 then (
            (f_X_canOff r643.1 r645.2).bind fun r651 =>
            if r651 = 0 then (
              some (0, r645.2))
            else (
              (f_Moment_stand r643.1 (-1) r645.2).bind fun M652 =>
              some (1, M652)))
          else (
            some (0, r645.2))))
      else (
        (f_Moment_stand r645.1 r643.1 r645.2).bind fun M653 =>
        some (1, M653)))
    else (
      if r623.1 = 1 then (
        (f_X_canChange r643.1 r645.1 r645.2).bind fun r654 =>
        if r654 = 0 then (
          if r623.1 = 2 then (
            (f_X_canOff r643.1 r645.2).bind fun r655 =>
            if r655 = 0 then (
              some (0, r645.2))
            else (
              (f_Moment_stand r643.1 (-1) r645.2).bind fun M656 =>
              some (1, M656)))
          else (
            some (0, r645.2)))
        else (
          (f_Moment_swap r643.1 r645.1 r645.2).bind fun M657 =>
          some (1, M657)))
      else (
        if r623.1 = 2 then (
          (f_X_canOff r643.1 r645.2).bind fun r658 =>
          if r658 = 0 then (
            some (0, r645.2))
          else (
            (f_Moment_stand r643.1 (-1) r645.2).bind fun M659 =>
            some (1, M659)))
        else (
          some (0, r645.2)))))
def f_X_revolution_L70  : Nat → Int → Int → Int → pm_M → Option (Int × pm_M)
  | 0, _, _, _, _ => none
  | n_ + 1, y2, y3, y4, M =>
    if y2 ≤ y4 then (
      some (y3, M))
    else (
      (f_X_turns  M).bind fun r660 =>
      if r660.1 = 0 then (
        f_X_revolution_L70 n_ y2 y3 (i_ad y4 1) r660.2)
      else (
        f_X_revolution_L70 n_ y2 (i_ad y3 1) (i_ad y4 1) r660.2))
def f_X_revolution (x1 : Int) (x2 : Int) (M : pm_M) : Option (Int × pm_M) :=
  if x1 < 0 then (
    some ((-1), M))
  else (
    if 9999 < x1 then (
      some ((-1), M))
    else (
      if x2 < 1 then (
        some ((-1), M))
      else (
        if 99 < x2 then (
          some ((-1), M))
        else (
          (f_Told_plinths  M).bind fun r617 =>
          if r617 = 0 then (
            some ((-1), M))
          else (
            (f_Told_heads  M).bind fun r618 =>
            if r618 = 0 then (
              some ((-1), M))
            else (
              (f_Steps_keep  M).bind fun M619 =>
              pm_bd (pm_ms M619 0 14 (i_ad (i_ml x1 13) 5)) fun M620 =>
              (f_X_revolution_L70 pm_F x2 0 0 M620).bind fun e661 =>
              some (e661.1, e661.2)))))))
def f_Told_become_3_24  (M : pm_M) : Option (pm_M) :=
  pm_bd (pm_cp M 25 4 0 0 8) fun M662 =>
  pm_bd (pm_cp M662 26 5 0 0 8) fun M663 =>
  pm_bd (pm_cp M663 27 6 0 0 8) fun M664 =>
  pm_bd (pm_cp M664 28 7 0 0 8) fun M665 =>
  pm_bd (pm_cp M665 29 8 0 0 8) fun M666 =>
  pm_bd (pm_cp M666 30 9 0 0 12) fun M667 =>
  pm_bd (pm_cp M667 31 10 0 0 12) fun M668 =>
  pm_bd (pm_cp M668 32 11 0 0 12) fun M669 =>
  pm_bd (pm_cp M669 33 12 0 0 12) fun M670 =>
  pm_bd (pm_cp M670 34 13 0 0 12) fun M671 =>
  pm_bd (pm_ms M671 3 10 (M671 24 10)) fun M672 =>
  pm_bd (pm_ms M672 3 11 (M672 24 11)) fun M673 =>
  pm_bd (pm_ms M673 3 12 (M673 24 12)) fun M674 =>
  pm_bd (pm_ms M674 3 13 (M674 24 13)) fun M675 =>
  pm_bd (pm_ms M675 3 14 (M675 24 14)) fun M676 =>
  some M676
def f_Moment_become_14_35  (M : pm_M) : Option (pm_M) :=
  pm_bd (pm_cp M 36 15 0 0 186) fun M678 =>
  some M678
def f_Steps_become_16_1  (M : pm_M) : Option (pm_M) :=
  pm_bd (pm_cp M 2 17 0 0 3720) fun M680 =>
  pm_bd (pm_ms M680 16 1 (M680 1 1)) fun M681 =>
  pm_bd (pm_ms M681 16 2 (M681 1 2)) fun M682 =>
  some M682
def f_X_image  (M : pm_M) : Option (Int × pm_M) :=
  (f_Told_become_3_24  M).bind fun M677 =>
  (f_Moment_become_14_35  M677).bind fun M679 =>
  (f_Steps_become_16_1  M679).bind fun M683 =>
  (f_Moment_day  M683).bind fun r684 =>
  some (r684, M683)
def f_Told_become_24_3  (M : pm_M) : Option (pm_M) :=
  pm_bd (pm_cp M 4 25 0 0 8) fun M685 =>
  pm_bd (pm_cp M685 5 26 0 0 8) fun M686 =>
  pm_bd (pm_cp M686 6 27 0 0 8) fun M687 =>
  pm_bd (pm_cp M687 7 28 0 0 8) fun M688 =>
  pm_bd (pm_cp M688 8 29 0 0 8) fun M689 =>
  pm_bd (pm_cp M689 9 30 0 0 12) fun M690 =>
  pm_bd (pm_cp M690 10 31 0 0 12) fun M691 =>
  pm_bd (pm_cp M691 11 32 0 0 12) fun M692 =>
  pm_bd (pm_cp M692 12 33 0 0 12) fun M693 =>
  pm_bd (pm_cp M693 13 34 0 0 12) fun M694 =>
  pm_bd (pm_ms M694 24 10 (M694 3 10)) fun M695 =>
  pm_bd (pm_ms M695 24 11 (M695 3 11)) fun M696 =>
  pm_bd (pm_ms M696 24 12 (M696 3 12)) fun M697 =>
  pm_bd (pm_ms M697 24 13 (M697 3 13)) fun M698 =>
  pm_bd (pm_ms M698 24 14 (M698 3 14)) fun M699 =>
  some M699
def f_Moment_become_35_14  (M : pm_M) : Option (pm_M) :=
  pm_bd (pm_cp M 15 36 0 0 186) fun M701 =>
  some M701
def f_Steps_become_1_16  (M : pm_M) : Option (pm_M) :=
  pm_bd (pm_cp M 17 2 0 0 3720) fun M703 =>
  pm_bd (pm_ms M703 1 1 (M703 16 1)) fun M704 =>
  pm_bd (pm_ms M704 1 2 (M704 16 2)) fun M705 =>
  some M705
def f_X_back  (M : pm_M) : Option (Int × pm_M) :=
  (f_Told_become_24_3  M).bind fun M700 =>
  (f_Moment_become_35_14  M700).bind fun M702 =>
  (f_Steps_become_1_16  M702).bind fun M706 =>
  (f_Moment_day  M706).bind fun r707 =>
  some (r707, M706)
def f_Moment_debts_L4 (M : pm_M) : Nat → Int → Int → Option (Int)
  | 0, _, _ => none
  | n_ + 1, y1, y2 =>
    if 12 ≤ y2 then (
      some y1)
    else (
      if 0 ≤ (i_ad 16 y2) ∧ (i_ad 16 y2) < 186 then (
      pm_bd (i_ad y1 (M 36 ((i_ad 16 y2)).toNat)) fun v717 =>
      f_Moment_debts_L4 M n_ v717 (i_ad y2 1)) else none)
def f_Moment_debts  (M : pm_M) : Option (Int) :=
  (f_Moment_debts_L4 M pm_F 0 0).bind fun e718 =>
  some e718
def f_Told_xOf (x1 : Int) (M : pm_M) : Option (Int) :=
  if 0 ≤ x1 ∧ x1 < 8 then (
  some (M 25 (x1).toNat)) else none
def f_Told_yOf (x1 : Int) (M : pm_M) : Option (Int) :=
  if 0 ≤ x1 ∧ x1 < 8 then (
  some (M 26 (x1).toNat)) else none
def f_X_about_J108  (y1 : Int) (M : pm_M) : Option (Int) :=
  if y1 = 0 then (
    (f_Told_plinths  M).bind fun r708 =>
    some r708)
  else
  if y1 = 1 then (
    (f_Told_heads  M).bind fun r709 =>
    some r709)
  else
  if y1 = 2 then (
    (f_Moment_day  M).bind fun r710 =>
    some r710)
  else
  if y1 = 3 then (
    (f_Moment_purse  M).bind fun r711 =>
    some r711)
  else
  if y1 = 4 then (
    (f_Told_texts  M).bind fun r712 =>
    some r712)
  else
  if y1 = 5 then (
    (f_Told_ruling  M).bind fun r713 =>
    some r713)
  else
  if y1 = 6 then (
    (f_Steps_count  M).bind fun r714 =>
    some r714)
  else
  if y1 = 7 then (
    (f_Told_countSeen  M).bind fun r715 =>
    some r715)
  else
  if y1 = 8 then (
    (f_Tape_length  M).bind fun r716 =>
    some r716)
  else
  if y1 = 9 then (
    (f_Moment_debts  M).bind fun r719 =>
    some r719)
  else
  (
    some (-2))
def f_X_about_J54  (y1 : Int) (M : pm_M) : Option (Int) :=
  if y1 < 20 then (
    f_X_about_J108 y1 M)
  else (
    if 30 ≤ y1 then (
      f_X_about_J108 y1 M)
    else (
      (f_Told_isPlinth (i_sb y1 20) M).bind fun r730 =>
      if r730 = 0 then (
        some (-2))
      else (
        (f_Told_shadeOf (i_sb y1 20) M).bind fun r731 =>
        (f_Told_viewOf (i_sb y1 20) M).bind fun r732 =>
        some (i_ad (i_ml r731 10) r732))))
def f_X_about (x1 : Int) (M : pm_M) : Option (Int) :=
  if x1 < 10 then (
    f_X_about_J54 x1 M)
  else (
    if 20 ≤ x1 then (
      f_X_about_J54 x1 M)
    else (
      (f_Told_isPlinth (i_sb x1 10) M).bind fun r733 =>
      if r733 = 0 then (
        some (-2))
      else (
        (f_Told_xOf (i_sb x1 10) M).bind fun r734 =>
        (f_Told_yOf (i_sb x1 10) M).bind fun r735 =>
        some (i_ad (i_ml r734 100) r735))))
