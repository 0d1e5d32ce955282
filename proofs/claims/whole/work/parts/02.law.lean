/-! the law as a function of the pure memory -/
def k_Steps_init_1_M (M : pm_M) : pm_M := M
def k_Told_init_3_M (M : pm_M) : pm_M := (pm_ms M 3 14 (-1))
def k_Moment_init_14_M (M : pm_M) : pm_M := (pm_ms (pm_ms (pm_ms (pm_ms (pm_ms (pm_ms (pm_ms (pm_ms (pm_ms (pm_ms (pm_ms (pm_ms (pm_ms (pm_ms (pm_ms (pm_ms M 15 0 (-1)) 15 1 (-1)) 15 2 (-1)) 15 3 (-1)) 15 4 (-1)) 15 5 (-1)) 15 6 (-1)) 15 7 (-1)) 15 8 (-1)) 15 9 (-1)) 15 10 (-1)) 15 11 (-1)) 15 12 (-1)) 15 13 (-1)) 15 14 (-1)) 15 15 (-1))
def k_Steps_init_16_M (M : pm_M) : pm_M := M
def k_Keeper_init_18_M (M : pm_M) : pm_M := M
def k_Told_init_24_M (M : pm_M) : pm_M := (pm_ms M 24 14 (-1))
def k_Moment_init_35_M (M : pm_M) : pm_M := (pm_ms (pm_ms (pm_ms (pm_ms (pm_ms (pm_ms (pm_ms (pm_ms (pm_ms (pm_ms (pm_ms (pm_ms (pm_ms (pm_ms (pm_ms (pm_ms M 36 0 (-1)) 36 1 (-1)) 36 2 (-1)) 36 3 (-1)) 36 4 (-1)) 36 5 (-1)) 36 6 (-1)) 36 7 (-1)) 36 8 (-1)) 36 9 (-1)) 36 10 (-1)) 36 11 (-1)) 36 12 (-1)) 36 13 (-1)) 36 14 (-1)) 36 15 (-1))
def k_Tape_init_37_M (M : pm_M) : pm_M := M
def k_Text_init_40_M (M : pm_M) : pm_M := M
def k_Text_init_46_M (M : pm_M) : pm_M := M
def k_Text_init_52_M (M : pm_M) : pm_M := M
def k_Text_init_58_M (M : pm_M) : pm_M := M
def k_Judge_init_64_M (M : pm_M) : pm_M := M
def k_Reader_init_66_M (M : pm_M) : pm_M := (pm_ms (pm_ms M 66 7 (-1)) 66 8 (-1))
def k_Placing_init_67_M (M : pm_M) : pm_M := M
def k_Nights_init_77_M (M : pm_M) : pm_M := M
def k_Walk_init_83_M (M : pm_M) : pm_M := M
def k_X_init_0_M (M : pm_M) : pm_M := (k_Walk_init_83_M (k_Nights_init_77_M (k_Placing_init_67_M (k_Reader_init_66_M (k_Judge_init_64_M (k_Text_init_58_M (k_Text_init_52_M (k_Text_init_46_M (k_Text_init_40_M (k_Tape_init_37_M (k_Moment_init_35_M (k_Told_init_24_M (k_Keeper_init_18_M (k_Steps_init_16_M (k_Moment_init_14_M (k_Told_init_3_M (k_Steps_init_1_M M)))))))))))))))))
def k_Q_init_87_M (M : pm_M) : pm_M := (pm_ms (pm_ms (pm_ms (pm_ms (pm_ms (pm_ms (pm_ms (pm_ms (pm_ms (pm_ms (pm_ms (pm_ms (pm_ms (pm_ms (pm_ms (pm_ms (pm_ms (pm_ms (pm_ms M 87 4 (-1)) 87 5 (-1)) 88 3 (-1)) 88 70 (-1)) 88 78 (-1)) 88 71 (-1)) 88 79 (-1)) 88 72 (-1)) 88 80 (-1)) 88 73 (-1)) 88 81 (-1)) 88 74 (-1)) 88 82 (-1)) 88 75 (-1)) 88 83 (-1)) 88 76 (-1)) 88 84 (-1)) 88 77 (-1)) 88 85 (-1))
def f_L_law_L18 (G : pm_G) : Nat → Int → pm_M → Option (pm_M)
  | 0, _, _ => none
  | n_ + 1, y3, M =>
    if (i_sb (g_L G : Int) 6) < y3 then (
      some M)
    else (
      if 0 ≤ y3 ∧ y3 < (g_L G : Int) then (
      if (i_an (g_sx G (y3).toNat) 31) = 0 then (
        if 0 ≤ (i_ad y3 1) ∧ (i_ad y3 1) < (g_L G : Int) then (
        if 0 ≤ (i_ad y3 2) ∧ (i_ad y3 2) < (g_L G : Int) then (
        if 0 ≤ (i_ad y3 3) ∧ (i_ad y3 3) < (g_L G : Int) then (
        if 0 ≤ (i_ad y3 4) ∧ (i_ad y3 4) < (g_L G : Int) then (
        (f_X_plinth (g_sx G ((i_ad y3 1)).toNat) (g_sx G ((i_ad y3 2)).toNat) (g_sx G ((i_ad y3 3)).toNat) (g_sx G ((i_ad y3 4)).toNat) M).bind fun r1370 =>
        if 0 ≤ (i_ad y3 1) ∧ (i_ad y3 1) < (g_L G : Int) then (
        if 0 ≤ (i_ad y3 2) ∧ (i_ad y3 2) < (g_L G : Int) then (
        if 0 ≤ (i_ad y3 3) ∧ (i_ad y3 3) < (g_L G : Int) then (
        if 0 ≤ (i_ad y3 4) ∧ (i_ad y3 4) < (g_L G : Int) then (
        (f_Q_plinth (g_sx G ((i_ad y3 1)).toNat) (g_sx G ((i_ad y3 2)).toNat) (g_sx G ((i_ad y3 3)).toNat) (g_sx G ((i_ad y3 4)).toNat) r1370.2).bind fun r1371 =>
        if r1370.1 = r1371.1 then (
          f_L_law_L18 G n_ (i_ad y3 6) r1371.2)
        else (
          none)) else none) else none) else none) else none) else none) else none) else none) else none)
      else
      if (i_an (g_sx G (y3).toNat) 31) = 1 then (
        if 0 ≤ (i_ad y3 1) ∧ (i_ad y3 1) < (g_L G : Int) then (
        if 0 ≤ (i_ad y3 2) ∧ (i_ad y3 2) < (g_L G : Int) then (
        (f_X_head (g_sx G ((i_ad y3 1)).toNat) (g_sx G ((i_ad y3 2)).toNat) M).bind fun r1372 =>
        if 0 ≤ (i_ad y3 1) ∧ (i_ad y3 1) < (g_L G : Int) then (
        if 0 ≤ (i_ad y3 2) ∧ (i_ad y3 2) < (g_L G : Int) then (
        (f_Q_head (g_sx G ((i_ad y3 1)).toNat) (g_sx G ((i_ad y3 2)).toNat) r1372.2).bind fun r1373 =>
        if r1372.1 = r1373.1 then (
          f_L_law_L18 G n_ (i_ad y3 6) r1373.2)
        else (
          none)) else none) else none) else none) else none)
      else
      if (i_an (g_sx G (y3).toNat) 31) = 2 then (
        if 0 ≤ (i_ad y3 1) ∧ (i_ad y3 1) < (g_L G : Int) then (
        if 0 ≤ (i_ad y3 2) ∧ (i_ad y3 2) < (g_L G : Int) then (
        (f_X_put (g_sx G ((i_ad y3 1)).toNat) (g_sx G ((i_ad y3 2)).toNat) M).bind fun r1374 =>
        if 0 ≤ (i_ad y3 1) ∧ (i_ad y3 1) < (g_L G : Int) then (
        if 0 ≤ (i_ad y3 2) ∧ (i_ad y3 2) < (g_L G : Int) then (
        (f_Q_put (g_sx G ((i_ad y3 1)).toNat) (g_sx G ((i_ad y3 2)).toNat) r1374.2).bind fun r1375 =>
        if r1374.1 = r1375.1 then (
          f_L_law_L18 G n_ (i_ad y3 6) r1375.2)
        else (
          none)) else none) else none) else none) else none)
      else
      if (i_an (g_sx G (y3).toNat) 31) = 3 then (
        if 0 ≤ (i_ad y3 1) ∧ (i_ad y3 1) < (g_L G : Int) then (
        (f_X_off (g_sx G ((i_ad y3 1)).toNat) M).bind fun r1376 =>
        if 0 ≤ (i_ad y3 1) ∧ (i_ad y3 1) < (g_L G : Int) then (
        (f_Q_off (g_sx G ((i_ad y3 1)).toNat) r1376.2).bind fun r1377 =>
        if r1376.1 = r1377.1 then (
          f_L_law_L18 G n_ (i_ad y3 6) r1377.2)
        else (
          none)) else none) else none)
      else
      if (i_an (g_sx G (y3).toNat) 31) = 4 then (
        if 0 ≤ (i_ad y3 1) ∧ (i_ad y3 1) < (g_L G : Int) then (
        if 0 ≤ (i_ad y3 2) ∧ (i_ad y3 2) < (g_L G : Int) then (
        (f_X_change (g_sx G ((i_ad y3 1)).toNat) (g_sx G ((i_ad y3 2)).toNat) M).bind fun r1378 =>
        if 0 ≤ (i_ad y3 1) ∧ (i_ad y3 1) < (g_L G : Int) then (
        if 0 ≤ (i_ad y3 2) ∧ (i_ad y3 2) < (g_L G : Int) then (
        (f_Q_change (g_sx G ((i_ad y3 1)).toNat) (g_sx G ((i_ad y3 2)).toNat) r1378.2).bind fun r1379 =>
        if r1378.1 = r1379.1 then (
          f_L_law_L18 G n_ (i_ad y3 6) r1379.2)
        else (
          none)) else none) else none) else none) else none)
      else
      if (i_an (g_sx G (y3).toNat) 31) = 5 then (
        if 0 ≤ (i_ad y3 1) ∧ (i_ad y3 1) < (g_L G : Int) then (
        if 0 ≤ (i_ad y3 2) ∧ (i_ad y3 2) < (g_L G : Int) then (
        (f_X_carve (g_sx G ((i_ad y3 1)).toNat) (g_sx G ((i_ad y3 2)).toNat) M).bind fun r1380 =>
        if 0 ≤ (i_ad y3 1) ∧ (i_ad y3 1) < (g_L G : Int) then (
        if 0 ≤ (i_ad y3 2) ∧ (i_ad y3 2) < (g_L G : Int) then (
        (f_Q_carve (g_sx G ((i_ad y3 1)).toNat) (g_sx G ((i_ad y3 2)).toNat) r1380.2).bind fun r1381 =>
        if r1380.1 = r1381.1 then (
          f_L_law_L18 G n_ (i_ad y3 6) r1381.2)
        else (
          none)) else none) else none) else none) else none)
      else
      if (i_an (g_sx G (y3).toNat) 31) = 6 then (
        if 0 ≤ (i_ad y3 1) ∧ (i_ad y3 1) < (g_L G : Int) then (
        if 0 ≤ (i_ad y3 2) ∧ (i_ad y3 2) < (g_L G : Int) then (
        (f_X_pay (g_sx G ((i_ad y3 1)).toNat) (g_sx G ((i_ad y3 2)).toNat) M).bind fun r1382 =>
        if 0 ≤ (i_ad y3 1) ∧ (i_ad y3 1) < (g_L G : Int) then (
        if 0 ≤ (i_ad y3 2) ∧ (i_ad y3 2) < (g_L G : Int) then (
        (f_Q_pay (g_sx G ((i_ad y3 1)).toNat) (g_sx G ((i_ad y3 2)).toNat) r1382.2).bind fun r1383 =>
        if r1382.1 = r1383.1 then (
          f_L_law_L18 G n_ (i_ad y3 6) r1383.2)
        else (
          none)) else none) else none) else none) else none)
      else
      if (i_an (g_sx G (y3).toNat) 31) = 7 then (
        if 0 ≤ (i_ad y3 1) ∧ (i_ad y3 1) < (g_L G : Int) then (
        (f_X_pass (g_sx G ((i_ad y3 1)).toNat) M).bind fun r1384 =>
        if 0 ≤ (i_ad y3 1) ∧ (i_ad y3 1) < (g_L G : Int) then (
        (f_Q_pass (g_sx G ((i_ad y3 1)).toNat) r1384.2).bind fun r1385 =>
        if r1384.1 = r1385.1 then (
          f_L_law_L18 G n_ (i_ad y3 6) r1385.2)
        else (
          none)) else none) else none)
      else
      if (i_an (g_sx G (y3).toNat) 31) = 8 then (
        if 0 ≤ (i_ad y3 1) ∧ (i_ad y3 1) < (g_L G : Int) then (
        if 0 ≤ (i_ad y3 2) ∧ (i_ad y3 2) < (g_L G : Int) then (
        if 0 ≤ (i_ad y3 3) ∧ (i_ad y3 3) < (g_L G : Int) then (
        if 0 ≤ (i_ad y3 4) ∧ (i_ad y3 4) < (g_L G : Int) then (
        if 0 ≤ (i_ad y3 5) ∧ (i_ad y3 5) < (g_L G : Int) then (
        (f_X_feed (g_sx G ((i_ad y3 1)).toNat) (g_sx G ((i_ad y3 2)).toNat) (g_sx G ((i_ad y3 3)).toNat) (g_sx G ((i_ad y3 4)).toNat) (g_sx G ((i_ad y3 5)).toNat) M).bind fun r1386 =>
        if 0 ≤ (i_ad y3 1) ∧ (i_ad y3 1) < (g_L G : Int) then (
        if 0 ≤ (i_ad y3 2) ∧ (i_ad y3 2) < (g_L G : Int) then (
        if 0 ≤ (i_ad y3 3) ∧ (i_ad y3 3) < (g_L G : Int) then (
        if 0 ≤ (i_ad y3 4) ∧ (i_ad y3 4) < (g_L G : Int) then (
        if 0 ≤ (i_ad y3 5) ∧ (i_ad y3 5) < (g_L G : Int) then (
        (f_Q_feed (g_sx G ((i_ad y3 1)).toNat) (g_sx G ((i_ad y3 2)).toNat) (g_sx G ((i_ad y3 3)).toNat) (g_sx G ((i_ad y3 4)).toNat) (g_sx G ((i_ad y3 5)).toNat) r1386.2).bind fun r1387 =>
        if r1386.1 = r1387.1 then (
          f_L_law_L18 G n_ (i_ad y3 6) r1387.2)
        else (
          none)) else none) else none) else none) else none) else none) else none) else none) else none) else none) else none)
      else
      if (i_an (g_sx G (y3).toNat) 31) = 9 then (
        if 0 ≤ (i_ad y3 1) ∧ (i_ad y3 1) < (g_L G : Int) then (
        (f_X_end (g_sx G ((i_ad y3 1)).toNat) M).bind fun r1388 =>
        if 0 ≤ (i_ad y3 1) ∧ (i_ad y3 1) < (g_L G : Int) then (
        (f_Q_end (g_sx G ((i_ad y3 1)).toNat) r1388.2).bind fun r1389 =>
        if r1388.1 = r1389.1 then (
          f_L_law_L18 G n_ (i_ad y3 6) r1389.2)
        else (
          none)) else none) else none)
      else
      if (i_an (g_sx G (y3).toNat) 31) = 10 then (
        (f_X_text  M).bind fun r1390 =>
        (f_Q_text  r1390.2).bind fun r1391 =>
        if r1390.1 = r1391.1 then (
          f_L_law_L18 G n_ (i_ad y3 6) r1391.2)
        else (
          none))
      else
      if (i_an (g_sx G (y3).toNat) 31) = 11 then (
        if 0 ≤ (i_ad y3 1) ∧ (i_ad y3 1) < (g_L G : Int) then (
        (f_X_fault (g_sx G ((i_ad y3 1)).toNat) M).bind fun r1392 =>
        if 0 ≤ (i_ad y3 1) ∧ (i_ad y3 1) < (g_L G : Int) then (
        (f_Q_fault (g_sx G ((i_ad y3 1)).toNat) M).bind fun r1393 =>
        if r1392 = r1393 then (
          f_L_law_L18 G n_ (i_ad y3 6) M)
        else (
          none)) else none) else none)
      else
      if (i_an (g_sx G (y3).toNat) 31) = 12 then (
        if 0 ≤ (i_ad y3 1) ∧ (i_ad y3 1) < (g_L G : Int) then (
        (f_X_by (g_sx G ((i_ad y3 1)).toNat) M).bind fun r1394 =>
        if 0 ≤ (i_ad y3 1) ∧ (i_ad y3 1) < (g_L G : Int) then (
        (f_Q_by (g_sx G ((i_ad y3 1)).toNat) r1394.2).bind fun r1395 =>
        if r1394.1 = r1395.1 then (
          f_L_law_L18 G n_ (i_ad y3 6) r1395.2)
        else (
          none)) else none) else none)
      else
      if (i_an (g_sx G (y3).toNat) 31) = 13 then (
        if 0 ≤ (i_ad y3 1) ∧ (i_ad y3 1) < (g_L G : Int) then (
        (f_X_played (g_sx G ((i_ad y3 1)).toNat) M).bind fun r1396 =>
        if 0 ≤ (i_ad y3 1) ∧ (i_ad y3 1) < (g_L G : Int) then (
        (f_Q_played (g_sx G ((i_ad y3 1)).toNat) r1396.2).bind fun r1397 =>
        if r1396.1 = r1397.1 then (
          f_L_law_L18 G n_ (i_ad y3 6) r1397.2)
        else (
          none)) else none) else none)
      else
      if (i_an (g_sx G (y3).toNat) 31) = 14 then (
        (f_X_undo  M).bind fun r1398 =>
        (f_Q_undo  r1398.2).bind fun r1399 =>
        if r1398.1 = r1399.1 then (
          f_L_law_L18 G n_ (i_ad y3 6) r1399.2)
        else (
          none))
      else
      if (i_an (g_sx G (y3).toNat) 31) = 15 then (
        if 0 ≤ (i_ad y3 1) ∧ (i_ad y3 1) < (g_L G : Int) then (
        if 0 ≤ (i_ad y3 2) ∧ (i_ad y3 2) < (g_L G : Int) then (
        (f_X_of (g_sx G ((i_ad y3 1)).toNat) (g_sx G ((i_ad y3 2)).toNat) M).bind fun r1400 =>
        if 0 ≤ (i_ad y3 1) ∧ (i_ad y3 1) < (g_L G : Int) then (
        if 0 ≤ (i_ad y3 2) ∧ (i_ad y3 2) < (g_L G : Int) then (
        (f_Q_of (g_sx G ((i_ad y3 1)).toNat) (g_sx G ((i_ad y3 2)).toNat) r1400.2).bind fun r1401 =>
        if r1400.1 = r1401.1 then (
          f_L_law_L18 G n_ (i_ad y3 6) r1401.2)
        else (
          none)) else none) else none) else none) else none)
      else
      if (i_an (g_sx G (y3).toNat) 31) = 16 then (
        if 0 ≤ (i_ad y3 1) ∧ (i_ad y3 1) < (g_L G : Int) then (
        if 0 ≤ (i_ad y3 2) ∧ (i_ad y3 2) < (g_L G : Int) then (
        (f_X_headOf (g_sx G ((i_ad y3 1)).toNat) (g_sx G ((i_ad y3 2)).toNat) M).bind fun r1402 =>
        if 0 ≤ (i_ad y3 1) ∧ (i_ad y3 1) < (g_L G : Int) then (
        if 0 ≤ (i_ad y3 2) ∧ (i_ad y3 2) < (g_L G : Int) then (
        (f_Q_headOf (g_sx G ((i_ad y3 1)).toNat) (g_sx G ((i_ad y3 2)).toNat) M).bind fun r1403 =>
        if r1402 = r1403 then (
          f_L_law_L18 G n_ (i_ad y3 6) M)
        else (
          none)) else none) else none) else none) else none)
      else
      if (i_an (g_sx G (y3).toNat) 31) = 17 then (
        if 0 ≤ (i_ad y3 1) ∧ (i_ad y3 1) < (g_L G : Int) then (
        (f_X_best (g_sx G ((i_ad y3 1)).toNat) M).bind fun r1404 =>
        if 0 ≤ (i_ad y3 1) ∧ (i_ad y3 1) < (g_L G : Int) then (
        (f_Q_best (g_sx G ((i_ad y3 1)).toNat) r1404.2).bind fun r1405 =>
        if r1404.1 = r1405.1 then (
          f_L_law_L18 G n_ (i_ad y3 6) r1405.2)
        else (
          none)) else none) else none)
      else
      if (i_an (g_sx G (y3).toNat) 31) = 18 then (
        if 0 ≤ (i_ad y3 1) ∧ (i_ad y3 1) < (g_L G : Int) then (
        if 0 ≤ (i_ad y3 2) ∧ (i_ad y3 2) < (g_L G : Int) then (
        if 0 ≤ (i_ad y3 3) ∧ (i_ad y3 3) < (g_L G : Int) then (
        (f_X_seen (g_sx G ((i_ad y3 1)).toNat) (g_sx G ((i_ad y3 2)).toNat) (g_sx G ((i_ad y3 3)).toNat) M).bind fun r1406 =>
        if 0 ≤ (i_ad y3 1) ∧ (i_ad y3 1) < (g_L G : Int) then (
        if 0 ≤ (i_ad y3 2) ∧ (i_ad y3 2) < (g_L G : Int) then (
        if 0 ≤ (i_ad y3 3) ∧ (i_ad y3 3) < (g_L G : Int) then (
        (f_Q_seen (g_sx G ((i_ad y3 1)).toNat) (g_sx G ((i_ad y3 2)).toNat) (g_sx G ((i_ad y3 3)).toNat) r1406.2).bind fun r1407 =>
        if r1406.1 = r1407.1 then (
          f_L_law_L18 G n_ (i_ad y3 6) r1407.2)
        else (
          none)) else none) else none) else none) else none) else none) else none)
      else
      if (i_an (g_sx G (y3).toNat) 31) = 19 then (
        (f_X_forget  M).bind fun r1408 =>
        (f_Q_forget  r1408.2).bind fun r1409 =>
        if r1408.1 = r1409.1 then (
          f_L_law_L18 G n_ (i_ad y3 6) r1409.2)
        else (
          none))
      else
      if (i_an (g_sx G (y3).toNat) 31) = 20 then (
        (f_X_fewest  M).bind fun r1410 =>
        (f_Q_fewest  r1410.2).bind fun r1411 =>
        if r1410.1 = r1411.1 then (
          f_L_law_L18 G n_ (i_ad y3 6) r1411.2)
        else (
          none))
      else
      if (i_an (g_sx G (y3).toNat) 31) = 21 then (
        if 0 ≤ (i_ad y3 1) ∧ (i_ad y3 1) < (g_L G : Int) then (
        if 0 ≤ (i_ad y3 2) ∧ (i_ad y3 2) < (g_L G : Int) then (
        (f_X_who (g_sx G ((i_ad y3 1)).toNat) (g_sx G ((i_ad y3 2)).toNat) M).bind fun r1412 =>
        if 0 ≤ (i_ad y3 1) ∧ (i_ad y3 1) < (g_L G : Int) then (
        if 0 ≤ (i_ad y3 2) ∧ (i_ad y3 2) < (g_L G : Int) then (
        (f_Q_who (g_sx G ((i_ad y3 1)).toNat) (g_sx G ((i_ad y3 2)).toNat) r1412.2).bind fun r1413 =>
        if r1412.1 = r1413.1 then (
          f_L_law_L18 G n_ (i_ad y3 6) r1413.2)
        else (
          none)) else none) else none) else none) else none)
      else
      if (i_an (g_sx G (y3).toNat) 31) = 22 then (
        if 0 ≤ (i_ad y3 1) ∧ (i_ad y3 1) < (g_L G : Int) then (
        if 0 ≤ (i_ad y3 2) ∧ (i_ad y3 2) < (g_L G : Int) then (
        (f_X_stood (g_sx G ((i_ad y3 1)).toNat) (g_sx G ((i_ad y3 2)).toNat) M).bind fun r1414 =>
        if 0 ≤ (i_ad y3 1) ∧ (i_ad y3 1) < (g_L G : Int) then (
        if 0 ≤ (i_ad y3 2) ∧ (i_ad y3 2) < (g_L G : Int) then (
        (f_Q_stood (g_sx G ((i_ad y3 1)).toNat) (g_sx G ((i_ad y3 2)).toNat) M).bind fun r1415 =>
        if r1414 = r1415 then (
          f_L_law_L18 G n_ (i_ad y3 6) M)
        else (
          none)) else none) else none) else none) else none)
      else
      if (i_an (g_sx G (y3).toNat) 31) = 23 then (
        if 0 ≤ (i_ad y3 1) ∧ (i_ad y3 1) < (g_L G : Int) then (
        (f_X_longest (g_sx G ((i_ad y3 1)).toNat) M).bind fun r1416 =>
        if 0 ≤ (i_ad y3 1) ∧ (i_ad y3 1) < (g_L G : Int) then (
        (f_Q_longest (g_sx G ((i_ad y3 1)).toNat) M).bind fun r1417 =>
        if r1416 = r1417 then (
          f_L_law_L18 G n_ (i_ad y3 6) M)
        else (
          none)) else none) else none)
      else
      if (i_an (g_sx G (y3).toNat) 31) = 24 then (
        if 0 ≤ (i_ad y3 1) ∧ (i_ad y3 1) < (g_L G : Int) then (
        if 0 ≤ (i_ad y3 2) ∧ (i_ad y3 2) < (g_L G : Int) then (
        if 0 ≤ (i_ad y3 3) ∧ (i_ad y3 3) < (g_L G : Int) then (
        (f_X_tour (g_sx G ((i_ad y3 1)).toNat) (g_sx G ((i_ad y3 2)).toNat) (g_sx G ((i_ad y3 3)).toNat) M).bind fun r1418 =>
        if 0 ≤ (i_ad y3 1) ∧ (i_ad y3 1) < (g_L G : Int) then (
        if 0 ≤ (i_ad y3 2) ∧ (i_ad y3 2) < (g_L G : Int) then (
        if 0 ≤ (i_ad y3 3) ∧ (i_ad y3 3) < (g_L G : Int) then (
        (f_Q_tour (g_sx G ((i_ad y3 1)).toNat) (g_sx G ((i_ad y3 2)).toNat) (g_sx G ((i_ad y3 3)).toNat) r1418.2).bind fun r1419 =>
        if r1418.1 = r1419.1 then (
          f_L_law_L18 G n_ (i_ad y3 6) r1419.2)
        else (
          none)) else none) else none) else none) else none) else none) else none)
      else
      if (i_an (g_sx G (y3).toNat) 31) = 25 then (
        if 0 ≤ (i_ad y3 1) ∧ (i_ad y3 1) < (g_L G : Int) then (
        if 0 ≤ (i_ad y3 2) ∧ (i_ad y3 2) < (g_L G : Int) then (
        (f_X_rounds (g_sx G ((i_ad y3 1)).toNat) (g_sx G ((i_ad y3 2)).toNat) M).bind fun r1420 =>
        if 0 ≤ (i_ad y3 1) ∧ (i_ad y3 1) < (g_L G : Int) then (
        if 0 ≤ (i_ad y3 2) ∧ (i_ad y3 2) < (g_L G : Int) then (
        (f_Q_rounds (g_sx G ((i_ad y3 1)).toNat) (g_sx G ((i_ad y3 2)).toNat) r1420.2).bind fun r1421 =>
        if r1420.1 = r1421.1 then (
          f_L_law_L18 G n_ (i_ad y3 6) r1421.2)
        else (
          none)) else none) else none) else none) else none)
      else
      if (i_an (g_sx G (y3).toNat) 31) = 26 then (
        if 0 ≤ (i_ad y3 1) ∧ (i_ad y3 1) < (g_L G : Int) then (
        if 0 ≤ (i_ad y3 2) ∧ (i_ad y3 2) < (g_L G : Int) then (
        (f_X_revolution (g_sx G ((i_ad y3 1)).toNat) (g_sx G ((i_ad y3 2)).toNat) M).bind fun r1422 =>
        if 0 ≤ (i_ad y3 1) ∧ (i_ad y3 1) < (g_L G : Int) then (
        if 0 ≤ (i_ad y3 2) ∧ (i_ad y3 2) < (g_L G : Int) then (
        (f_Q_revolution (g_sx G ((i_ad y3 1)).toNat) (g_sx G ((i_ad y3 2)).toNat) r1422.2).bind fun r1423 =>
        if r1422.1 = r1423.1 then (
          f_L_law_L18 G n_ (i_ad y3 6) r1423.2)
        else (
          none)) else none) else none) else none) else none)
      else
      if (i_an (g_sx G (y3).toNat) 31) = 27 then (
        (f_X_image  M).bind fun r1424 =>
        (f_Q_image  r1424.2).bind fun r1425 =>
        if r1424.1 = r1425.1 then (
          f_L_law_L18 G n_ (i_ad y3 6) r1425.2)
        else (
          none))
      else
      if (i_an (g_sx G (y3).toNat) 31) = 28 then (
        (f_X_back  M).bind fun r1426 =>
        (f_Q_back  r1426.2).bind fun r1427 =>
        if r1426.1 = r1427.1 then (
          f_L_law_L18 G n_ (i_ad y3 6) r1427.2)
        else (
          none))
      else
      if (i_an (g_sx G (y3).toNat) 31) = 29 then (
        if 0 ≤ (i_ad y3 1) ∧ (i_ad y3 1) < (g_L G : Int) then (
        (f_X_about (g_sx G ((i_ad y3 1)).toNat) M).bind fun r1428 =>
        if 0 ≤ (i_ad y3 1) ∧ (i_ad y3 1) < (g_L G : Int) then (
        (f_Q_about (g_sx G ((i_ad y3 1)).toNat) M).bind fun r1429 =>
        if r1428 = r1429 then (
          f_L_law_L18 G n_ (i_ad y3 6) M)
        else (
          none)) else none) else none)
      else
      (
        f_L_law_L18 G n_ (i_ad y3 6) M)) else none)
/-- the memory behind the two constructors -/
def pm_M1 : pm_M := k_Q_init_87_M (k_X_init_0_M (fun _ _ => 0))
