/-! printed by my own program: functions of the pure memory, and that the code follows them -/
theorem ok_X_draw (G : pm_G) (x1 : Int) (M : pm_M)  : pm_R G mt_X_draw 1 (0, [(0, .inr (.inr (0, 0))), (1, .inl x1)], [], 119, pm_RF, M) (f_X_draw x1 M) (pm_Zr mt_X_draw pm_gI) := by
  have ho : pm_oG G mt_X_draw := (oa_X_draw).g G
  unfold f_X_draw
  refine R_st ho 1 (q' := (1, [(0, .inr (.inr (0, 0))), (1, .inl x1)], [.inl x1], 119, pm_RF, M)) rfl ?_
  refine R_if ho rfl (tgt := 13) rfl ?_
  refine R_le ?_ ?_
  · refine R_st ho 12 (q' := (34, [(2, .inl 0), (0, .inr (.inr (0, 0))), (1, .inl x1)], [], 119, pm_RF, (pm_ms M 0 14 (i_rm (i_ad (i_ml (M 0 14) 193) 71) 30059)))) rfl ?_
    refine R_nm fun M621 => ?_
    refine R_st ho 1 (q' := (35, [(2, .inl 0), (0, .inr (.inr (0, 0))), (1, .inl x1)], [.inl 0], 119, pm_RF, M621)) rfl ?_
    exact R_end (v := some (.inl 0)) rfl (Or.inl rfl) rfl rfl
  · refine R_st ho 3 (q' := (9, [(0, .inr (.inr (0, 0))), (1, .inl x1)], [.inl x1, .inl (M 0 14)], 119, pm_RF, M)) rfl ?_
    refine R_irem ho rfl ?_
    refine R_st ho 12 (q' := (34, [(2, .inl (i_rm (M 0 14) x1)), (0, .inr (.inr (0, 0))), (1, .inl x1)], [], 119, pm_RF, (pm_ms M 0 14 (i_rm (i_ad (i_ml (M 0 14) 193) 71) 30059)))) rfl ?_
    refine R_nm fun M622 => ?_
    refine R_st ho 1 (q' := (35, [(2, .inl (i_rm (M 0 14) x1)), (0, .inr (.inr (0, 0))), (1, .inl x1)], [.inl (i_rm (M 0 14) x1)], 119, pm_RF, M622)) rfl ?_
    exact R_end (v := some (.inl (i_rm (M 0 14) x1))) rfl (Or.inl rfl) rfl rfl
theorem ok_X_turns (G : pm_G)  (M : pm_M)  : pm_R G mt_X_turns 3 (0, [(0, .inr (.inr (0, 0)))], [], 119, pm_RF, M) (f_X_turns M) (pm_Zr mt_X_turns pm_gI) := by
  have ho : pm_oG G mt_X_turns := (oa_X_turns).g G
  unfold f_X_turns
  refine R_st ho 2 (q' := (2, [(0, .inr (.inr (0, 0)))], [.inl 3, .inr (.inr (0, 0))], 119, pm_RF, M)) rfl ?_
  refine R_callV ho mv_X_draw lk_0_352 rfl (As := [.inl 3]) (kd := 0) (a := 0) (st := []) rfl rfl (Nat.le_of_ble_eq_true rfl) rfl (by decide) (Nat.le_of_ble_eq_true rfl) (ok_X_draw G 3 M ) (fun r623 => ?_)
  show pm_R _ _ _ (5, [(0, .inr (.inr (0, 0)))], [.inl r623.1], 119, pm_RF, r623.2) _ _
  refine R_st ho 3 (q' := (8, [(1, .inl r623.1), (0, .inr (.inr (0, 0)))], [.inl r623.1, .inr (.inr (0, 0))], 119, pm_RF, r623.2)) rfl ?_
  refine R_if ho rfl (tgt := 21) rfl ?_
  refine R_ne ?_ ?_
  · refine R_st ho 2 (q' := (15, [(1, .inl r623.1), (0, .inr (.inr (0, 0)))], [.inr (.inr (11, 24)), .inr (.inr (0, 0))], 119, pm_RF, r623.2)) rfl ?_
    refine R_callV ho mv_Told_heads lk_0_277 rfl (As := []) (kd := 11) (a := 24) (st := [.inr (.inr (0, 0))]) rfl rfl (Nat.le_of_ble_eq_true rfl) rfl (by decide) (Nat.le_of_ble_eq_true rfl) (ok_Told_heads G  r623.2 ) (fun r624 => ?_)
    show pm_R _ _ _ (18, [(1, .inl r623.1), (0, .inr (.inr (0, 0)))], [.inl r624, .inr (.inr (0, 0))], 119, pm_RF, r623.2) _ _
    refine R_st ho 1 (q' := (28, [(1, .inl r623.1), (0, .inr (.inr (0, 0)))], [.inl r624, .inr (.inr (0, 0))], 119, pm_RF, r623.2)) rfl ?_
    refine R_callV ho mv_X_draw lk_0_352 rfl (As := [.inl r624]) (kd := 0) (a := 0) (st := []) rfl rfl (Nat.le_of_ble_eq_true rfl) rfl (by decide) (Nat.le_of_ble_eq_true rfl) (ok_X_draw G r624 r623.2 ) (fun r625 => ?_)
    show pm_R _ _ _ (31, [(1, .inl r623.1), (0, .inr (.inr (0, 0)))], [.inl r625.1], 119, pm_RF, r625.2) _ _
    refine R_st ho 4 (q' := (37, [(2, .inl r625.1), (1, .inl r623.1), (0, .inr (.inr (0, 0)))], [.inr (.inr (11, 24)), .inr (.inr (0, 0))], 119, pm_RF, r625.2)) rfl ?_
    refine R_callV ho mv_Told_plinths lk_0_292 rfl (As := []) (kd := 11) (a := 24) (st := [.inr (.inr (0, 0))]) rfl rfl (Nat.le_of_ble_eq_true rfl) rfl (by decide) (Nat.le_of_ble_eq_true rfl) (ok_Told_plinths G  r625.2 ) (fun r626 => ?_)
    show pm_R _ _ _ (40, [(2, .inl r625.1), (1, .inl r623.1), (0, .inr (.inr (0, 0)))], [.inl r626, .inr (.inr (0, 0))], 119, pm_RF, r625.2) _ _
    refine R_callV ho mv_X_draw lk_0_352 rfl (As := [.inl r626]) (kd := 0) (a := 0) (st := []) rfl rfl (Nat.le_of_ble_eq_true rfl) rfl (by decide) (Nat.le_of_ble_eq_true rfl) (ok_X_draw G r626 r625.2 ) (fun r627 => ?_)
    show pm_R _ _ _ (43, [(2, .inl r625.1), (1, .inl r623.1), (0, .inr (.inr (0, 0)))], [.inl r627.1], 119, pm_RF, r627.2) _ _
    refine R_st ho 2 (q' := (45, [(3, .inl r627.1), (2, .inl r625.1), (1, .inl r623.1), (0, .inr (.inr (0, 0)))], [.inl r623.1], 119, pm_RF, r627.2)) rfl ?_
    refine R_if ho rfl (tgt := 68) rfl ?_
    refine R_ne ?_ ?_
    · refine R_st ho 3 (q' := (51, [(3, .inl r627.1), (2, .inl r625.1), (1, .inl r623.1), (0, .inr (.inr (0, 0)))], [.inl r627.1, .inl r625.1, .inr (.inr (0, 0))], 119, pm_RF, r627.2)) rfl ?_
      refine R_callV ho mv_X_canPut lk_0_113 rfl (As := [.inl r625.1, .inl r627.1]) (kd := 0) (a := 0) (st := []) rfl rfl (Nat.le_of_ble_eq_true rfl) rfl (by decide) (Nat.le_of_ble_eq_true rfl) (ok_X_canPut G r625.1 r627.1 r627.2 ) (fun r628 => ?_)
      show pm_R _ _ _ (54, [(3, .inl r627.1), (2, .inl r625.1), (1, .inl r623.1), (0, .inr (.inr (0, 0)))], [.inl r628], 119, pm_RF, r627.2) _ _
      refine R_if ho rfl (tgt := 68) rfl ?_
      refine R_eq ?_ ?_
      · refine R_st ho 2 (q' := (70, [(3, .inl r627.1), (2, .inl r625.1), (1, .inl r623.1), (0, .inr (.inr (0, 0)))], [.inl 1, .inl r623.1], 119, pm_RF, r627.2)) rfl ?_
        refine R_ic ho rfl (tgt := 93) rfl ?_
        refine R_ne ?_ ?_
        · refine R_st ho 3 (q' := (76, [(3, .inl r627.1), (2, .inl r625.1), (1, .inl r623.1), (0, .inr (.inr (0, 0)))], [.inl r627.1, .inl r625.1, .inr (.inr (0, 0))], 119, pm_RF, r627.2)) rfl ?_
          refine R_callV ho mv_X_canChange lk_0_133 rfl (As := [.inl r625.1, .inl r627.1]) (kd := 0) (a := 0) (st := []) rfl rfl (Nat.le_of_ble_eq_true rfl) rfl (by decide) (Nat.le_of_ble_eq_true rfl) (ok_X_canChange G r625.1 r627.1 r627.2 ) (fun r629 => ?_)
          show pm_R _ _ _ (79, [(3, .inl r627.1), (2, .inl r625.1), (1, .inl r623.1), (0, .inr (.inr (0, 0)))], [.inl r629], 119, pm_RF, r627.2) _ _
          refine R_if ho rfl (tgt := 93) rfl ?_
          refine R_eq ?_ ?_
          · refine R_st ho 2 (q' := (95, [(3, .inl r627.1), (2, .inl r625.1), (1, .inl r623.1), (0, .inr (.inr (0, 0)))], [.inl 2, .inl r623.1], 119, pm_RF, r627.2)) rfl ?_
            refine R_ic ho rfl (tgt := 117) rfl ?_
            refine R_ne ?_ ?_
            · refine R_st ho 2 (q' := (100, [(3, .inl r627.1), (2, .inl r625.1), (1, .inl r623.1), (0, .inr (.inr (0, 0)))], [.inl r625.1, .inr (.inr (0, 0))], 119, pm_RF, r627.2)) rfl ?_
              refine R_callV ho mv_X_canOff lk_0_125 rfl (As := [.inl r625.1]) (kd := 0) (a := 0) (st := []) rfl rfl (Nat.le_of_ble_eq_true rfl) rfl (by decide) (Nat.le_of_ble_eq_true rfl) (ok_X_canOff G r625.1 r627.2 ) (fun r630 => ?_)
              show pm_R _ _ _ (103, [(3, .inl r627.1), (2, .inl r625.1), (1, .inl r623.1), (0, .inr (.inr (0, 0)))], [.inl r630], 119, pm_RF, r627.2) _ _
              refine R_if ho rfl (tgt := 117) rfl ?_
              refine R_eq ?_ ?_
              · refine R_st ho 1 (q' := (118, [(3, .inl r627.1), (2, .inl r625.1), (1, .inl r623.1), (0, .inr (.inr (0, 0)))], [.inl 0], 119, pm_RF, r627.2)) rfl ?_
                exact R_end (v := some (.inl 0)) rfl (Or.inr ⟨rfl, Or.inl rfl⟩) rfl rfl
              · refine R_st ho 4 (q' := (112, [(3, .inl r627.1), (2, .inl r625.1), (1, .inl r623.1), (0, .inr (.inr (0, 0)))], [.inl (-1), .inl r625.1, .inr (.inr (4, 35))], 119, pm_RF, r627.2)) rfl ?_
                refine R_callV ho mv_Moment_stand lk_0_121 rfl (As := [.inl r625.1, .inl (-1)]) (kd := 4) (a := 35) (st := []) rfl rfl (Nat.le_of_ble_eq_true rfl) rfl (by decide) (Nat.le_of_ble_eq_true rfl) (ok_Moment_stand G r625.1 (-1) r627.2 ) (fun M631 => ?_)
                show pm_R _ _ _ (115, [(3, .inl r627.1), (2, .inl r625.1), (1, .inl r623.1), (0, .inr (.inr (0, 0)))], [], 119, pm_RF, M631) _ _
                refine R_st ho 1 (q' := (116, [(3, .inl r627.1), (2, .inl r625.1), (1, .inl r623.1), (0, .inr (.inr (0, 0)))], [.inl 1], 119, pm_RF, M631)) rfl ?_
                exact R_end (v := some (.inl 1)) rfl (Or.inr ⟨rfl, Or.inr rfl⟩) rfl rfl
            · refine R_st ho 1 (q' := (118, [(3, .inl r627.1), (2, .inl r625.1), (1, .inl r623.1), (0, .inr (.inr (0, 0)))], [.inl 0], 119, pm_RF, r627.2)) rfl ?_
              exact R_end (v := some (.inl 0)) rfl (Or.inr ⟨rfl, Or.inl rfl⟩) rfl rfl
          · refine R_st ho 4 (q' := (88, [(3, .inl r627.1), (2, .inl r625.1), (1, .inl r623.1), (0, .inr (.inr (0, 0)))], [.inl r627.1, .inl r625.1, .inr (.inr (4, 35))], 119, pm_RF, r627.2)) rfl ?_
            refine R_callV ho mv_Moment_swap lk_0_136 rfl (As := [.inl r625.1, .inl r627.1]) (kd := 4) (a := 35) (st := []) rfl rfl (Nat.le_of_ble_eq_true rfl) rfl (by decide) (Nat.le_of_ble_eq_true rfl) (ok_Moment_swap G r625.1 r627.1 r627.2 ) (fun M632 => ?_)
            show pm_R _ _ _ (91, [(3, .inl r627.1), (2, .inl r625.1), (1, .inl r623.1), (0, .inr (.inr (0, 0)))], [], 119, pm_RF, M632) _ _
            refine R_st ho 1 (q' := (92, [(3, .inl r627.1), (2, .inl r625.1), (1, .inl r623.1), (0, .inr (.inr (0, 0)))], [.inl 1], 119, pm_RF, M632)) rfl ?_
            exact R_end (v := some (.inl 1)) rfl (Or.inr ⟨rfl, Or.inr rfl⟩) rfl rfl
        · refine R_st ho 2 (q' := (95, [(3, .inl r627.1), (2, .inl r625.1), (1, .inl r623.1), (0, .inr (.inr (0, 0)))], [.inl 2, .inl r623.1], 119, pm_RF, r627.2)) rfl ?_
          refine R_ic ho rfl (tgt := 117) rfl ?_
          refine R_ne ?_ ?_
          · refine R_st ho 2 (q' := (100, [(3, .inl r627.1), (2, .inl r625.1), (1, .inl r623.1), (0, .inr (.inr (0, 0)))], [.inl r625.1, .inr (.inr (0, 0))], 119, pm_RF, r627.2)) rfl ?_
            refine R_callV ho mv_X_canOff lk_0_125 rfl (As := [.inl r625.1]) (kd := 0) (a := 0) (st := []) rfl rfl (Nat.le_of_ble_eq_true rfl) rfl (by decide) (Nat.le_of_ble_eq_true rfl) (ok_X_canOff G r625.1 r627.2 ) (fun r633 => ?_)
            show pm_R _ _ _ (103, [(3, .inl r627.1), (2, .inl r625.1), (1, .inl r623.1), (0, .inr (.inr (0, 0)))], [.inl r633], 119, pm_RF, r627.2) _ _
            refine R_if ho rfl (tgt := 117) rfl ?_
            refine R_eq ?_ ?_
            · refine R_st ho 1 (q' := (118, [(3, .inl r627.1), (2, .inl r625.1), (1, .inl r623.1), (0, .inr (.inr (0, 0)))], [.inl 0], 119, pm_RF, r627.2)) rfl ?_
              exact R_end (v := some (.inl 0)) rfl (Or.inr ⟨rfl, Or.inl rfl⟩) rfl rfl
            · refine R_st ho 4 (q' := (112, [(3, .inl r627.1), (2, .inl r625.1), (1, .inl r623.1), (0, .inr (.inr (0, 0)))], [.inl (-1), .inl r625.1, .inr (.inr (4, 35))], 119, pm_RF, r627.2)) rfl ?_
              refine R_callV ho mv_Moment_stand lk_0_121 rfl (As := [.inl r625.1, .inl (-1)]) (kd := 4) (a := 35) (st := []) rfl rfl (Nat.le_of_ble_eq_true rfl) rfl (by decide) (Nat.le_of_ble_eq_true rfl) (ok_Moment_stand G r625.1 (-1) r627.2 ) (fun M634 => ?_)
              show pm_R _ _ _ (115, [(3, .inl r627.1), (2, .inl r625.1), (1, .inl r623.1), (0, .inr (.inr (0, 0)))], [], 119, pm_RF, M634) _ _
              refine R_st ho 1 (q' := (116, [(3, .inl r627.1), (2, .inl r625.1), (1, .inl r623.1), (0, .inr (.inr (0, 0)))], [.inl 1], 119, pm_RF, M634)) rfl ?_
              exact R_end (v := some (.inl 1)) rfl (Or.inr ⟨rfl, Or.inr rfl⟩) rfl rfl
          · refine R_st ho 1 (q' := (118, [(3, .inl r627.1), (2, .inl r625.1), (1, .inl r623.1), (0, .inr (.inr (0, 0)))], [.inl 0], 119, pm_RF, r627.2)) rfl ?_
            exact R_end (v := some (.inl 0)) rfl (Or.inr ⟨rfl, Or.inl rfl⟩) rfl rfl
      · refine R_st ho 4 (q' := (63, [(3, .inl r627.1), (2, .inl r625.1), (1, .inl r623.1), (0, .inr (.inr (0, 0)))], [.inl r625.1, .inl r627.1, .inr (.inr (4, 35))], 119, pm_RF, r627.2)) rfl ?_
        refine R_callV ho mv_Moment_stand lk_0_121 rfl (As := [.inl r627.1, .inl r625.1]) (kd := 4) (a := 35) (st := []) rfl rfl (Nat.le_of_ble_eq_true rfl) rfl (by decide) (Nat.le_of_ble_eq_true rfl) (ok_Moment_stand G r627.1 r625.1 r627.2 ) (fun M635 => ?_)
        show pm_R _ _ _ (66, [(3, .inl r627.1), (2, .inl r625.1), (1, .inl r623.1), (0, .inr (.inr (0, 0)))], [], 119, pm_RF, M635) _ _
        refine R_st ho 1 (q' := (67, [(3, .inl r627.1), (2, .inl r625.1), (1, .inl r623.1), (0, .inr (.inr (0, 0)))], [.inl 1], 119, pm_RF, M635)) rfl ?_
        exact R_end (v := some (.inl 1)) rfl (Or.inr ⟨rfl, Or.inr rfl⟩) rfl rfl
    · refine R_st ho 2 (q' := (70, [(3, .inl r627.1), (2, .inl r625.1), (1, .inl r623.1), (0, .inr (.inr (0, 0)))], [.inl 1, .inl r623.1], 119, pm_RF, r627.2)) rfl ?_
      refine R_ic ho rfl (tgt := 93) rfl ?_
      refine R_ne ?_ ?_
      · refine R_st ho 3 (q' := (76, [(3, .inl r627.1), (2, .inl r625.1), (1, .inl r623.1), (0, .inr (.inr (0, 0)))], [.inl r627.1, .inl r625.1, .inr (.inr (0, 0))], 119, pm_RF, r627.2)) rfl ?_
        refine R_callV ho mv_X_canChange lk_0_133 rfl (As := [.inl r625.1, .inl r627.1]) (kd := 0) (a := 0) (st := []) rfl rfl (Nat.le_of_ble_eq_true rfl) rfl (by decide) (Nat.le_of_ble_eq_true rfl) (ok_X_canChange G r625.1 r627.1 r627.2 ) (fun r636 => ?_)
        show pm_R _ _ _ (79, [(3, .inl r627.1), (2, .inl r625.1), (1, .inl r623.1), (0, .inr (.inr (0, 0)))], [.inl r636], 119, pm_RF, r627.2) _ _
        refine R_if ho rfl (tgt := 93) rfl ?_
        refine R_eq ?_ ?_
        · refine R_st ho 2 (q' := (95, [(3, .inl r627.1), (2, .inl r625.1), (1, .inl r623.1), (0, .inr (.inr (0, 0)))], [.inl 2, .inl r623.1], 119, pm_RF, r627.2)) rfl ?_
          refine R_ic ho rfl (tgt := 117) rfl ?_
          refine R_ne ?_ ?_
          · refine R_st ho 2 (q' := (100, [(3, .inl r627.1), (2, .inl r625.1), (1, .inl r623.1), (0, .inr (.inr (0, 0)))], [.inl r625.1, .inr (.inr (0, 0))], 119, pm_RF, r627.2)) rfl ?_
            refine R_callV ho mv_X_canOff lk_0_125 rfl (As := [.inl r625.1]) (kd := 0) (a := 0) (st := []) rfl rfl (Nat.le_of_ble_eq_true rfl) rfl (by decide) (Nat.le_of_ble_eq_true rfl) (ok_X_canOff G r625.1 r627.2 ) (fun r637 => ?_)
            show pm_R _ _ _ (103, [(3, .inl r627.1), (2, .inl r625.1), (1, .inl r623.1), (0, .inr (.inr (0, 0)))], [.inl r637], 119, pm_RF, r627.2) _ _
            refine R_if ho rfl (tgt := 117) rfl ?_
            refine R_eq ?_ ?_
            · refine R_st ho 1 (q' := (118, [(3, .inl r627.1), (2, .inl r625.1), (1, .inl r623.1), (0, .inr (.inr (0, 0)))], [.inl 0], 119, pm_RF, r627.2)) rfl ?_
              exact R_end (v := some (.inl 0)) rfl (Or.inr ⟨rfl, Or.inl rfl⟩) rfl rfl
            · refine R_st ho 4 (q' := (112, [(3, .inl r627.1), (2, .inl r625.1), (1, .inl r623.1), (0, .inr (.inr (0, 0)))], [.inl (-1), .inl r625.1, .inr (.inr (4, 35))], 119, pm_RF, r627.2)) rfl ?_
              refine R_callV ho mv_Moment_stand lk_0_121 rfl (As := [.inl r625.1, .inl (-1)]) (kd := 4) (a := 35) (st := []) rfl rfl (Nat.le_of_ble_eq_true rfl) rfl (by decide) (Nat.le_of_ble_eq_true rfl) (ok_Moment_stand G r625.1 (-1) r627.2 ) (fun M638 => ?_)
              show pm_R _ _ _ (115, [(3, .inl r627.1), (2, .inl r625.1), (1, .inl r623.1), (0, .inr (.inr (0, 0)))], [], 119, pm_RF, M638) _ _
              refine R_st ho 1 (q' := (116, [(3, .inl r627.1), (2, .inl r625.1), (1, .inl r623.1), (0, .inr (.inr (0, 0)))], [.inl 1], 119, pm_RF, M638)) rfl ?_
              exact R_end (v := some (.inl 1)) rfl (Or.inr ⟨rfl, Or.inr rfl⟩) rfl rfl
          · refine R_st ho 1 (q' := (118, [(3, .inl r627.1), (2, .inl r625.1), (1, .inl r623.1), (0, .inr (.inr (0, 0)))], [.inl 0], 119, pm_RF, r627.2)) rfl ?_
            exact R_end (v := some (.inl 0)) rfl (Or.inr ⟨rfl, Or.inl rfl⟩) rfl rfl
        · refine R_st ho 4 (q' := (88, [(3, .inl r627.1), (2, .inl r625.1), (1, .inl r623.1), (0, .inr (.inr (0, 0)))], [.inl r627.1, .inl r625.1, .inr (.inr (4, 35))], 119, pm_RF, r627.2)) rfl ?_
          refine R_callV ho mv_Moment_swap lk_0_136 rfl (As := [.inl r625.1, .inl r627.1]) (kd := 4) (a := 35) (st := []) rfl rfl (Nat.le_of_ble_eq_true rfl) rfl (by decide) (Nat.le_of_ble_eq_true rfl) (ok_Moment_swap G r625.1 r627.1 r627.2 ) (fun M639 => ?_)
          show pm_R _ _ _ (91, [(3, .inl r627.1), (2, .inl r625.1), (1, .inl r623.1), (0, .inr (.inr (0, 0)))], [], 119, pm_RF, M639) _ _
          refine R_st ho 1 (q' := (92, [(3, .inl r627.1), (2, .inl r625.1), (1, .inl r623.1), (0, .inr (.inr (0, 0)))], [.inl 1], 119, pm_RF, M639)) rfl ?_
          exact R_end (v := some (.inl 1)) rfl (Or.inr ⟨rfl, Or.inr rfl⟩) rfl rfl
      · refine R_st ho 2 (q' := (95, [(3, .inl r627.1), (2, .inl r625.1), (1, .inl r623.1), (0, .inr (.inr (0, 0)))], [.inl 2, .inl r623.1], 119, pm_RF, r627.2)) rfl ?_
        refine R_ic ho rfl (tgt := 117) rfl ?_
        refine R_ne ?_ ?_
        · refine R_st ho 2 (q' := (100, [(3, .inl r627.1), (2, .inl r625.1), (1, .inl r623.1), (0, .inr (.inr (0, 0)))], [.inl r625.1, .inr (.inr (0, 0))], 119, pm_RF, r627.2)) rfl ?_
          refine R_callV ho mv_X_canOff lk_0_125 rfl (As := [.inl r625.1]) (kd := 0) (a := 0) (st := []) rfl rfl (Nat.le_of_ble_eq_true rfl) rfl (by decide) (Nat.le_of_ble_eq_true rfl) (ok_X_canOff G r625.1 r627.2 ) (fun r640 => ?_)
          show pm_R _ _ _ (103, [(3, .inl r627.1), (2, .inl r625.1), (1, .inl r623.1), (0, .inr (.inr (0, 0)))], [.inl r640], 119, pm_RF, r627.2) _ _
          refine R_if ho rfl (tgt := 117) rfl ?_
          refine R_eq ?_ ?_
          · refine R_st ho 1 (q' := (118, [(3, .inl r627.1), (2, .inl r625.1), (1, .inl r623.1), (0, .inr (.inr (0, 0)))], [.inl 0], 119, pm_RF, r627.2)) rfl ?_
            exact R_end (v := some (.inl 0)) rfl (Or.inr ⟨rfl, Or.inl rfl⟩) rfl rfl
          · refine R_st ho 4 (q' := (112, [(3, .inl r627.1), (2, .inl r625.1), (1, .inl r623.1), (0, .inr (.inr (0, 0)))], [.inl (-1), .inl r625.1, .inr (.inr (4, 35))], 119, pm_RF, r627.2)) rfl ?_
            refine R_callV ho mv_Moment_stand lk_0_121 rfl (As := [.inl r625.1, .inl (-1)]) (kd := 4) (a := 35) (st := []) rfl rfl (Nat.le_of_ble_eq_true rfl) rfl (by decide) (Nat.le_of_ble_eq_true rfl) (ok_Moment_stand G r625.1 (-1) r627.2 ) (fun M641 => ?_)
            show pm_R _ _ _ (115, [(3, .inl r627.1), (2, .inl r625.1), (1, .inl r623.1), (0, .inr (.inr (0, 0)))], [], 119, pm_RF, M641) _ _
            refine R_st ho 1 (q' := (116, [(3, .inl r627.1), (2, .inl r625.1), (1, .inl r623.1), (0, .inr (.inr (0, 0)))], [.inl 1], 119, pm_RF, M641)) rfl ?_
            exact R_end (v := some (.inl 1)) rfl (Or.inr ⟨rfl, Or.inr rfl⟩) rfl rfl
        · refine R_st ho 1 (q' := (118, [(3, .inl r627.1), (2, .inl r625.1), (1, .inl r623.1), (0, .inr (.inr (0, 0)))], [.inl 0], 119, pm_RF, r627.2)) rfl ?_
          exact R_end (v := some (.inl 0)) rfl (Or.inr ⟨rfl, Or.inl rfl⟩) rfl rfl
  · refine R_st ho 2 (q' := (25, [(1, .inl r623.1), (0, .inr (.inr (0, 0)))], [.inr (.inr (11, 24)), .inr (.inr (0, 0))], 119, pm_RF, r623.2)) rfl ?_
    refine R_callV ho mv_Told_plinths lk_0_292 rfl (As := []) (kd := 11) (a := 24) (st := [.inr (.inr (0, 0))]) rfl rfl (Nat.le_of_ble_eq_true rfl) rfl (by decide) (Nat.le_of_ble_eq_true rfl) (ok_Told_plinths G  r623.2 ) (fun r642 => ?_)
    show pm_R _ _ _ (28, [(1, .inl r623.1), (0, .inr (.inr (0, 0)))], [.inl r642, .inr (.inr (0, 0))], 119, pm_RF, r623.2) _ _
    refine R_callV ho mv_X_draw lk_0_352 rfl (As := [.inl r642]) (kd := 0) (a := 0) (st := []) rfl rfl (Nat.le_of_ble_eq_true rfl) rfl (by decide) (Nat.le_of_ble_eq_true rfl) (ok_X_draw G r642 r623.2 ) (fun r643 => ?_)
    show pm_R _ _ _ (31, [(1, .inl r623.1), (0, .inr (.inr (0, 0)))], [.inl r643.1], 119, pm_RF, r643.2) _ _
    refine R_st ho 4 (q' := (37, [(2, .inl r643.1), (1, .inl r623.1), (0, .inr (.inr (0, 0)))], [.inr (.inr (11, 24)), .inr (.inr (0, 0))], 119, pm_RF, r643.2)) rfl ?_
    refine R_callV ho mv_Told_plinths lk_0_292 rfl (As := []) (kd := 11) (a := 24) (st := [.inr (.inr (0, 0))]) rfl rfl (Nat.le_of_ble_eq_true rfl) rfl (by decide) (Nat.le_of_ble_eq_true rfl) (ok_Told_plinths G  r643.2 ) (fun r644 => ?_)
    show pm_R _ _ _ (40, [(2, .inl r643.1), (1, .inl r623.1), (0, .inr (.inr (0, 0)))], [.inl r644, .inr (.inr (0, 0))], 119, pm_RF, r643.2) _ _
    refine R_callV ho mv_X_draw lk_0_352 rfl (As := [.inl r644]) (kd := 0) (a := 0) (st := []) rfl rfl (Nat.le_of_ble_eq_true rfl) rfl (by decide) (Nat.le_of_ble_eq_true rfl) (ok_X_draw G r644 r643.2 ) (fun r645 => ?_)
    show pm_R _ _ _ (43, [(2, .inl r643.1), (1, .inl r623.1), (0, .inr (.inr (0, 0)))], [.inl r645.1], 119, pm_RF, r645.2) _ _
    refine R_st ho 2 (q' := (45, [(3, .inl r645.1), (2, .inl r643.1), (1, .inl r623.1), (0, .inr (.inr (0, 0)))], [.inl r623.1], 119, pm_RF, r645.2)) rfl ?_
    refine R_if ho rfl (tgt := 68) rfl ?_
    refine R_ne ?_ ?_
    · refine R_st ho 3 (q' := (51, [(3, .inl r645.1), (2, .inl r643.1), (1, .inl r623.1), (0, .inr (.inr (0, 0)))], [.inl r645.1, .inl r643.1, .inr (.inr (0, 0))], 119, pm_RF, r645.2)) rfl ?_
      refine R_callV ho mv_X_canPut lk_0_113 rfl (As := [.inl r643.1, .inl r645.1]) (kd := 0) (a := 0) (st := []) rfl rfl (Nat.le_of_ble_eq_true rfl) rfl (by decide) (Nat.le_of_ble_eq_true rfl) (ok_X_canPut G r643.1 r645.1 r645.2 ) (fun r646 => ?_)
      show pm_R _ _ _ (54, [(3, .inl r645.1), (2, .inl r643.1), (1, .inl r623.1), (0, .inr (.inr (0, 0)))], [.inl r646], 119, pm_RF, r645.2) _ _
      refine R_if ho rfl (tgt := 68) rfl ?_
      refine R_eq ?_ ?_
      · refine R_st ho 2 (q' := (70, [(3, .inl r645.1), (2, .inl r643.1), (1, .inl r623.1), (0, .inr (.inr (0, 0)))], [.inl 1, .inl r623.1], 119, pm_RF, r645.2)) rfl ?_
        refine R_ic ho rfl (tgt := 93) rfl ?_
        refine R_ne ?_ ?_
        · refine R_st ho 3 (q' := (76, [(3, .inl r645.1), (2, .inl r643.1), (1, .inl r623.1), (0, .inr (.inr (0, 0)))], [.inl r645.1, .inl r643.1, .inr (.inr (0, 0))], 119, pm_RF, r645.2)) rfl ?_
          refine R_callV ho mv_X_canChange lk_0_133 rfl (As := [.inl r643.1, .inl r645.1]) (kd := 0) (a := 0) (st := []) rfl rfl (Nat.le_of_ble_eq_true rfl) rfl (by decide) (Nat.le_of_ble_eq_true rfl) (ok_X_canChange G r643.1 r645.1 r645.2 ) (fun r647 => ?_)
          show pm_R _ _ _ (79, [(3, .inl r645.1), (2, .inl r643.1), (1, .inl r623.1), (0, .inr (.inr (0, 0)))], [.inl r647], 119, pm_RF, r645.2) _ _
          refine R_if ho rfl (tgt := 93) rfl ?_
          refine R_eq ?_ ?_
          · refine R_st ho 2 (q' := (95, [(3, .inl r645.1), (2, .inl r643.1), (1, .inl r623.1), (0, .inr (.inr (0, 0)))], [.inl 2, .inl r623.1], 119, pm_RF, r645.2)) rfl ?_
            refine R_ic ho rfl (tgt := 117) rfl ?_
            refine R_ne ?_ ?_
            · refine R_st ho 2 (q' := (100, [(3, .inl r645.1), (2, .inl r643.1), (1, .inl r623.1), (0, .inr (.inr (0, 0)))], [.inl r643.1, .inr (.inr (0, 0))], 119, pm_RF, r645.2)) rfl ?_
              refine R_callV ho mv_X_canOff lk_0_125 rfl (As := [.inl r643.1]) (kd := 0) (a := 0) (st := []) rfl rfl (Nat.le_of_ble_eq_true rfl) rfl (by decide) (Nat.le_of_ble_eq_true rfl) (ok_X_canOff G r643.1 r645.2 ) (fun r648 => ?_)
              show pm_R _ _ _ (103, [(3, .inl r645.1), (2, .inl r643.1), (1, .inl r623.1), (0, .inr (.inr (0, 0)))], [.inl r648], 119, pm_RF, r645.2) _ _
              refine R_if ho rfl (tgt := 117) rfl ?_
              refine R_eq ?_ ?_
              · refine R_st ho 1 (q' := (118, [(3, .inl r645.1), (2, .inl r643.1), (1, .inl r623.1), (0, .inr (.inr (0, 0)))], [.inl 0], 119, pm_RF, r645.2)) rfl ?_
                exact R_end (v := some (.inl 0)) rfl (Or.inr ⟨rfl, Or.inl rfl⟩) rfl rfl
              · refine R_st ho 4 (q' := (112, [(3, .inl r645.1), (2, .inl r643.1), (1, .inl r623.1), (0, .inr (.inr (0, 0)))], [.inl (-1), .inl r643.1, .inr (.inr (4, 35))], 119, pm_RF, r645.2)) rfl ?_
                refine R_callV ho mv_Moment_stand lk_0_121 rfl (As := [.inl r643.1, .inl (-1)]) (kd := 4) (a := 35) (st := []) rfl rfl (Nat.le_of_ble_eq_true rfl) rfl (by decide) (Nat.le_of_ble_eq_true rfl) (ok_Moment_stand G r643.1 (-1) r645.2 ) (fun M649 => ?_)
                show pm_R _ _ _ (115, [(3, .inl r645.1), (2, .inl r643.1), (1, .inl r623.1), (0, .inr (.inr (0, 0)))], [], 119, pm_RF, M649) _ _
                refine R_st ho 1 (q' := (116, [(3, .inl r645.1), (2, .inl r643.1), (1, .inl r623.1), (0, .inr (.inr (0, 0)))], [.inl 1], 119, pm_RF, M649)) rfl ?_
                exact R_end (v := some (.inl 1)) rfl (Or.inr ⟨rfl, Or.inr rfl⟩) rfl rfl
            · refine R_st ho 1 (q' := (118, [(3, .inl r645.1), (2, .inl r643.1), (1, .inl r623.1), (0, .inr (.inr (0, 0)))], [.inl 0], 119, pm_RF, r645.2)) rfl ?_
              exact R_end (v := some (.inl 0)) rfl (Or.inr ⟨rfl, Or.inl rfl⟩) rfl rfl
          · refine R_st ho 4 (q' := (88, [(3, .inl r645.1), (2, .inl r643.1), (1, .inl r623.1), (0, .inr (.inr (0, 0)))], [.inl r645.1, .inl r643.1, .inr (.inr (4, 35))], 119, pm_RF, r645.2)) rfl ?_
            refine R_callV ho mv_Moment_swap lk_0_136 rfl (As := [.inl r643.1, .inl r645.1]) (kd := 4) (a := 35) (st := []) rfl rfl (Nat.le_of_ble_eq_true rfl) rfl (by decide) (Nat.le_of_ble_eq_true rfl) (ok_Moment_swap G r643.1 r645.1 r645.2 ) (fun M650 => ?_)
            show pm_R _ _ _ (91, [(3, .inl r645.1), (2, .inl r643.1), (1, .inl r623.1), (0, .inr (.inr (0, 0)))], [], 119, pm_RF, M650) _ _
            refine R_st ho 1 (q' := (92, [(3, .inl r645.1), (2, .inl r643.1), (1, .inl r623.1), (0, .inr (.inr (0, 0)))], [.inl 1], 119, pm_RF, M650)) rfl ?_
            exact R_end (v := some (.inl 1)) rfl (Or.inr ⟨rfl, Or.inr rfl⟩) rfl rfl
        · refine R_st ho 2 (q' := (95, [(3, .inl r645.1), (2, .inl r643.1), (1, .inl r623.1), (0, .inr (.inr (0, 0)))], [.inl 2, .inl r623.1], 119, pm_RF, r645.2)) rfl ?_
          refine R_ic ho rfl (tgt := 117) rfl ?_
          refine R_ne ?_ ?_
          · refine R_st ho 2 (q' := (100, [(3, .inl r645.1), (2, .inl r643.1), (1, .inl r623.1), (0, .inr (.inr (0, 0)))], [.inl r643.1, .inr (.inr (0, 0))], 119, pm_RF, r645.2)) rfl ?_
            refine R_callV ho mv_X_canOff lk_0_125 rfl (As := [.inl r643.1]) (kd := 0) (a := 0) (st := []) rfl rfl (Nat.le_of_ble_eq_true rfl) rfl (by decide) (Nat.le_of_ble_eq_true rfl) (ok_X_canOff G r643.1 r645.2 ) (fun r651 => ?_)
            show pm_R _ _ _ (103, [(3, .inl r645.1), (2, .inl r643.1), (1, .inl r623.1), (0, .inr (.inr (0, 0)))], [.inl r651], 119, pm_RF, r645.2) _ _
            refine R_if ho rfl (tgt := 117) rfl ?_
            refine R_eq ?_ ?_
            · refine R_st ho 1 (q' := (118, [(3, .inl r645.1), (2, .inl r643.1), (1, .inl r623.1), (0, .inr (.inr (0, 0)))], [.inl 0], 119, pm_RF, r645.2)) rfl ?_
              exact R_end (v := some (.inl 0)) rfl (Or.inr ⟨rfl, Or.inl rfl⟩) rfl rfl
            · refine R_st ho 4 (q' := (112, [(3, .inl r645.1), (2, .inl r643.1), (1, .inl r623.1), (0, .inr (.inr (0, 0)))], [.inl (-1), .inl r643.1, .inr (.inr (4, 35))], 119, pm_RF, r645.2)) rfl ?_
              refine R_callV ho mv_Moment_stand lk_0_121 rfl (As := [.inl r643.1, .inl (-1)]) (kd := 4) (a := 35) (st := []) rfl rfl (Nat.le_of_ble_eq_true rfl) rfl (by decide) (Nat.le_of_ble_eq_true rfl) (ok_Moment_stand G r643.1 (-1) r645.2 ) (fun M652 => ?_)
              show pm_R _ _ _ (115, [(3, .inl r645.1), (2, .inl r643.1), (1, .inl r623.1), (0, .inr (.inr (0, 0)))], [], 119, pm_RF, M652) _ _
              refine R_st ho 1 (q' := (116, [(3, .inl r645.1), (2, .inl r643.1), (1, .inl r623.1), (0, .inr (.inr (0, 0)))], [.inl 1], 119, pm_RF, M652)) rfl ?_
              exact R_end (v := some (.inl 1)) rfl (Or.inr ⟨rfl, Or.inr rfl⟩) rfl rfl
          · refine R_st ho 1 (q' := (118, [(3, .inl r645.1), (2, .inl r643.1), (1, .inl r623.1), (0, .inr (.inr (0, 0)))], [.inl 0], 119, pm_RF, r645.2)) rfl ?_
            exact R_end (v := some (.inl 0)) rfl (Or.inr ⟨rfl, Or.inl rfl⟩) rfl rfl
      · refine R_st ho 4 (q' := (63, [(3, .inl r645.1), (2, .inl r643.1), (1, .inl r623.1), (0, .inr (.inr (0, 0)))], [.inl r643.1, .inl r645.1, .inr (.inr (4, 35))], 119, pm_RF, r645.2)) rfl ?_
        refine R_callV ho mv_Moment_stand lk_0_121 rfl (As := [.inl r645.1, .inl r643.1]) (kd := 4) (a := 35) (st := []) rfl rfl (Nat.le_of_ble_eq_true rfl) rfl (by decide) (Nat.le_of_ble_eq_true rfl) (ok_Moment_stand G r645.1 r643.1 r645.2 ) (fun M653 => ?_)
        show pm_R _ _ _ (66, [(3, .inl r645.1), (2, .inl r643.1), (1, .inl r623.1), (0, .inr (.inr (0, 0)))], [], 119, pm_RF, M653) _ _
        refine R_st ho 1 (q' := (67, [(3, .inl r645.1), (2, .inl r643.1), (1, .inl r623.1), (0, .inr (.inr (0, 0)))], [.inl 1], 119, pm_RF, M653)) rfl ?_
        exact R_end (v := some (.inl 1)) rfl (Or.inr ⟨rfl, Or.inr rfl⟩) rfl rfl
    · refine R_st ho 2 (q' := (70, [(3, .inl r645.1), (2, .inl r643.1), (1, .inl r623.1), (0, .inr (.inr (0, 0)))], [.inl 1, .inl r623.1], 119, pm_RF, r645.2)) rfl ?_
      refine R_ic ho rfl (tgt := 93) rfl ?_
      refine R_ne ?_ ?_
      · refine R_st ho 3 (q' := (76, [(3, .inl r645.1), (2, .inl r643.1), (1, .inl r623.1), (0, .inr (.inr (0, 0)))], [.inl r645.1, .inl r643.1, .inr (.inr (0, 0))], 119, pm_RF, r645.2)) rfl ?_
        refine R_callV ho mv_X_canChange lk_0_133 rfl (As := [.inl r643.1, .inl r645.1]) (kd := 0) (a := 0) (st := []) rfl rfl (Nat.le_of_ble_eq_true rfl) rfl (by decide) (Nat.le_of_ble_eq_true rfl) (ok_X_canChange G r643.1 r645.1 r645.2 ) (fun r654 => ?_)
        show pm_R _ _ _ (79, [(3, .inl r645.1), (2, .inl r643.1), (1, .inl r623.1), (0, .inr (.inr (0, 0)))], [.inl r654], 119, pm_RF, r645.2) _ _
        refine R_if ho rfl (tgt := 93) rfl ?_
        refine R_eq ?_ ?_
        · refine R_st ho 2 (q' := (95, [(3, .inl r645.1), (2, .inl r643.1), (1, .inl r623.1), (0, .inr (.inr (0, 0)))], [.inl 2, .inl r623.1], 119, pm_RF, r645.2)) rfl ?_
          refine R_ic ho rfl (tgt := 117) rfl ?_
          refine R_ne ?_ ?_
          · refine R_st ho 2 (q' := (100, [(3, .inl r645.1), (2, .inl r643.1), (1, .inl r623.1), (0, .inr (.inr (0, 0)))], [.inl r643.1, .inr (.inr (0, 0))], 119, pm_RF, r645.2)) rfl ?_
            refine R_callV ho mv_X_canOff lk_0_125 rfl (As := [.inl r643.1]) (kd := 0) (a := 0) (st := []) rfl rfl (Nat.le_of_ble_eq_true rfl) rfl (by decide) (Nat.le_of_ble_eq_true rfl) (ok_X_canOff G r643.1 r645.2 ) (fun r655 => ?_)
            show pm_R _ _ _ (103, [(3, .inl r645.1), (2, .inl r643.1), (1, .inl r623.1), (0, .inr (.inr (0, 0)))], [.inl r655], 119, pm_RF, r645.2) _ _
            refine R_if ho rfl (tgt := 117) rfl ?_
            refine R_eq ?_ ?_
            · refine R_st ho 1 (q' := (118, [(3, .inl r645.1), (2, .inl r643.1), (1, .inl r623.1), (0, .inr (.inr (0, 0)))], [.inl 0], 119, pm_RF, r645.2)) rfl ?_
              exact R_end (v := some (.inl 0)) rfl (Or.inr ⟨rfl, Or.inl rfl⟩) rfl rfl
            · refine R_st ho 4 (q' := (112, [(3, .inl r645.1), (2, .inl r643.1), (1, .inl r623.1), (0, .inr (.inr (0, 0)))], [.inl (-1), .inl r643.1, .inr (.inr (4, 35))], 119, pm_RF, r645.2)) rfl ?_
              refine R_callV ho mv_Moment_stand lk_0_121 rfl (As := [.inl r643.1, .inl (-1)]) (kd := 4) (a := 35) (st := []) rfl rfl (Nat.le_of_ble_eq_true rfl) rfl (by decide) (Nat.le_of_ble_eq_true rfl) (ok_Moment_stand G r643.1 (-1) r645.2 ) (fun M656 => ?_)
              show pm_R _ _ _ (115, [(3, .inl r645.1), (2, .inl r643.1), (1, .inl r623.1), (0, .inr (.inr (0, 0)))], [], 119, pm_RF, M656) _ _
              refine R_st ho 1 (q' := (116, [(3, .inl r645.1), (2, .inl r643.1), (1, .inl r623.1), (0, .inr (.inr (0, 0)))], [.inl 1], 119, pm_RF, M656)) rfl ?_
              exact R_end (v := some (.inl 1)) rfl (Or.inr ⟨rfl, Or.inr rfl⟩) rfl rfl
          · refine R_st ho 1 (q' := (118, [(3, .inl r645.1), (2, .inl r643.1), (1, .inl r623.1), (0, .inr (.inr (0, 0)))], [.inl 0], 119, pm_RF, r645.2)) rfl ?_
            exact R_end (v := some (.inl 0)) rfl (Or.inr ⟨rfl, Or.inl rfl⟩) rfl rfl
        · refine R_st ho 4 (q' := (88, [(3, .inl r645.1), (2, .inl r643.1), (1, .inl r623.1), (0, .inr (.inr (0, 0)))], [.inl r645.1, .inl r643.1, .inr (.inr (4, 35))], 119, pm_RF, r645.2)) rfl ?_
          refine R_callV ho mv_Moment_swap lk_0_136 rfl (As := [.inl r643.1, .inl r645.1]) (kd := 4) (a := 35) (st := []) rfl rfl (Nat.le_of_ble_eq_true rfl) rfl (by decide) (Nat.le_of_ble_eq_true rfl) (ok_Moment_swap G r643.1 r645.1 r645.2 ) (fun M657 => ?_)
          show pm_R _ _ _ (91, [(3, .inl r645.1), (2, .inl r643.1), (1, .inl r623.1), (0, .inr (.inr (0, 0)))], [], 119, pm_RF, M657) _ _
          refine R_st ho 1 (q' := (92, [(3, .inl r645.1), (2, .inl r643.1), (1, .inl r623.1), (0, .inr (.inr (0, 0)))], [.inl 1], 119, pm_RF, M657)) rfl ?_
          exact R_end (v := some (.inl 1)) rfl (Or.inr ⟨rfl, Or.inr rfl⟩) rfl rfl
      · refine R_st ho 2 (q' := (95, [(3, .inl r645.1), (2, .inl r643.1), (1, .inl r623.1), (0, .inr (.inr (0, 0)))], [.inl 2, .inl r623.1], 119, pm_RF, r645.2)) rfl ?_
        refine R_ic ho rfl (tgt := 117) rfl ?_
        refine R_ne ?_ ?_
        · refine R_st ho 2 (q' := (100, [(3, .inl r645.1), (2, .inl r643.1), (1, .inl r623.1), (0, .inr (.inr (0, 0)))], [.inl r643.1, .inr (.inr (0, 0))], 119, pm_RF, r645.2)) rfl ?_
          refine R_callV ho mv_X_canOff lk_0_125 rfl (As := [.inl r643.1]) (kd := 0) (a := 0) (st := []) rfl rfl (Nat.le_of_ble_eq_true rfl) rfl (by decide) (Nat.le_of_ble_eq_true rfl) (ok_X_canOff G r643.1 r645.2 ) (fun r658 => ?_)
          show pm_R _ _ _ (103, [(3, .inl r645.1), (2, .inl r643.1), (1, .inl r623.1), (0, .inr (.inr (0, 0)))], [.inl r658], 119, pm_RF, r645.2) _ _
          refine R_if ho rfl (tgt := 117) rfl ?_
          refine R_eq ?_ ?_
          · refine R_st ho 1 (q' := (118, [(3, .inl r645.1), (2, .inl r643.1), (1, .inl r623.1), (0, .inr (.inr (0, 0)))], [.inl 0], 119, pm_RF, r645.2)) rfl ?_
            exact R_end (v := some (.inl 0)) rfl (Or.inr ⟨rfl, Or.inl rfl⟩) rfl rfl
          · refine R_st ho 4 (q' := (112, [(3, .inl r645.1), (2, .inl r643.1), (1, .inl r623.1), (0, .inr (.inr (0, 0)))], [.inl (-1), .inl r643.1, .inr (.inr (4, 35))], 119, pm_RF, r645.2)) rfl ?_
            refine R_callV ho mv_Moment_stand lk_0_121 rfl (As := [.inl r643.1, .inl (-1)]) (kd := 4) (a := 35) (st := []) rfl rfl (Nat.le_of_ble_eq_true rfl) rfl (by decide) (Nat.le_of_ble_eq_true rfl) (ok_Moment_stand G r643.1 (-1) r645.2 ) (fun M659 => ?_)
            show pm_R _ _ _ (115, [(3, .inl r645.1), (2, .inl r643.1), (1, .inl r623.1), (0, .inr (.inr (0, 0)))], [], 119, pm_RF, M659) _ _
            refine R_st ho 1 (q' := (116, [(3, .inl r645.1), (2, .inl r643.1), (1, .inl r623.1), (0, .inr (.inr (0, 0)))], [.inl 1], 119, pm_RF, M659)) rfl ?_
            exact R_end (v := some (.inl 1)) rfl (Or.inr ⟨rfl, Or.inr rfl⟩) rfl rfl
        · refine R_st ho 1 (q' := (118, [(3, .inl r645.1), (2, .inl r643.1), (1, .inl r623.1), (0, .inr (.inr (0, 0)))], [.inl 0], 119, pm_RF, r645.2)) rfl ?_
          exact R_end (v := some (.inl 0)) rfl (Or.inr ⟨rfl, Or.inl rfl⟩) rfl rfl
theorem ok_X_revolution_L70 (G : pm_G)    : ∀ (n_ : Nat) (y2 : Int) (y3 : Int) (y4 : Int) (M : pm_M), pm_R G mt_X_revolution 4 (70, [(0, .inr (.inr (0, 0))), (2, .inl y2), (3, .inl y3), (4, .inl y4)], [], 119, pm_RF, M) (f_X_revolution_L70 n_ y2 y3 y4 M) (fun e_ q_ => q_ = (92, [(3, .inl e_.1)], [], 119, pm_RF, e_.2)) := by
  have ho : pm_oG G mt_X_revolution := (oa_X_revolution).g G
  intro n_
  induction n_ with
  | zero => intro _ _ _ _; exact R_none
  | succ n_ ih_ =>
    intro y2 y3 y4 M
    rw [f_X_revolution_L70]
    refine R_st ho 2 (q' := (73, [(0, .inr (.inr (0, 0))), (2, .inl y2), (3, .inl y3), (4, .inl y4)], [.inl y2, .inl y4], 119, pm_RF, M)) rfl ?_
    refine R_ic ho rfl (tgt := 92) rfl ?_
    refine R_ge ?_ ?_
    · refine R_pk [3] rfl ?_
      exact R_ret rfl
    · refine R_st ho 1 (q' := (77, [(0, .inr (.inr (0, 0))), (2, .inl y2), (3, .inl y3), (4, .inl y4)], [.inr (.inr (0, 0))], 119, pm_RF, M)) rfl ?_
      refine R_callV ho mv_X_turns lk_0_314 rfl (As := []) (kd := 0) (a := 0) (st := []) rfl rfl (Nat.le_of_ble_eq_true rfl) rfl (by decide) (Nat.le_of_ble_eq_true rfl) (ok_X_turns G  M ) (fun r660 => ?_)
      show pm_R _ _ _ (80, [(0, .inr (.inr (0, 0))), (2, .inl y2), (3, .inl y3), (4, .inl y4)], [.inl r660.1], 119, pm_RF, r660.2) _ _
      refine R_if ho rfl (tgt := 86) rfl ?_
      refine R_eq ?_ ?_
      · refine R_st ho 2 (q' := (70, [(4, .inl (i_ad y4 1)), (0, .inr (.inr (0, 0))), (2, .inl y2), (3, .inl y3)], [], 119, pm_RF, r660.2)) rfl ?_
        refine R_pk [0, 2, 3, 4] rfl ?_
        exact ih_ y2 y3 (i_ad y4 1) r660.2
      · refine R_st ho 3 (q' := (70, [(4, .inl (i_ad y4 1)), (3, .inl (i_ad y3 1)), (0, .inr (.inr (0, 0))), (2, .inl y2)], [], 119, pm_RF, r660.2)) rfl ?_
        refine R_pk [0, 2, 3, 4] rfl ?_
        exact ih_ y2 (i_ad y3 1) (i_ad y4 1) r660.2
theorem ok_X_revolution (G : pm_G) (x1 : Int) (x2 : Int) (M : pm_M)  : pm_R G mt_X_revolution 4 (0, [(0, .inr (.inr (0, 0))), (1, .inl x1), (2, .inl x2)], [], 119, pm_RF, M) (f_X_revolution x1 x2 M) (pm_Zr mt_X_revolution pm_gI) := by
  have ho : pm_oG G mt_X_revolution := (oa_X_revolution).g G
  unfold f_X_revolution
  refine R_st ho 1 (q' := (1, [(0, .inr (.inr (0, 0))), (1, .inl x1), (2, .inl x2)], [.inl x1], 119, pm_RF, M)) rfl ?_
  refine R_if ho rfl (tgt := 42) rfl ?_
  refine R_lt ?_ ?_
  · refine R_st ho 1 (q' := (43, [(0, .inr (.inr (0, 0))), (1, .inl x1), (2, .inl x2)], [.inl (-1)], 119, pm_RF, M)) rfl ?_
    exact R_end (v := some (.inl (-1))) rfl (Or.inl rfl) rfl rfl
  · refine R_st ho 2 (q' := (8, [(0, .inr (.inr (0, 0))), (1, .inl x1), (2, .inl x2)], [.inl 9999, .inl x1], 119, pm_RF, M)) rfl ?_
    refine R_ic ho rfl (tgt := 42) rfl ?_
    refine R_gt ?_ ?_
    · refine R_st ho 1 (q' := (43, [(0, .inr (.inr (0, 0))), (1, .inl x1), (2, .inl x2)], [.inl (-1)], 119, pm_RF, M)) rfl ?_
      exact R_end (v := some (.inl (-1))) rfl (Or.inl rfl) rfl rfl
    · refine R_st ho 2 (q' := (13, [(0, .inr (.inr (0, 0))), (1, .inl x1), (2, .inl x2)], [.inl 1, .inl x2], 119, pm_RF, M)) rfl ?_
      refine R_ic ho rfl (tgt := 42) rfl ?_
      refine R_lt ?_ ?_
      · refine R_st ho 1 (q' := (43, [(0, .inr (.inr (0, 0))), (1, .inl x1), (2, .inl x2)], [.inl (-1)], 119, pm_RF, M)) rfl ?_
        exact R_end (v := some (.inl (-1))) rfl (Or.inl rfl) rfl rfl
      · refine R_st ho 2 (q' := (19, [(0, .inr (.inr (0, 0))), (1, .inl x1), (2, .inl x2)], [.inl 99, .inl x2], 119, pm_RF, M)) rfl ?_
        refine R_ic ho rfl (tgt := 42) rfl ?_
        refine R_gt ?_ ?_
        · refine R_st ho 1 (q' := (43, [(0, .inr (.inr (0, 0))), (1, .inl x1), (2, .inl x2)], [.inl (-1)], 119, pm_RF, M)) rfl ?_
          exact R_end (v := some (.inl (-1))) rfl (Or.inl rfl) rfl rfl
        · refine R_st ho 2 (q' := (26, [(0, .inr (.inr (0, 0))), (1, .inl x1), (2, .inl x2)], [.inr (.inr (11, 24))], 119, pm_RF, M)) rfl ?_
          refine R_callV ho mv_Told_plinths lk_0_292 rfl (As := []) (kd := 11) (a := 24) (st := []) rfl rfl (Nat.le_of_ble_eq_true rfl) rfl (by decide) (Nat.le_of_ble_eq_true rfl) (ok_Told_plinths G  M ) (fun r617 => ?_)
          show pm_R _ _ _ (29, [(0, .inr (.inr (0, 0))), (1, .inl x1), (2, .inl x2)], [.inl r617], 119, pm_RF, M) _ _
          refine R_if ho rfl (tgt := 42) rfl ?_
          refine R_eq ?_ ?_
          · refine R_st ho 1 (q' := (43, [(0, .inr (.inr (0, 0))), (1, .inl x1), (2, .inl x2)], [.inl (-1)], 119, pm_RF, M)) rfl ?_
            exact R_end (v := some (.inl (-1))) rfl (Or.inl rfl) rfl rfl
          · refine R_st ho 2 (q' := (36, [(0, .inr (.inr (0, 0))), (1, .inl x1), (2, .inl x2)], [.inr (.inr (11, 24))], 119, pm_RF, M)) rfl ?_
            refine R_callV ho mv_Told_heads lk_0_277 rfl (As := []) (kd := 11) (a := 24) (st := []) rfl rfl (Nat.le_of_ble_eq_true rfl) rfl (by decide) (Nat.le_of_ble_eq_true rfl) (ok_Told_heads G  M ) (fun r618 => ?_)
            show pm_R _ _ _ (39, [(0, .inr (.inr (0, 0))), (1, .inl x1), (2, .inl x2)], [.inl r618], 119, pm_RF, M) _ _
            refine R_if ho rfl (tgt := 44) rfl ?_
            refine R_ne ?_ ?_
            · refine R_st ho 1 (q' := (43, [(0, .inr (.inr (0, 0))), (1, .inl x1), (2, .inl x2)], [.inl (-1)], 119, pm_RF, M)) rfl ?_
              exact R_end (v := some (.inl (-1))) rfl (Or.inl rfl) rfl rfl
            · refine R_st ho 4 (q' := (52, [(0, .inr (.inr (0, 0))), (1, .inl x1), (2, .inl x2)], [.inr (.inr (4, 35)), .inr (.inr (8, 1))], 119, pm_RF, M)) rfl ?_
              refine R_callV ho mv_Steps_keep lk_0_117 rfl (As := [.inr (.inr (4, 35))]) (kd := 8) (a := 1) (st := []) rfl rfl (Nat.le_of_ble_eq_true rfl) rfl (by decide) (Nat.le_of_ble_eq_true rfl) (ok_Steps_keep G  M ) (fun M619 => ?_)
              show pm_R _ _ _ (55, [(0, .inr (.inr (0, 0))), (1, .inl x1), (2, .inl x2)], [], 119, pm_RF, M619) _ _
              refine R_st ho 7 (q' := (65, [(0, .inr (.inr (0, 0))), (1, .inl x1), (2, .inl x2)], [], 119, pm_RF, (pm_ms M619 0 14 (i_ad (i_ml x1 13) 5)))) rfl ?_
              refine R_nm fun M620 => ?_
              refine R_st ho 4 (q' := (70, [(4, .inl 0), (3, .inl 0), (0, .inr (.inr (0, 0))), (1, .inl x1), (2, .inl x2)], [], 119, pm_RF, M620)) rfl ?_
              refine R_pk [0, 2, 3, 4] rfl ?_
              refine R_bind (ok_X_revolution_L70 G pm_F x2 0 0 M620) ?_
              intro e661 q_ hq_
              obtain rfl : q_ = (92, [(3, .inl e661.1)], [], 119, pm_RF, e661.2) := hq_
              refine R_st ho 1 (q' := (93, [(3, .inl e661.1)], [.inl e661.1], 119, pm_RF, e661.2)) rfl ?_
              exact R_end (v := some (.inl e661.1)) rfl (Or.inl rfl) rfl rfl
theorem ok_Told_become_3_24 (G : pm_G)  (M : pm_M)  : pm_R G mt_Told_become 1 (0, [(0, .inr (.inr (11, 3))), (1, .inr (.inr (11, 24)))], [], 119, pm_RF, M) (f_Told_become_3_24 M) (pm_Zr mt_Told_become pm_gV) := by
  have ho : pm_oG G mt_Told_become := (oa_Told_become).g G
  unfold f_Told_become_3_24
  refine R_st ho 8 (q' := (15, [(0, .inr (.inr (11, 3))), (1, .inr (.inr (11, 24)))], [], 119, pm_RF, (pm_cp M 25 4 0 0 8))) rfl ?_
  refine R_nm fun M662 => ?_
  refine R_st ho 8 (q' := (30, [(0, .inr (.inr (11, 3))), (1, .inr (.inr (11, 24)))], [], 119, pm_RF, (pm_cp M662 26 5 0 0 8))) rfl ?_
  refine R_nm fun M663 => ?_
  refine R_st ho 8 (q' := (45, [(0, .inr (.inr (11, 3))), (1, .inr (.inr (11, 24)))], [], 119, pm_RF, (pm_cp M663 27 6 0 0 8))) rfl ?_
  refine R_nm fun M664 => ?_
  refine R_st ho 8 (q' := (60, [(0, .inr (.inr (11, 3))), (1, .inr (.inr (11, 24)))], [], 119, pm_RF, (pm_cp M664 28 7 0 0 8))) rfl ?_
  refine R_nm fun M665 => ?_
  refine R_st ho 8 (q' := (75, [(0, .inr (.inr (11, 3))), (1, .inr (.inr (11, 24)))], [], 119, pm_RF, (pm_cp M665 29 8 0 0 8))) rfl ?_
  refine R_nm fun M666 => ?_
  refine R_st ho 8 (q' := (90, [(0, .inr (.inr (11, 3))), (1, .inr (.inr (11, 24)))], [], 119, pm_RF, (pm_cp M666 30 9 0 0 12))) rfl ?_
  refine R_nm fun M667 => ?_
  refine R_st ho 8 (q' := (105, [(0, .inr (.inr (11, 3))), (1, .inr (.inr (11, 24)))], [], 119, pm_RF, (pm_cp M667 31 10 0 0 12))) rfl ?_
  refine R_nm fun M668 => ?_
  refine R_st ho 8 (q' := (120, [(0, .inr (.inr (11, 3))), (1, .inr (.inr (11, 24)))], [], 119, pm_RF, (pm_cp M668 32 11 0 0 12))) rfl ?_
  refine R_nm fun M669 => ?_
  refine R_st ho 8 (q' := (135, [(0, .inr (.inr (11, 3))), (1, .inr (.inr (11, 24)))], [], 119, pm_RF, (pm_cp M669 33 12 0 0 12))) rfl ?_
  refine R_nm fun M670 => ?_
  refine R_st ho 8 (q' := (150, [(0, .inr (.inr (11, 3))), (1, .inr (.inr (11, 24)))], [], 119, pm_RF, (pm_cp M670 34 13 0 0 12))) rfl ?_
  refine R_nm fun M671 => ?_
  refine R_st ho 4 (q' := (158, [(0, .inr (.inr (11, 3))), (1, .inr (.inr (11, 24)))], [], 119, pm_RF, (pm_ms M671 3 10 (M671 24 10)))) rfl ?_
  refine R_nm fun M672 => ?_
  refine R_st ho 4 (q' := (166, [(0, .inr (.inr (11, 3))), (1, .inr (.inr (11, 24)))], [], 119, pm_RF, (pm_ms M672 3 11 (M672 24 11)))) rfl ?_
  refine R_nm fun M673 => ?_
  refine R_st ho 4 (q' := (174, [(0, .inr (.inr (11, 3))), (1, .inr (.inr (11, 24)))], [], 119, pm_RF, (pm_ms M673 3 12 (M673 24 12)))) rfl ?_
  refine R_nm fun M674 => ?_
  refine R_st ho 4 (q' := (182, [(0, .inr (.inr (11, 3))), (1, .inr (.inr (11, 24)))], [], 119, pm_RF, (pm_ms M674 3 13 (M674 24 13)))) rfl ?_
  refine R_nm fun M675 => ?_
  refine R_st ho 4 (q' := (190, [(0, .inr (.inr (11, 3))), (1, .inr (.inr (11, 24)))], [], 119, pm_RF, (pm_ms M675 3 14 (M675 24 14)))) rfl ?_
  refine R_nm fun M676 => ?_
  exact R_end (v := none) rfl rfl rfl rfl
theorem ok_Moment_become_14_35 (G : pm_G)  (M : pm_M)  : pm_R G mt_Moment_become 1 (0, [(0, .inr (.inr (4, 14))), (1, .inr (.inr (4, 35)))], [], 119, pm_RF, M) (f_Moment_become_14_35 M) (pm_Zr mt_Moment_become pm_gV) := by
  have ho : pm_oG G mt_Moment_become := (oa_Moment_become).g G
  unfold f_Moment_become_14_35
  refine R_st ho 8 (q' := (16, [(0, .inr (.inr (4, 14))), (1, .inr (.inr (4, 35)))], [], 119, pm_RF, (pm_cp M 36 15 0 0 186))) rfl ?_
  refine R_nm fun M678 => ?_
  exact R_end (v := none) rfl rfl rfl rfl
theorem ok_Steps_become_16_1 (G : pm_G)  (M : pm_M)  : pm_R G mt_Steps_become 1 (0, [(0, .inr (.inr (8, 16))), (1, .inr (.inr (8, 1)))], [], 119, pm_RF, M) (f_Steps_become_16_1 M) (pm_Zr mt_Steps_become pm_gV) := by
  have ho : pm_oG G mt_Steps_become := (oa_Steps_become).g G
  unfold f_Steps_become_16_1
  refine R_st ho 10 (q' := (18, [(0, .inr (.inr (8, 16))), (1, .inr (.inr (8, 1)))], [], 119, pm_RF, (pm_cp M 2 17 0 0 3720))) rfl ?_
  refine R_nm fun M680 => ?_
  refine R_st ho 4 (q' := (26, [(0, .inr (.inr (8, 16))), (1, .inr (.inr (8, 1)))], [], 119, pm_RF, (pm_ms M680 16 1 (M680 1 1)))) rfl ?_
  refine R_nm fun M681 => ?_
  refine R_st ho 4 (q' := (34, [(0, .inr (.inr (8, 16))), (1, .inr (.inr (8, 1)))], [], 119, pm_RF, (pm_ms M681 16 2 (M681 1 2)))) rfl ?_
  refine R_nm fun M682 => ?_
  exact R_end (v := none) rfl rfl rfl rfl
theorem ok_X_image (G : pm_G)  (M : pm_M)  : pm_R G mt_X_image 2 (0, [(0, .inr (.inr (0, 0)))], [], 119, pm_RF, M) (f_X_image M) (pm_Zr mt_X_image pm_gI) := by
  have ho : pm_oG G mt_X_image := (oa_X_image).g G
  unfold f_X_image
  refine R_st ho 4 (q' := (8, [(0, .inr (.inr (0, 0)))], [.inr (.inr (11, 24)), .inr (.inr (11, 3))], 119, pm_RF, M)) rfl ?_
  refine R_callV ho mv_Told_become lk_0_317 rfl (As := [.inr (.inr (11, 24))]) (kd := 11) (a := 3) (st := []) rfl rfl (Nat.le_of_ble_eq_true rfl) rfl (by decide) (Nat.le_of_ble_eq_true rfl) (ok_Told_become_3_24 G  M ) (fun M677 => ?_)
  show pm_R _ _ _ (11, [(0, .inr (.inr (0, 0)))], [], 119, pm_RF, M677) _ _
  refine R_st ho 4 (q' := (19, [(0, .inr (.inr (0, 0)))], [.inr (.inr (4, 35)), .inr (.inr (4, 14))], 119, pm_RF, M677)) rfl ?_
  refine R_callV ho mv_Moment_become lk_0_320 rfl (As := [.inr (.inr (4, 35))]) (kd := 4) (a := 14) (st := []) rfl rfl (Nat.le_of_ble_eq_true rfl) rfl (by decide) (Nat.le_of_ble_eq_true rfl) (ok_Moment_become_14_35 G  M677 ) (fun M679 => ?_)
  show pm_R _ _ _ (22, [(0, .inr (.inr (0, 0)))], [], 119, pm_RF, M679) _ _
  refine R_st ho 4 (q' := (30, [(0, .inr (.inr (0, 0)))], [.inr (.inr (8, 1)), .inr (.inr (8, 16))], 119, pm_RF, M679)) rfl ?_
  refine R_callV ho mv_Steps_become lk_0_322 rfl (As := [.inr (.inr (8, 1))]) (kd := 8) (a := 16) (st := []) rfl rfl (Nat.le_of_ble_eq_true rfl) rfl (by decide) (Nat.le_of_ble_eq_true rfl) (ok_Steps_become_16_1 G  M679 ) (fun M683 => ?_)
  show pm_R _ _ _ (33, [(0, .inr (.inr (0, 0)))], [], 119, pm_RF, M683) _ _
  refine R_st ho 2 (q' := (37, [(0, .inr (.inr (0, 0)))], [.inr (.inr (4, 35))], 119, pm_RF, M683)) rfl ?_
  refine R_callV ho mv_Moment_day lk_0_168 rfl (As := []) (kd := 4) (a := 35) (st := []) rfl rfl (Nat.le_of_ble_eq_true rfl) rfl (by decide) (Nat.le_of_ble_eq_true rfl) (ok_Moment_day G  M683 ) (fun r684 => ?_)
  show pm_R _ _ _ (40, [(0, .inr (.inr (0, 0)))], [.inl r684], 119, pm_RF, M683) _ _
  exact R_end (v := some (.inl r684)) rfl (Or.inl rfl) rfl rfl
theorem ok_Told_become_24_3 (G : pm_G)  (M : pm_M)  : pm_R G mt_Told_become 1 (0, [(0, .inr (.inr (11, 24))), (1, .inr (.inr (11, 3)))], [], 119, pm_RF, M) (f_Told_become_24_3 M) (pm_Zr mt_Told_become pm_gV) := by
  have ho : pm_oG G mt_Told_become := (oa_Told_become).g G
  unfold f_Told_become_24_3
  refine R_st ho 8 (q' := (15, [(0, .inr (.inr (11, 24))), (1, .inr (.inr (11, 3)))], [], 119, pm_RF, (pm_cp M 4 25 0 0 8))) rfl ?_
  refine R_nm fun M685 => ?_
  refine R_st ho 8 (q' := (30, [(0, .inr (.inr (11, 24))), (1, .inr (.inr (11, 3)))], [], 119, pm_RF, (pm_cp M685 5 26 0 0 8))) rfl ?_
  refine R_nm fun M686 => ?_
  refine R_st ho 8 (q' := (45, [(0, .inr (.inr (11, 24))), (1, .inr (.inr (11, 3)))], [], 119, pm_RF, (pm_cp M686 6 27 0 0 8))) rfl ?_
  refine R_nm fun M687 => ?_
  refine R_st ho 8 (q' := (60, [(0, .inr (.inr (11, 24))), (1, .inr (.inr (11, 3)))], [], 119, pm_RF, (pm_cp M687 7 28 0 0 8))) rfl ?_
  refine R_nm fun M688 => ?_
  refine R_st ho 8 (q' := (75, [(0, .inr (.inr (11, 24))), (1, .inr (.inr (11, 3)))], [], 119, pm_RF, (pm_cp M688 8 29 0 0 8))) rfl ?_
  refine R_nm fun M689 => ?_
  refine R_st ho 8 (q' := (90, [(0, .inr (.inr (11, 24))), (1, .inr (.inr (11, 3)))], [], 119, pm_RF, (pm_cp M689 9 30 0 0 12))) rfl ?_
  refine R_nm fun M690 => ?_
  refine R_st ho 8 (q' := (105, [(0, .inr (.inr (11, 24))), (1, .inr (.inr (11, 3)))], [], 119, pm_RF, (pm_cp M690 10 31 0 0 12))) rfl ?_
  refine R_nm fun M691 => ?_
  refine R_st ho 8 (q' := (120, [(0, .inr (.inr (11, 24))), (1, .inr (.inr (11, 3)))], [], 119, pm_RF, (pm_cp M691 11 32 0 0 12))) rfl ?_
  refine R_nm fun M692 => ?_
  refine R_st ho 8 (q' := (135, [(0, .inr (.inr (11, 24))), (1, .inr (.inr (11, 3)))], [], 119, pm_RF, (pm_cp M692 12 33 0 0 12))) rfl ?_
  refine R_nm fun M693 => ?_
  refine R_st ho 8 (q' := (150, [(0, .inr (.inr (11, 24))), (1, .inr (.inr (11, 3)))], [], 119, pm_RF, (pm_cp M693 13 34 0 0 12))) rfl ?_
  refine R_nm fun M694 => ?_
  refine R_st ho 4 (q' := (158, [(0, .inr (.inr (11, 24))), (1, .inr (.inr (11, 3)))], [], 119, pm_RF, (pm_ms M694 24 10 (M694 3 10)))) rfl ?_
  refine R_nm fun M695 => ?_
  refine R_st ho 4 (q' := (166, [(0, .inr (.inr (11, 24))), (1, .inr (.inr (11, 3)))], [], 119, pm_RF, (pm_ms M695 24 11 (M695 3 11)))) rfl ?_
  refine R_nm fun M696 => ?_
  refine R_st ho 4 (q' := (174, [(0, .inr (.inr (11, 24))), (1, .inr (.inr (11, 3)))], [], 119, pm_RF, (pm_ms M696 24 12 (M696 3 12)))) rfl ?_
  refine R_nm fun M697 => ?_
  refine R_st ho 4 (q' := (182, [(0, .inr (.inr (11, 24))), (1, .inr (.inr (11, 3)))], [], 119, pm_RF, (pm_ms M697 24 13 (M697 3 13)))) rfl ?_
  refine R_nm fun M698 => ?_
  refine R_st ho 4 (q' := (190, [(0, .inr (.inr (11, 24))), (1, .inr (.inr (11, 3)))], [], 119, pm_RF, (pm_ms M698 24 14 (M698 3 14)))) rfl ?_
  refine R_nm fun M699 => ?_
  exact R_end (v := none) rfl rfl rfl rfl
theorem ok_Moment_become_35_14 (G : pm_G)  (M : pm_M)  : pm_R G mt_Moment_become 1 (0, [(0, .inr (.inr (4, 35))), (1, .inr (.inr (4, 14)))], [], 119, pm_RF, M) (f_Moment_become_35_14 M) (pm_Zr mt_Moment_become pm_gV) := by
  have ho : pm_oG G mt_Moment_become := (oa_Moment_become).g G
  unfold f_Moment_become_35_14
  refine R_st ho 8 (q' := (16, [(0, .inr (.inr (4, 35))), (1, .inr (.inr (4, 14)))], [], 119, pm_RF, (pm_cp M 15 36 0 0 186))) rfl ?_
  refine R_nm fun M701 => ?_
  exact R_end (v := none) rfl rfl rfl rfl
theorem ok_Steps_become_1_16 (G : pm_G)  (M : pm_M)  : pm_R G mt_Steps_become 1 (0, [(0, .inr (.inr (8, 1))), (1, .inr (.inr (8, 16)))], [], 119, pm_RF, M) (f_Steps_become_1_16 M) (pm_Zr mt_Steps_become pm_gV) := by
  have ho : pm_oG G mt_Steps_become := (oa_Steps_become).g G
  unfold f_Steps_become_1_16
  refine R_st ho 10 (q' := (18, [(0, .inr (.inr (8, 1))), (1, .inr (.inr (8, 16)))], [], 119, pm_RF, (pm_cp M 17 2 0 0 3720))) rfl ?_
  refine R_nm fun M703 => ?_
  refine R_st ho 4 (q' := (26, [(0, .inr (.inr (8, 1))), (1, .inr (.inr (8, 16)))], [], 119, pm_RF, (pm_ms M703 1 1 (M703 16 1)))) rfl ?_
  refine R_nm fun M704 => ?_
  refine R_st ho 4 (q' := (34, [(0, .inr (.inr (8, 1))), (1, .inr (.inr (8, 16)))], [], 119, pm_RF, (pm_ms M704 1 2 (M704 16 2)))) rfl ?_
  refine R_nm fun M705 => ?_
  exact R_end (v := none) rfl rfl rfl rfl
theorem ok_X_back (G : pm_G)  (M : pm_M)  : pm_R G mt_X_back 2 (0, [(0, .inr (.inr (0, 0)))], [], 119, pm_RF, M) (f_X_back M) (pm_Zr mt_X_back pm_gI) := by
  have ho : pm_oG G mt_X_back := (oa_X_back).g G
  unfold f_X_back
  refine R_st ho 4 (q' := (8, [(0, .inr (.inr (0, 0)))], [.inr (.inr (11, 3)), .inr (.inr (11, 24))], 119, pm_RF, M)) rfl ?_
  refine R_callV ho mv_Told_become lk_0_317 rfl (As := [.inr (.inr (11, 3))]) (kd := 11) (a := 24) (st := []) rfl rfl (Nat.le_of_ble_eq_true rfl) rfl (by decide) (Nat.le_of_ble_eq_true rfl) (ok_Told_become_24_3 G  M ) (fun M700 => ?_)
  show pm_R _ _ _ (11, [(0, .inr (.inr (0, 0)))], [], 119, pm_RF, M700) _ _
  refine R_st ho 4 (q' := (19, [(0, .inr (.inr (0, 0)))], [.inr (.inr (4, 14)), .inr (.inr (4, 35))], 119, pm_RF, M700)) rfl ?_
  refine R_callV ho mv_Moment_become lk_0_320 rfl (As := [.inr (.inr (4, 14))]) (kd := 4) (a := 35) (st := []) rfl rfl (Nat.le_of_ble_eq_true rfl) rfl (by decide) (Nat.le_of_ble_eq_true rfl) (ok_Moment_become_35_14 G  M700 ) (fun M702 => ?_)
  show pm_R _ _ _ (22, [(0, .inr (.inr (0, 0)))], [], 119, pm_RF, M702) _ _
  refine R_st ho 4 (q' := (30, [(0, .inr (.inr (0, 0)))], [.inr (.inr (8, 16)), .inr (.inr (8, 1))], 119, pm_RF, M702)) rfl ?_
  refine R_callV ho mv_Steps_become lk_0_322 rfl (As := [.inr (.inr (8, 16))]) (kd := 8) (a := 1) (st := []) rfl rfl (Nat.le_of_ble_eq_true rfl) rfl (by decide) (Nat.le_of_ble_eq_true rfl) (ok_Steps_become_1_16 G  M702 ) (fun M706 => ?_)
  show pm_R _ _ _ (33, [(0, .inr (.inr (0, 0)))], [], 119, pm_RF, M706) _ _
  refine R_st ho 2 (q' := (37, [(0, .inr (.inr (0, 0)))], [.inr (.inr (4, 35))], 119, pm_RF, M706)) rfl ?_
  refine R_callV ho mv_Moment_day lk_0_168 rfl (As := []) (kd := 4) (a := 35) (st := []) rfl rfl (Nat.le_of_ble_eq_true rfl) rfl (by decide) (Nat.le_of_ble_eq_true rfl) (ok_Moment_day G  M706 ) (fun r707 => ?_)
  show pm_R _ _ _ (40, [(0, .inr (.inr (0, 0)))], [.inl r707], 119, pm_RF, M706) _ _
  exact R_end (v := some (.inl r707)) rfl (Or.inl rfl) rfl rfl
theorem ok_Moment_debts_L4 (G : pm_G)   (M : pm_M) : ∀ (n_ : Nat) (y1 : Int) (y2 : Int), pm_R G mt_Moment_debts 1 (4, [(0, .inr (.inr (4, 35))), (1, .inl y1), (2, .inl y2)], [], 119, pm_RF, M) (f_Moment_debts_L4 M n_ y1 y2) (fun e_ q_ => q_ = (28, [(1, .inl e_)], [], 119, pm_RF, M)) := by
  have ho : pm_oG G mt_Moment_debts := (oa_Moment_debts).g G
  intro n_
  induction n_ with
  | zero => intro _ _; exact R_none
  | succ n_ ih_ =>
    intro y1 y2
    rw [f_Moment_debts_L4]
    refine R_st ho 2 (q' := (7, [(0, .inr (.inr (4, 35))), (1, .inl y1), (2, .inl y2)], [.inl 12, .inl y2], 119, pm_RF, M)) rfl ?_
    refine R_ic ho rfl (tgt := 28) rfl ?_
    refine R_ge ?_ ?_
    · refine R_pk [1] rfl ?_
      exact R_ret rfl
    · refine R_st ho 6 (q' := (19, [(0, .inr (.inr (4, 35))), (1, .inl y1), (2, .inl y2)], [.inl (i_ad 16 y2), .inr (.inr (20, 36)), .inl y1], 119, pm_RF, M)) rfl ?_
      refine R_iald ho rfl rfl ?_
      refine R_st ho 2 (q' := (22, [(1, .inl (i_ad y1 (M 36 ((i_ad 16 y2)).toNat))), (0, .inr (.inr (4, 35))), (2, .inl y2)], [], 119, pm_RF, M)) rfl ?_
      refine R_nx (fun z_ => (22, [(1, .inl z_), (0, .inr (.inr (4, 35))), (2, .inl y2)], [], 119, pm_RF, M)) fun v717 => ?_
      refine R_st ho 2 (q' := (4, [(2, .inl (i_ad y2 1)), (1, .inl v717), (0, .inr (.inr (4, 35)))], [], 119, pm_RF, M)) rfl ?_
      refine R_pk [0, 1, 2] rfl ?_
      exact ih_ v717 (i_ad y2 1)
theorem ok_Moment_debts (G : pm_G)  (M : pm_M)  : pm_R G mt_Moment_debts 1 (0, [(0, .inr (.inr (4, 35)))], [], 119, pm_RF, M) (f_Moment_debts M) (pm_Zr mt_Moment_debts (pm_gi M)) := by
  have ho : pm_oG G mt_Moment_debts := (oa_Moment_debts).g G
  unfold f_Moment_debts
  refine R_st ho 4 (q' := (4, [(2, .inl 0), (1, .inl 0), (0, .inr (.inr (4, 35)))], [], 119, pm_RF, M)) rfl ?_
  refine R_pk [0, 1, 2] rfl ?_
  refine R_bind (ok_Moment_debts_L4 G M pm_F 0 0) ?_
  intro e718 q_ hq_
  obtain rfl : q_ = (28, [(1, .inl e718)], [], 119, pm_RF, M) := hq_
  refine R_st ho 1 (q' := (29, [(1, .inl e718)], [.inl e718], 119, pm_RF, M)) rfl ?_
  exact R_end (v := some (.inl e718)) rfl (Or.inl rfl) rfl rfl
theorem ok_Told_xOf (G : pm_G) (x1 : Int) (M : pm_M)  : pm_R G mt_Told_xOf 1 (0, [(0, .inr (.inr (11, 24))), (1, .inl x1)], [], 119, pm_RF, M) (f_Told_xOf x1 M) (pm_Zr mt_Told_xOf (pm_gi M)) := by
  have ho : pm_oG G mt_Told_xOf := (oa_Told_xOf).g G
  unfold f_Told_xOf
  refine R_st ho 3 (q' := (5, [(0, .inr (.inr (11, 24))), (1, .inl x1)], [.inl x1, .inr (.inr (20, 25))], 119, pm_RF, M)) rfl ?_
  refine R_iald ho rfl rfl ?_
  exact R_end (v := some (.inl (M 25 (x1).toNat))) rfl (Or.inl rfl) rfl rfl
theorem ok_Told_yOf (G : pm_G) (x1 : Int) (M : pm_M)  : pm_R G mt_Told_yOf 1 (0, [(0, .inr (.inr (11, 24))), (1, .inl x1)], [], 119, pm_RF, M) (f_Told_yOf x1 M) (pm_Zr mt_Told_yOf (pm_gi M)) := by
  have ho : pm_oG G mt_Told_yOf := (oa_Told_yOf).g G
  unfold f_Told_yOf
  refine R_st ho 3 (q' := (5, [(0, .inr (.inr (11, 24))), (1, .inl x1)], [.inl x1, .inr (.inr (20, 26))], 119, pm_RF, M)) rfl ?_
  refine R_iald ho rfl rfl ?_
  exact R_end (v := some (.inl (M 26 (x1).toNat))) rfl (Or.inl rfl) rfl rfl
theorem ok_X_about_J108 (G : pm_G)     (y1 : Int) (M : pm_M) : pm_R G mt_X_about 2 (108, [(0, .inr (.inr (0, 0))), (1, .inl y1)], [], 119, pm_RF, M) (f_X_about_J108 y1 M) (pm_Zr mt_X_about (pm_gi M)) := by
  have ho : pm_oG G mt_X_about := (oa_X_about).g G
  unfold f_X_about_J108
  refine R_st ho 1 (q' := (109, [(0, .inr (.inr (0, 0))), (1, .inl y1)], [.inl y1], 119, pm_RF, M)) rfl ?_
  refine R_cs (fun z_ => (109, [(0, .inr (.inr (0, 0))), (1, .inl y1)], [.inl z_], 119, pm_RF, M)) ?_ (fun h720 => ?_)
  · refine R_swk ho rfl (by decide) rfl (tgt := 164) rfl (by decide +kernel) ?_
    refine R_st ho 2 (q' := (168, [(0, .inr (.inr (0, 0))), (1, .inl y1)], [.inr (.inr (11, 24))], 119, pm_RF, M)) rfl ?_
    refine R_callV ho mv_Told_plinths lk_0_292 rfl (As := []) (kd := 11) (a := 24) (st := []) rfl rfl (Nat.le_of_ble_eq_true rfl) rfl (by decide) (Nat.le_of_ble_eq_true rfl) (ok_Told_plinths G  M ) (fun r708 => ?_)
    show pm_R _ _ _ (171, [(0, .inr (.inr (0, 0))), (1, .inl y1)], [.inl r708], 119, pm_RF, M) _ _
    refine R_st ho 1 (q' := (266, [(0, .inr (.inr (0, 0))), (1, .inl y1)], [.inl r708], 119, pm_RF, M)) rfl ?_
    exact R_end (v := some (.inl r708)) rfl (Or.inl rfl) rfl rfl
  refine R_cs (fun z_ => (109, [(0, .inr (.inr (0, 0))), (1, .inl y1)], [.inl z_], 119, pm_RF, M)) ?_ (fun h721 => ?_)
  · refine R_swk ho rfl (by decide) rfl (tgt := 174) rfl (by decide +kernel) ?_
    refine R_st ho 2 (q' := (178, [(0, .inr (.inr (0, 0))), (1, .inl y1)], [.inr (.inr (11, 24))], 119, pm_RF, M)) rfl ?_
    refine R_callV ho mv_Told_heads lk_0_277 rfl (As := []) (kd := 11) (a := 24) (st := []) rfl rfl (Nat.le_of_ble_eq_true rfl) rfl (by decide) (Nat.le_of_ble_eq_true rfl) (ok_Told_heads G  M ) (fun r709 => ?_)
    show pm_R _ _ _ (181, [(0, .inr (.inr (0, 0))), (1, .inl y1)], [.inl r709], 119, pm_RF, M) _ _
    refine R_st ho 1 (q' := (266, [(0, .inr (.inr (0, 0))), (1, .inl y1)], [.inl r709], 119, pm_RF, M)) rfl ?_
    exact R_end (v := some (.inl r709)) rfl (Or.inl rfl) rfl rfl
  refine R_cs (fun z_ => (109, [(0, .inr (.inr (0, 0))), (1, .inl y1)], [.inl z_], 119, pm_RF, M)) ?_ (fun h722 => ?_)
  · refine R_swk ho rfl (by decide) rfl (tgt := 184) rfl (by decide +kernel) ?_
    refine R_st ho 2 (q' := (188, [(0, .inr (.inr (0, 0))), (1, .inl y1)], [.inr (.inr (4, 35))], 119, pm_RF, M)) rfl ?_
    refine R_callV ho mv_Moment_day lk_0_168 rfl (As := []) (kd := 4) (a := 35) (st := []) rfl rfl (Nat.le_of_ble_eq_true rfl) rfl (by decide) (Nat.le_of_ble_eq_true rfl) (ok_Moment_day G  M ) (fun r710 => ?_)
    show pm_R _ _ _ (191, [(0, .inr (.inr (0, 0))), (1, .inl y1)], [.inl r710], 119, pm_RF, M) _ _
    refine R_st ho 1 (q' := (266, [(0, .inr (.inr (0, 0))), (1, .inl y1)], [.inl r710], 119, pm_RF, M)) rfl ?_
    exact R_end (v := some (.inl r710)) rfl (Or.inl rfl) rfl rfl
  refine R_cs (fun z_ => (109, [(0, .inr (.inr (0, 0))), (1, .inl y1)], [.inl z_], 119, pm_RF, M)) ?_ (fun h723 => ?_)
  · refine R_swk ho rfl (by decide) rfl (tgt := 194) rfl (by decide +kernel) ?_
    refine R_st ho 2 (q' := (198, [(0, .inr (.inr (0, 0))), (1, .inl y1)], [.inr (.inr (4, 35))], 119, pm_RF, M)) rfl ?_
    refine R_callV ho mv_Moment_purse lk_0_157 rfl (As := []) (kd := 4) (a := 35) (st := []) rfl rfl (Nat.le_of_ble_eq_true rfl) rfl (by decide) (Nat.le_of_ble_eq_true rfl) (ok_Moment_purse G  M ) (fun r711 => ?_)
    show pm_R _ _ _ (201, [(0, .inr (.inr (0, 0))), (1, .inl y1)], [.inl r711], 119, pm_RF, M) _ _
    refine R_st ho 1 (q' := (266, [(0, .inr (.inr (0, 0))), (1, .inl y1)], [.inl r711], 119, pm_RF, M)) rfl ?_
    exact R_end (v := some (.inl r711)) rfl (Or.inl rfl) rfl rfl
  refine R_cs (fun z_ => (109, [(0, .inr (.inr (0, 0))), (1, .inl y1)], [.inl z_], 119, pm_RF, M)) ?_ (fun h724 => ?_)
  · refine R_swk ho rfl (by decide) rfl (tgt := 204) rfl (by decide +kernel) ?_
    refine R_st ho 2 (q' := (208, [(0, .inr (.inr (0, 0))), (1, .inl y1)], [.inr (.inr (11, 24))], 119, pm_RF, M)) rfl ?_
    refine R_callV ho mv_Told_texts lk_0_187 rfl (As := []) (kd := 11) (a := 24) (st := []) rfl rfl (Nat.le_of_ble_eq_true rfl) rfl (by decide) (Nat.le_of_ble_eq_true rfl) (ok_Told_texts G  M ) (fun r712 => ?_)
    show pm_R _ _ _ (211, [(0, .inr (.inr (0, 0))), (1, .inl y1)], [.inl r712], 119, pm_RF, M) _ _
    refine R_st ho 1 (q' := (266, [(0, .inr (.inr (0, 0))), (1, .inl y1)], [.inl r712], 119, pm_RF, M)) rfl ?_
    exact R_end (v := some (.inl r712)) rfl (Or.inl rfl) rfl rfl
  refine R_cs (fun z_ => (109, [(0, .inr (.inr (0, 0))), (1, .inl y1)], [.inl z_], 119, pm_RF, M)) ?_ (fun h725 => ?_)
  · refine R_swk ho rfl (by decide) rfl (tgt := 214) rfl (by decide +kernel) ?_
    refine R_st ho 2 (q' := (218, [(0, .inr (.inr (0, 0))), (1, .inl y1)], [.inr (.inr (11, 24))], 119, pm_RF, M)) rfl ?_
    refine R_callV ho mv_Told_ruling lk_0_337 rfl (As := []) (kd := 11) (a := 24) (st := []) rfl rfl (Nat.le_of_ble_eq_true rfl) rfl (by decide) (Nat.le_of_ble_eq_true rfl) (ok_Told_ruling G  M ) (fun r713 => ?_)
    show pm_R _ _ _ (221, [(0, .inr (.inr (0, 0))), (1, .inl y1)], [.inl r713], 119, pm_RF, M) _ _
    refine R_st ho 1 (q' := (266, [(0, .inr (.inr (0, 0))), (1, .inl y1)], [.inl r713], 119, pm_RF, M)) rfl ?_
    exact R_end (v := some (.inl r713)) rfl (Or.inl rfl) rfl rfl
  refine R_cs (fun z_ => (109, [(0, .inr (.inr (0, 0))), (1, .inl y1)], [.inl z_], 119, pm_RF, M)) ?_ (fun h726 => ?_)
  · refine R_swk ho rfl (by decide) rfl (tgt := 224) rfl (by decide +kernel) ?_
    refine R_st ho 2 (q' := (228, [(0, .inr (.inr (0, 0))), (1, .inl y1)], [.inr (.inr (8, 1))], 119, pm_RF, M)) rfl ?_
    refine R_callV ho mv_Steps_count lk_0_236 rfl (As := []) (kd := 8) (a := 1) (st := []) rfl rfl (Nat.le_of_ble_eq_true rfl) rfl (by decide) (Nat.le_of_ble_eq_true rfl) (ok_Steps_count G  M ) (fun r714 => ?_)
    show pm_R _ _ _ (231, [(0, .inr (.inr (0, 0))), (1, .inl y1)], [.inl r714], 119, pm_RF, M) _ _
    refine R_st ho 1 (q' := (266, [(0, .inr (.inr (0, 0))), (1, .inl y1)], [.inl r714], 119, pm_RF, M)) rfl ?_
    exact R_end (v := some (.inl r714)) rfl (Or.inl rfl) rfl rfl
  refine R_cs (fun z_ => (109, [(0, .inr (.inr (0, 0))), (1, .inl y1)], [.inl z_], 119, pm_RF, M)) ?_ (fun h727 => ?_)
  · refine R_swk ho rfl (by decide) rfl (tgt := 234) rfl (by decide +kernel) ?_
    refine R_st ho 2 (q' := (238, [(0, .inr (.inr (0, 0))), (1, .inl y1)], [.inr (.inr (11, 24))], 119, pm_RF, M)) rfl ?_
    refine R_callV ho mv_Told_countSeen lk_0_340 rfl (As := []) (kd := 11) (a := 24) (st := []) rfl rfl (Nat.le_of_ble_eq_true rfl) rfl (by decide) (Nat.le_of_ble_eq_true rfl) (ok_Told_countSeen G  M ) (fun r715 => ?_)
    show pm_R _ _ _ (241, [(0, .inr (.inr (0, 0))), (1, .inl y1)], [.inl r715], 119, pm_RF, M) _ _
    refine R_st ho 1 (q' := (266, [(0, .inr (.inr (0, 0))), (1, .inl y1)], [.inl r715], 119, pm_RF, M)) rfl ?_
    exact R_end (v := some (.inl r715)) rfl (Or.inl rfl) rfl rfl
  refine R_cs (fun z_ => (109, [(0, .inr (.inr (0, 0))), (1, .inl y1)], [.inl z_], 119, pm_RF, M)) ?_ (fun h728 => ?_)
  · refine R_swk ho rfl (by decide) rfl (tgt := 244) rfl (by decide +kernel) ?_
    refine R_st ho 2 (q' := (248, [(0, .inr (.inr (0, 0))), (1, .inl y1)], [.inr (.inr (9, 37))], 119, pm_RF, M)) rfl ?_
    refine R_callV ho mv_Tape_length lk_0_181 rfl (As := []) (kd := 9) (a := 37) (st := []) rfl rfl (Nat.le_of_ble_eq_true rfl) rfl (by decide) (Nat.le_of_ble_eq_true rfl) (ok_Tape_length G  M ) (fun r716 => ?_)
    show pm_R _ _ _ (251, [(0, .inr (.inr (0, 0))), (1, .inl y1)], [.inl r716], 119, pm_RF, M) _ _
    refine R_st ho 1 (q' := (266, [(0, .inr (.inr (0, 0))), (1, .inl y1)], [.inl r716], 119, pm_RF, M)) rfl ?_
    exact R_end (v := some (.inl r716)) rfl (Or.inl rfl) rfl rfl
  refine R_cs (fun z_ => (109, [(0, .inr (.inr (0, 0))), (1, .inl y1)], [.inl z_], 119, pm_RF, M)) ?_ (fun h729 => ?_)
  · refine R_swk ho rfl (by decide) rfl (tgt := 254) rfl (by decide +kernel) ?_
    refine R_st ho 2 (q' := (258, [(0, .inr (.inr (0, 0))), (1, .inl y1)], [.inr (.inr (4, 35))], 119, pm_RF, M)) rfl ?_
    refine R_callV ho mv_Moment_debts lk_0_343 rfl (As := []) (kd := 4) (a := 35) (st := []) rfl rfl (Nat.le_of_ble_eq_true rfl) rfl (by decide) (Nat.le_of_ble_eq_true rfl) (ok_Moment_debts G  M ) (fun r719 => ?_)
    show pm_R _ _ _ (261, [(0, .inr (.inr (0, 0))), (1, .inl y1)], [.inl r719], 119, pm_RF, M) _ _
    refine R_st ho 1 (q' := (266, [(0, .inr (.inr (0, 0))), (1, .inl y1)], [.inl r719], 119, pm_RF, M)) rfl ?_
    exact R_end (v := some (.inl r719)) rfl (Or.inl rfl) rfl rfl
  refine R_swd ho rfl (by omega) rfl (by decide +kernel) ?_
  refine R_st ho 1 (q' := (266, [(0, .inr (.inr (0, 0))), (1, .inl y1)], [.inl (-2)], 119, pm_RF, M)) rfl ?_
  exact R_end (v := some (.inl (-2))) rfl (Or.inl rfl) rfl rfl
theorem ok_X_about_J54 (G : pm_G)     (y1 : Int) (M : pm_M) : pm_R G mt_X_about 2 (54, [(0, .inr (.inr (0, 0))), (1, .inl y1)], [], 119, pm_RF, M) (f_X_about_J54 y1 M) (pm_Zr mt_X_about (pm_gi M)) := by
  have ho : pm_oG G mt_X_about := (oa_X_about).g G
  unfold f_X_about_J54
  refine R_st ho 2 (q' := (57, [(0, .inr (.inr (0, 0))), (1, .inl y1)], [.inl 20, .inl y1], 119, pm_RF, M)) rfl ?_
  refine R_ic ho rfl (tgt := 108) rfl ?_
  refine R_lt ?_ ?_
  · exact ok_X_about_J108 G y1 M
  · refine R_st ho 2 (q' := (63, [(0, .inr (.inr (0, 0))), (1, .inl y1)], [.inl 30, .inl y1], 119, pm_RF, M)) rfl ?_
    refine R_ic ho rfl (tgt := 108) rfl ?_
    refine R_ge ?_ ?_
    · exact ok_X_about_J108 G y1 M
    · refine R_st ho 7 (q' := (76, [(2, .inl (i_sb y1 20)), (0, .inr (.inr (0, 0))), (1, .inl y1)], [.inl (i_sb y1 20), .inr (.inr (11, 24))], 119, pm_RF, M)) rfl ?_
      refine R_callV ho mv_Told_isPlinth lk_0_139 rfl (As := [.inl (i_sb y1 20)]) (kd := 11) (a := 24) (st := []) rfl rfl (Nat.le_of_ble_eq_true rfl) rfl (by decide) (Nat.le_of_ble_eq_true rfl) (ok_Told_isPlinth G (i_sb y1 20) M ) (fun r730 => ?_)
      show pm_R _ _ _ (79, [(2, .inl (i_sb y1 20)), (0, .inr (.inr (0, 0))), (1, .inl y1)], [.inl r730], 119, pm_RF, M) _ _
      refine R_if ho rfl (tgt := 105) rfl ?_
      refine R_eq ?_ ?_
      · refine R_st ho 1 (q' := (107, [(2, .inl (i_sb y1 20)), (0, .inr (.inr (0, 0))), (1, .inl y1)], [.inl (-2)], 119, pm_RF, M)) rfl ?_
        exact R_end (v := some (.inl (-2))) rfl (Or.inl rfl) rfl rfl
      · refine R_st ho 3 (q' := (87, [(2, .inl (i_sb y1 20)), (0, .inr (.inr (0, 0))), (1, .inl y1)], [.inl (i_sb y1 20), .inr (.inr (11, 24))], 119, pm_RF, M)) rfl ?_
        refine R_callV ho mv_Told_shadeOf lk_0_331 rfl (As := [.inl (i_sb y1 20)]) (kd := 11) (a := 24) (st := []) rfl rfl (Nat.le_of_ble_eq_true rfl) rfl (by decide) (Nat.le_of_ble_eq_true rfl) (ok_Told_shadeOf G (i_sb y1 20) M ) (fun r731 => ?_)
        show pm_R _ _ _ (90, [(2, .inl (i_sb y1 20)), (0, .inr (.inr (0, 0))), (1, .inl y1)], [.inl r731], 119, pm_RF, M) _ _
        refine R_st ho 5 (q' := (98, [(2, .inl (i_sb y1 20)), (0, .inr (.inr (0, 0))), (1, .inl y1)], [.inl (i_sb y1 20), .inr (.inr (11, 24)), .inl (i_ml r731 10)], 119, pm_RF, M)) rfl ?_
        refine R_callV ho mv_Told_viewOf lk_0_334 rfl (As := [.inl (i_sb y1 20)]) (kd := 11) (a := 24) (st := [.inl (i_ml r731 10)]) rfl rfl (Nat.le_of_ble_eq_true rfl) rfl (by decide) (Nat.le_of_ble_eq_true rfl) (ok_Told_viewOf G (i_sb y1 20) M ) (fun r732 => ?_)
        show pm_R _ _ _ (101, [(2, .inl (i_sb y1 20)), (0, .inr (.inr (0, 0))), (1, .inl y1)], [.inl r732, .inl (i_ml r731 10)], 119, pm_RF, M) _ _
        refine R_st ho 2 (q' := (107, [(2, .inl (i_sb y1 20)), (0, .inr (.inr (0, 0))), (1, .inl y1)], [.inl (i_ad (i_ml r731 10) r732)], 119, pm_RF, M)) rfl ?_
        exact R_end (v := some (.inl (i_ad (i_ml r731 10) r732))) rfl (Or.inl rfl) rfl rfl
theorem ok_X_about (G : pm_G) (x1 : Int) (M : pm_M)  : pm_R G mt_X_about 2 (0, [(0, .inr (.inr (0, 0))), (1, .inl x1)], [], 119, pm_RF, M) (f_X_about x1 M) (pm_Zr mt_X_about (pm_gi M)) := by
  have ho : pm_oG G mt_X_about := (oa_X_about).g G
  unfold f_X_about
  refine R_st ho 2 (q' := (3, [(0, .inr (.inr (0, 0))), (1, .inl x1)], [.inl 10, .inl x1], 119, pm_RF, M)) rfl ?_
  refine R_ic ho rfl (tgt := 54) rfl ?_
  refine R_lt ?_ ?_
  · exact ok_X_about_J54 G x1 M
  · refine R_st ho 2 (q' := (9, [(0, .inr (.inr (0, 0))), (1, .inl x1)], [.inl 20, .inl x1], 119, pm_RF, M)) rfl ?_
    refine R_ic ho rfl (tgt := 54) rfl ?_
    refine R_ge ?_ ?_
    · exact ok_X_about_J54 G x1 M
    · refine R_st ho 7 (q' := (22, [(2, .inl (i_sb x1 10)), (0, .inr (.inr (0, 0))), (1, .inl x1)], [.inl (i_sb x1 10), .inr (.inr (11, 24))], 119, pm_RF, M)) rfl ?_
      refine R_callV ho mv_Told_isPlinth lk_0_139 rfl (As := [.inl (i_sb x1 10)]) (kd := 11) (a := 24) (st := []) rfl rfl (Nat.le_of_ble_eq_true rfl) rfl (by decide) (Nat.le_of_ble_eq_true rfl) (ok_Told_isPlinth G (i_sb x1 10) M ) (fun r733 => ?_)
      show pm_R _ _ _ (25, [(2, .inl (i_sb x1 10)), (0, .inr (.inr (0, 0))), (1, .inl x1)], [.inl r733], 119, pm_RF, M) _ _
      refine R_if ho rfl (tgt := 51) rfl ?_
      refine R_eq ?_ ?_
      · refine R_st ho 1 (q' := (53, [(2, .inl (i_sb x1 10)), (0, .inr (.inr (0, 0))), (1, .inl x1)], [.inl (-2)], 119, pm_RF, M)) rfl ?_
        exact R_end (v := some (.inl (-2))) rfl (Or.inl rfl) rfl rfl
      · refine R_st ho 3 (q' := (33, [(2, .inl (i_sb x1 10)), (0, .inr (.inr (0, 0))), (1, .inl x1)], [.inl (i_sb x1 10), .inr (.inr (11, 24))], 119, pm_RF, M)) rfl ?_
        refine R_callV ho mv_Told_xOf lk_0_325 rfl (As := [.inl (i_sb x1 10)]) (kd := 11) (a := 24) (st := []) rfl rfl (Nat.le_of_ble_eq_true rfl) rfl (by decide) (Nat.le_of_ble_eq_true rfl) (ok_Told_xOf G (i_sb x1 10) M ) (fun r734 => ?_)
        show pm_R _ _ _ (36, [(2, .inl (i_sb x1 10)), (0, .inr (.inr (0, 0))), (1, .inl x1)], [.inl r734], 119, pm_RF, M) _ _
        refine R_st ho 5 (q' := (44, [(2, .inl (i_sb x1 10)), (0, .inr (.inr (0, 0))), (1, .inl x1)], [.inl (i_sb x1 10), .inr (.inr (11, 24)), .inl (i_ml r734 100)], 119, pm_RF, M)) rfl ?_
        refine R_callV ho mv_Told_yOf lk_0_328 rfl (As := [.inl (i_sb x1 10)]) (kd := 11) (a := 24) (st := [.inl (i_ml r734 100)]) rfl rfl (Nat.le_of_ble_eq_true rfl) rfl (by decide) (Nat.le_of_ble_eq_true rfl) (ok_Told_yOf G (i_sb x1 10) M ) (fun r735 => ?_)
        show pm_R _ _ _ (47, [(2, .inl (i_sb x1 10)), (0, .inr (.inr (0, 0))), (1, .inl x1)], [.inl r735, .inl (i_ml r734 100)], 119, pm_RF, M) _ _
        refine R_st ho 2 (q' := (53, [(2, .inl (i_sb x1 10)), (0, .inr (.inr (0, 0))), (1, .inl x1)], [.inl (i_ad (i_ml r734 100) r735)], 119, pm_RF, M)) rfl ?_
        exact R_end (v := some (.inl (i_ad (i_ml r734 100) r735))) rfl (Or.inl rfl) rfl rfl
