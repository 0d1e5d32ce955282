/-! THE LAW: its loop follows a function of the pure memory; printed by my own program -/
theorem lk_13_13 : pm_lk 13 13 mt_X_plinth := pm_wat_of (i := 484) (by decide +kernel)
theorem lk_13_17 : pm_lk 13 17 mt_Q_plinth := pm_wat_of (i := 1470) (by decide +kernel)
theorem lk_13_18 : pm_lk 13 18 mt_X_head := pm_wat_of (i := 503) (by decide +kernel)
theorem lk_13_22 : pm_lk 13 22 mt_Q_head := pm_wat_of (i := 1477) (by decide +kernel)
theorem lk_13_23 : pm_lk 13 23 mt_X_put := pm_wat_of (i := 511) (by decide +kernel)
theorem lk_13_27 : pm_lk 13 27 mt_Q_put := pm_wat_of (i := 1485) (by decide +kernel)
theorem lk_13_28 : pm_lk 13 28 mt_X_off := pm_wat_of (i := 550) (by decide +kernel)
theorem lk_13_32 : pm_lk 13 32 mt_Q_off := pm_wat_of (i := 1509) (by decide +kernel)
theorem lk_13_33 : pm_lk 13 33 mt_X_change := pm_wat_of (i := 558) (by decide +kernel)
theorem lk_13_36 : pm_lk 13 36 mt_Q_change := pm_wat_of (i := 1513) (by decide +kernel)
theorem lk_13_37 : pm_lk 13 37 mt_X_carve := pm_wat_of (i := 570) (by decide +kernel)
theorem lk_13_40 : pm_lk 13 40 mt_Q_carve := pm_wat_of (i := 1525) (by decide +kernel)
theorem lk_13_41 : pm_lk 13 41 mt_X_pay := pm_wat_of (i := 585) (by decide +kernel)
theorem lk_13_44 : pm_lk 13 44 mt_Q_pay := pm_wat_of (i := 1529) (by decide +kernel)
theorem lk_13_45 : pm_lk 13 45 mt_X_pass := pm_wat_of (i := 605) (by decide +kernel)
theorem lk_13_48 : pm_lk 13 48 mt_Q_pass := pm_wat_of (i := 1675) (by decide +kernel)
theorem lk_13_49 : pm_lk 13 49 mt_X_feed := pm_wat_of (i := 700) (by decide +kernel)
theorem lk_13_53 : pm_lk 13 53 mt_Q_feed := pm_wat_of (i := 1533) (by decide +kernel)
theorem lk_13_54 : pm_lk 13 54 mt_X_end := pm_wat_of (i := 716) (by decide +kernel)
theorem lk_13_57 : pm_lk 13 57 mt_Q_end := pm_wat_of (i := 1541) (by decide +kernel)
theorem lk_13_58 : pm_lk 13 58 mt_X_text := pm_wat_of (i := 724) (by decide +kernel)
theorem lk_13_62 : pm_lk 13 62 mt_Q_text := pm_wat_of (i := 1545) (by decide +kernel)
theorem lk_13_63 : pm_lk 13 63 mt_X_fault := pm_wat_of (i := 954) (by decide +kernel)
theorem lk_13_66 : pm_lk 13 66 mt_Q_fault := pm_wat_of (i := 1667) (by decide +kernel)
theorem lk_13_67 : pm_lk 13 67 mt_X_by := pm_wat_of (i := 966) (by decide +kernel)
theorem lk_13_71 : pm_lk 13 71 mt_Q_by := pm_wat_of (i := 1671) (by decide +kernel)
theorem lk_13_72 : pm_lk 13 72 mt_X_played := pm_wat_of (i := 975) (by decide +kernel)
theorem lk_13_75 : pm_lk 13 75 mt_Q_played := pm_wat_of (i := 1720) (by decide +kernel)
theorem lk_13_76 : pm_lk 13 76 mt_X_undo := pm_wat_of (i := 993) (by decide +kernel)
theorem lk_13_79 : pm_lk 13 79 mt_Q_undo := pm_wat_of (i := 1481) (by decide +kernel)
theorem lk_13_80 : pm_lk 13 80 mt_X_of := pm_wat_of (i := 1009) (by decide +kernel)
theorem lk_13_83 : pm_lk 13 83 mt_Q_of := pm_wat_of (i := 1728) (by decide +kernel)
theorem lk_13_84 : pm_lk 13 84 mt_X_headOf := pm_wat_of (i := 1013) (by decide +kernel)
theorem lk_13_87 : pm_lk 13 87 mt_Q_headOf := pm_wat_of (i := 1732) (by decide +kernel)
theorem lk_13_88 : pm_lk 13 88 mt_X_best := pm_wat_of (i := 1023) (by decide +kernel)
theorem lk_13_91 : pm_lk 13 91 mt_Q_best := pm_wat_of (i := 1736) (by decide +kernel)
theorem lk_13_92 : pm_lk 13 92 mt_X_seen := pm_wat_of (i := 1074) (by decide +kernel)
theorem lk_13_96 : pm_lk 13 96 mt_Q_seen := pm_wat_of (i := 1745) (by decide +kernel)
theorem lk_13_97 : pm_lk 13 97 mt_X_forget := pm_wat_of (i := 1083) (by decide +kernel)
theorem lk_13_100 : pm_lk 13 100 mt_Q_forget := pm_wat_of (i := 1749) (by decide +kernel)
theorem lk_13_101 : pm_lk 13 101 mt_X_fewest := pm_wat_of (i := 1091) (by decide +kernel)
theorem lk_13_104 : pm_lk 13 104 mt_Q_fewest := pm_wat_of (i := 1753) (by decide +kernel)
theorem lk_13_105 : pm_lk 13 105 mt_X_who := pm_wat_of (i := 1155) (by decide +kernel)
theorem lk_13_108 : pm_lk 13 108 mt_Q_who := pm_wat_of (i := 1784) (by decide +kernel)
theorem lk_13_109 : pm_lk 13 109 mt_X_stood := pm_wat_of (i := 1163) (by decide +kernel)
theorem lk_13_112 : pm_lk 13 112 mt_Q_stood := pm_wat_of (i := 1792) (by decide +kernel)
theorem lk_13_113 : pm_lk 13 113 mt_X_longest := pm_wat_of (i := 1171) (by decide +kernel)
theorem lk_13_116 : pm_lk 13 116 mt_Q_longest := pm_wat_of (i := 1796) (by decide +kernel)
theorem lk_13_117 : pm_lk 13 117 mt_X_tour := pm_wat_of (i := 1176) (by decide +kernel)
theorem lk_13_120 : pm_lk 13 120 mt_Q_tour := pm_wat_of (i := 1800) (by decide +kernel)
theorem lk_13_121 : pm_lk 13 121 mt_X_rounds := pm_wat_of (i := 1208) (by decide +kernel)
theorem lk_13_124 : pm_lk 13 124 mt_Q_rounds := pm_wat_of (i := 1820) (by decide +kernel)
theorem lk_13_125 : pm_lk 13 125 mt_X_revolution := pm_wat_of (i := 1238) (by decide +kernel)
theorem lk_13_128 : pm_lk 13 128 mt_Q_revolution := pm_wat_of (i := 1828) (by decide +kernel)
theorem lk_13_129 : pm_lk 13 129 mt_X_image := pm_wat_of (i := 1250) (by decide +kernel)
theorem lk_13_132 : pm_lk 13 132 mt_Q_image := pm_wat_of (i := 1836) (by decide +kernel)
theorem lk_13_133 : pm_lk 13 133 mt_X_back := pm_wat_of (i := 1268) (by decide +kernel)
theorem lk_13_136 : pm_lk 13 136 mt_Q_back := pm_wat_of (i := 1840) (by decide +kernel)
theorem lk_13_137 : pm_lk 13 137 mt_X_about := pm_wat_of (i := 1272) (by decide +kernel)
theorem lk_13_140 : pm_lk 13 140 mt_Q_about := pm_wat_of (i := 1844) (by decide +kernel)
theorem lk_13_9 : pm_lk 13 9 mt_X_init := pm_wat_of (i := 114) (by decide +kernel)
theorem lk_13_12 : pm_lk 13 12 mt_Q_init := pm_wat_of (i := 1294) (by decide +kernel)
set_option maxHeartbeats 4000000 in
theorem ok_L_law_L18 (G : pm_G) (G : pm_G) (ho : pm_oG G mt_L_law)  : ∀ (n_ : Nat) (y3 : Int) (M : pm_M), pm_R G mt_L_law 120 (18, [(0, .inr (.inr (30, 0))), (1, .inr (.inr (0, 0))), (2, .inr (.inr (1, 87))), (3, .inl y3)], [], 119, pm_RF, M) (f_L_law_L18 G n_ y3 M) (fun e_ q_ => q_ = (1024, [], [], 119, pm_RF, e_)) := by
  intro n_
  induction n_ with
  | zero => intro _ _; exact R_none
  | succ n_ ih_ =>
    intro y3 M
    rw [f_L_law_L18]
    refine R_st ho 5 (q' := (24, [(0, .inr (.inr (30, 0))), (1, .inr (.inr (0, 0))), (2, .inr (.inr (1, 87))), (3, .inl y3)], [.inl (i_sb (g_L G : Int) 6), .inl y3], 119, pm_RF, M)) rfl ?_
    refine R_ic ho rfl (tgt := 1024) rfl ?_
    refine R_gt ?_ ?_
    · refine R_pk [] rfl ?_
      exact R_ret rfl
    · refine R_st ho 2 (q' := (29, [(0, .inr (.inr (30, 0))), (1, .inr (.inr (0, 0))), (2, .inr (.inr (1, 87))), (3, .inl y3)], [.inl y3, .inr (.inr (30, 0))], 119, pm_RF, M)) rfl ?_
      refine R_sald ho rfl rfl ?_
      refine R_st ho 2 (q' := (33, [(0, .inr (.inr (30, 0))), (1, .inr (.inr (0, 0))), (2, .inr (.inr (1, 87))), (3, .inl y3)], [.inl (i_an (g_sx G (y3).toNat) 31)], 119, pm_RF, M)) rfl ?_
      refine R_cs (fun z_ => (33, [(0, .inr (.inr (30, 0))), (1, .inr (.inr (0, 0))), (2, .inr (.inr (1, 87))), (3, .inl y3)], [.inl z_], 119, pm_RF, M)) ?_ (fun h1430 => ?_)
      · refine R_swk ho rfl (by decide) rfl (tgt := 168) rfl (by decide +kernel) ?_
        refine R_st ho 5 (q' := (173, [(0, .inr (.inr (30, 0))), (1, .inr (.inr (0, 0))), (2, .inr (.inr (1, 87))), (3, .inl y3)], [.inl (i_ad y3 1), .inr (.inr (30, 0)), .inr (.inr (0, 0))], 119, pm_RF, M)) rfl ?_
        refine R_sald ho rfl rfl ?_
        refine R_st ho 4 (q' := (178, [(0, .inr (.inr (30, 0))), (1, .inr (.inr (0, 0))), (2, .inr (.inr (1, 87))), (3, .inl y3)], [.inl (i_ad y3 2), .inr (.inr (30, 0)), .inl (g_sx G ((i_ad y3 1)).toNat), .inr (.inr (0, 0))], 119, pm_RF, M)) rfl ?_
        refine R_sald ho rfl rfl ?_
        refine R_st ho 4 (q' := (183, [(0, .inr (.inr (30, 0))), (1, .inr (.inr (0, 0))), (2, .inr (.inr (1, 87))), (3, .inl y3)], [.inl (i_ad y3 3), .inr (.inr (30, 0)), .inl (g_sx G ((i_ad y3 2)).toNat), .inl (g_sx G ((i_ad y3 1)).toNat), .inr (.inr (0, 0))], 119, pm_RF, M)) rfl ?_
        refine R_sald ho rfl rfl ?_
        refine R_st ho 4 (q' := (188, [(0, .inr (.inr (30, 0))), (1, .inr (.inr (0, 0))), (2, .inr (.inr (1, 87))), (3, .inl y3)], [.inl (i_ad y3 4), .inr (.inr (30, 0)), .inl (g_sx G ((i_ad y3 3)).toNat), .inl (g_sx G ((i_ad y3 2)).toNat), .inl (g_sx G ((i_ad y3 1)).toNat), .inr (.inr (0, 0))], 119, pm_RF, M)) rfl ?_
        refine R_sald ho rfl rfl ?_
        refine R_callV ho mv_X_plinth lk_13_13 rfl (As := [.inl (g_sx G ((i_ad y3 1)).toNat), .inl (g_sx G ((i_ad y3 2)).toNat), .inl (g_sx G ((i_ad y3 3)).toNat), .inl (g_sx G ((i_ad y3 4)).toNat)]) (kd := 0) (a := 0) (st := []) rfl rfl (Nat.le_of_ble_eq_true rfl) rfl (by decide) (Nat.le_of_ble_eq_true rfl) (ok_X_plinth G (g_sx G ((i_ad y3 1)).toNat) (g_sx G ((i_ad y3 2)).toNat) (g_sx G ((i_ad y3 3)).toNat) (g_sx G ((i_ad y3 4)).toNat) M ) (fun r1370 => ?_)
        show pm_R _ _ _ (192, [(0, .inr (.inr (30, 0))), (1, .inr (.inr (0, 0))), (2, .inr (.inr (1, 87))), (3, .inl y3)], [.inl r1370.1], 119, pm_RF, r1370.2) _ _
        refine R_st ho 5 (q' := (197, [(0, .inr (.inr (30, 0))), (1, .inr (.inr (0, 0))), (2, .inr (.inr (1, 87))), (3, .inl y3)], [.inl (i_ad y3 1), .inr (.inr (30, 0)), .inr (.inr (1, 87)), .inl r1370.1], 119, pm_RF, r1370.2)) rfl ?_
        refine R_sald ho rfl rfl ?_
        refine R_st ho 4 (q' := (202, [(0, .inr (.inr (30, 0))), (1, .inr (.inr (0, 0))), (2, .inr (.inr (1, 87))), (3, .inl y3)], [.inl (i_ad y3 2), .inr (.inr (30, 0)), .inl (g_sx G ((i_ad y3 1)).toNat), .inr (.inr (1, 87)), .inl r1370.1], 119, pm_RF, r1370.2)) rfl ?_
        refine R_sald ho rfl rfl ?_
        refine R_st ho 4 (q' := (207, [(0, .inr (.inr (30, 0))), (1, .inr (.inr (0, 0))), (2, .inr (.inr (1, 87))), (3, .inl y3)], [.inl (i_ad y3 3), .inr (.inr (30, 0)), .inl (g_sx G ((i_ad y3 2)).toNat), .inl (g_sx G ((i_ad y3 1)).toNat), .inr (.inr (1, 87)), .inl r1370.1], 119, pm_RF, r1370.2)) rfl ?_
        refine R_sald ho rfl rfl ?_
        refine R_st ho 4 (q' := (212, [(0, .inr (.inr (30, 0))), (1, .inr (.inr (0, 0))), (2, .inr (.inr (1, 87))), (3, .inl y3)], [.inl (i_ad y3 4), .inr (.inr (30, 0)), .inl (g_sx G ((i_ad y3 3)).toNat), .inl (g_sx G ((i_ad y3 2)).toNat), .inl (g_sx G ((i_ad y3 1)).toNat), .inr (.inr (1, 87)), .inl r1370.1], 119, pm_RF, r1370.2)) rfl ?_
        refine R_sald ho rfl rfl ?_
        refine R_callV ho mv_Q_plinth lk_13_17 rfl (As := [.inl (g_sx G ((i_ad y3 1)).toNat), .inl (g_sx G ((i_ad y3 2)).toNat), .inl (g_sx G ((i_ad y3 3)).toNat), .inl (g_sx G ((i_ad y3 4)).toNat)]) (kd := 1) (a := 87) (st := [.inl r1370.1]) rfl rfl (Nat.le_of_ble_eq_true rfl) rfl (by decide) (Nat.le_of_ble_eq_true rfl) (ok_Q_plinth G (g_sx G ((i_ad y3 1)).toNat) (g_sx G ((i_ad y3 2)).toNat) (g_sx G ((i_ad y3 3)).toNat) (g_sx G ((i_ad y3 4)).toNat) r1370.2 ) (fun r1371 => ?_)
        show pm_R _ _ _ (216, [(0, .inr (.inr (30, 0))), (1, .inr (.inr (0, 0))), (2, .inr (.inr (1, 87))), (3, .inl y3)], [.inl r1371.1, .inl r1370.1], 119, pm_RF, r1371.2) _ _
        refine R_ic ho rfl (tgt := 1018) rfl ?_
        refine R_eq ?_ ?_
        · refine R_st ho 2 (q' := (18, [(3, .inl (i_ad y3 6)), (0, .inr (.inr (30, 0))), (1, .inr (.inr (0, 0))), (2, .inr (.inr (1, 87)))], [], 119, pm_RF, r1371.2)) rfl ?_
          refine R_pk [0, 1, 2, 3] rfl ?_
          exact ih_ (i_ad y3 6) r1371.2
        · exact R_none
      refine R_cs (fun z_ => (33, [(0, .inr (.inr (30, 0))), (1, .inr (.inr (0, 0))), (2, .inr (.inr (1, 87))), (3, .inl y3)], [.inl z_], 119, pm_RF, M)) ?_ (fun h1431 => ?_)
      · refine R_swk ho rfl (by decide) rfl (tgt := 221) rfl (by decide +kernel) ?_
        refine R_st ho 5 (q' := (226, [(0, .inr (.inr (30, 0))), (1, .inr (.inr (0, 0))), (2, .inr (.inr (1, 87))), (3, .inl y3)], [.inl (i_ad y3 1), .inr (.inr (30, 0)), .inr (.inr (0, 0))], 119, pm_RF, M)) rfl ?_
        refine R_sald ho rfl rfl ?_
        refine R_st ho 4 (q' := (231, [(0, .inr (.inr (30, 0))), (1, .inr (.inr (0, 0))), (2, .inr (.inr (1, 87))), (3, .inl y3)], [.inl (i_ad y3 2), .inr (.inr (30, 0)), .inl (g_sx G ((i_ad y3 1)).toNat), .inr (.inr (0, 0))], 119, pm_RF, M)) rfl ?_
        refine R_sald ho rfl rfl ?_
        refine R_callV ho mv_X_head lk_13_18 rfl (As := [.inl (g_sx G ((i_ad y3 1)).toNat), .inl (g_sx G ((i_ad y3 2)).toNat)]) (kd := 0) (a := 0) (st := []) rfl rfl (Nat.le_of_ble_eq_true rfl) rfl (by decide) (Nat.le_of_ble_eq_true rfl) (ok_X_head G (g_sx G ((i_ad y3 1)).toNat) (g_sx G ((i_ad y3 2)).toNat) M ) (fun r1372 => ?_)
        show pm_R _ _ _ (235, [(0, .inr (.inr (30, 0))), (1, .inr (.inr (0, 0))), (2, .inr (.inr (1, 87))), (3, .inl y3)], [.inl r1372.1], 119, pm_RF, r1372.2) _ _
        refine R_st ho 5 (q' := (240, [(0, .inr (.inr (30, 0))), (1, .inr (.inr (0, 0))), (2, .inr (.inr (1, 87))), (3, .inl y3)], [.inl (i_ad y3 1), .inr (.inr (30, 0)), .inr (.inr (1, 87)), .inl r1372.1], 119, pm_RF, r1372.2)) rfl ?_
        refine R_sald ho rfl rfl ?_
        refine R_st ho 4 (q' := (245, [(0, .inr (.inr (30, 0))), (1, .inr (.inr (0, 0))), (2, .inr (.inr (1, 87))), (3, .inl y3)], [.inl (i_ad y3 2), .inr (.inr (30, 0)), .inl (g_sx G ((i_ad y3 1)).toNat), .inr (.inr (1, 87)), .inl r1372.1], 119, pm_RF, r1372.2)) rfl ?_
        refine R_sald ho rfl rfl ?_
        refine R_callV ho mv_Q_head lk_13_22 rfl (As := [.inl (g_sx G ((i_ad y3 1)).toNat), .inl (g_sx G ((i_ad y3 2)).toNat)]) (kd := 1) (a := 87) (st := [.inl r1372.1]) rfl rfl (Nat.le_of_ble_eq_true rfl) rfl (by decide) (Nat.le_of_ble_eq_true rfl) (ok_Q_head G (g_sx G ((i_ad y3 1)).toNat) (g_sx G ((i_ad y3 2)).toNat) r1372.2 ) (fun r1373 => ?_)
        show pm_R _ _ _ (249, [(0, .inr (.inr (30, 0))), (1, .inr (.inr (0, 0))), (2, .inr (.inr (1, 87))), (3, .inl y3)], [.inl r1373.1, .inl r1372.1], 119, pm_RF, r1373.2) _ _
        refine R_ic ho rfl (tgt := 1018) rfl ?_
        refine R_eq ?_ ?_
        · refine R_st ho 2 (q' := (18, [(3, .inl (i_ad y3 6)), (0, .inr (.inr (30, 0))), (1, .inr (.inr (0, 0))), (2, .inr (.inr (1, 87)))], [], 119, pm_RF, r1373.2)) rfl ?_
          refine R_pk [0, 1, 2, 3] rfl ?_
          exact ih_ (i_ad y3 6) r1373.2
        · exact R_none
      refine R_cs (fun z_ => (33, [(0, .inr (.inr (30, 0))), (1, .inr (.inr (0, 0))), (2, .inr (.inr (1, 87))), (3, .inl y3)], [.inl z_], 119, pm_RF, M)) ?_ (fun h1432 => ?_)
      · refine R_swk ho rfl (by decide) rfl (tgt := 254) rfl (by decide +kernel) ?_
        refine R_st ho 5 (q' := (259, [(0, .inr (.inr (30, 0))), (1, .inr (.inr (0, 0))), (2, .inr (.inr (1, 87))), (3, .inl y3)], [.inl (i_ad y3 1), .inr (.inr (30, 0)), .inr (.inr (0, 0))], 119, pm_RF, M)) rfl ?_
        refine R_sald ho rfl rfl ?_
        refine R_st ho 4 (q' := (264, [(0, .inr (.inr (30, 0))), (1, .inr (.inr (0, 0))), (2, .inr (.inr (1, 87))), (3, .inl y3)], [.inl (i_ad y3 2), .inr (.inr (30, 0)), .inl (g_sx G ((i_ad y3 1)).toNat), .inr (.inr (0, 0))], 119, pm_RF, M)) rfl ?_
        refine R_sald ho rfl rfl ?_
        refine R_callV ho mv_X_put lk_13_23 rfl (As := [.inl (g_sx G ((i_ad y3 1)).toNat), .inl (g_sx G ((i_ad y3 2)).toNat)]) (kd := 0) (a := 0) (st := []) rfl rfl (Nat.le_of_ble_eq_true rfl) rfl (by decide) (Nat.le_of_ble_eq_true rfl) (ok_X_put G (g_sx G ((i_ad y3 1)).toNat) (g_sx G ((i_ad y3 2)).toNat) M ) (fun r1374 => ?_)
        show pm_R _ _ _ (268, [(0, .inr (.inr (30, 0))), (1, .inr (.inr (0, 0))), (2, .inr (.inr (1, 87))), (3, .inl y3)], [.inl r1374.1], 119, pm_RF, r1374.2) _ _
        refine R_st ho 5 (q' := (273, [(0, .inr (.inr (30, 0))), (1, .inr (.inr (0, 0))), (2, .inr (.inr (1, 87))), (3, .inl y3)], [.inl (i_ad y3 1), .inr (.inr (30, 0)), .inr (.inr (1, 87)), .inl r1374.1], 119, pm_RF, r1374.2)) rfl ?_
        refine R_sald ho rfl rfl ?_
        refine R_st ho 4 (q' := (278, [(0, .inr (.inr (30, 0))), (1, .inr (.inr (0, 0))), (2, .inr (.inr (1, 87))), (3, .inl y3)], [.inl (i_ad y3 2), .inr (.inr (30, 0)), .inl (g_sx G ((i_ad y3 1)).toNat), .inr (.inr (1, 87)), .inl r1374.1], 119, pm_RF, r1374.2)) rfl ?_
        refine R_sald ho rfl rfl ?_
        refine R_callV ho mv_Q_put lk_13_27 rfl (As := [.inl (g_sx G ((i_ad y3 1)).toNat), .inl (g_sx G ((i_ad y3 2)).toNat)]) (kd := 1) (a := 87) (st := [.inl r1374.1]) rfl rfl (Nat.le_of_ble_eq_true rfl) rfl (by decide) (Nat.le_of_ble_eq_true rfl) (ok_Q_put G (g_sx G ((i_ad y3 1)).toNat) (g_sx G ((i_ad y3 2)).toNat) r1374.2 ) (fun r1375 => ?_)
        show pm_R _ _ _ (282, [(0, .inr (.inr (30, 0))), (1, .inr (.inr (0, 0))), (2, .inr (.inr (1, 87))), (3, .inl y3)], [.inl r1375.1, .inl r1374.1], 119, pm_RF, r1375.2) _ _
        refine R_ic ho rfl (tgt := 1018) rfl ?_
        refine R_eq ?_ ?_
        · refine R_st ho 2 (q' := (18, [(3, .inl (i_ad y3 6)), (0, .inr (.inr (30, 0))), (1, .inr (.inr (0, 0))), (2, .inr (.inr (1, 87)))], [], 119, pm_RF, r1375.2)) rfl ?_
          refine R_pk [0, 1, 2, 3] rfl ?_
          exact ih_ (i_ad y3 6) r1375.2
        · exact R_none
      refine R_cs (fun z_ => (33, [(0, .inr (.inr (30, 0))), (1, .inr (.inr (0, 0))), (2, .inr (.inr (1, 87))), (3, .inl y3)], [.inl z_], 119, pm_RF, M)) ?_ (fun h1433 => ?_)
      · refine R_swk ho rfl (by decide) rfl (tgt := 287) rfl (by decide +kernel) ?_
        refine R_st ho 5 (q' := (292, [(0, .inr (.inr (30, 0))), (1, .inr (.inr (0, 0))), (2, .inr (.inr (1, 87))), (3, .inl y3)], [.inl (i_ad y3 1), .inr (.inr (30, 0)), .inr (.inr (0, 0))], 119, pm_RF, M)) rfl ?_
        refine R_sald ho rfl rfl ?_
        refine R_callV ho mv_X_off lk_13_28 rfl (As := [.inl (g_sx G ((i_ad y3 1)).toNat)]) (kd := 0) (a := 0) (st := []) rfl rfl (Nat.le_of_ble_eq_true rfl) rfl (by decide) (Nat.le_of_ble_eq_true rfl) (ok_X_off G (g_sx G ((i_ad y3 1)).toNat) M ) (fun r1376 => ?_)
        show pm_R _ _ _ (296, [(0, .inr (.inr (30, 0))), (1, .inr (.inr (0, 0))), (2, .inr (.inr (1, 87))), (3, .inl y3)], [.inl r1376.1], 119, pm_RF, r1376.2) _ _
        refine R_st ho 5 (q' := (301, [(0, .inr (.inr (30, 0))), (1, .inr (.inr (0, 0))), (2, .inr (.inr (1, 87))), (3, .inl y3)], [.inl (i_ad y3 1), .inr (.inr (30, 0)), .inr (.inr (1, 87)), .inl r1376.1], 119, pm_RF, r1376.2)) rfl ?_
        refine R_sald ho rfl rfl ?_
        refine R_callV ho mv_Q_off lk_13_32 rfl (As := [.inl (g_sx G ((i_ad y3 1)).toNat)]) (kd := 1) (a := 87) (st := [.inl r1376.1]) rfl rfl (Nat.le_of_ble_eq_true rfl) rfl (by decide) (Nat.le_of_ble_eq_true rfl) (ok_Q_off G (g_sx G ((i_ad y3 1)).toNat) r1376.2 ) (fun r1377 => ?_)
        show pm_R _ _ _ (305, [(0, .inr (.inr (30, 0))), (1, .inr (.inr (0, 0))), (2, .inr (.inr (1, 87))), (3, .inl y3)], [.inl r1377.1, .inl r1376.1], 119, pm_RF, r1377.2) _ _
        refine R_ic ho rfl (tgt := 1018) rfl ?_
        refine R_eq ?_ ?_
        · refine R_st ho 2 (q' := (18, [(3, .inl (i_ad y3 6)), (0, .inr (.inr (30, 0))), (1, .inr (.inr (0, 0))), (2, .inr (.inr (1, 87)))], [], 119, pm_RF, r1377.2)) rfl ?_
          refine R_pk [0, 1, 2, 3] rfl ?_
          exact ih_ (i_ad y3 6) r1377.2
        · exact R_none
      refine R_cs (fun z_ => (33, [(0, .inr (.inr (30, 0))), (1, .inr (.inr (0, 0))), (2, .inr (.inr (1, 87))), (3, .inl y3)], [.inl z_], 119, pm_RF, M)) ?_ (fun h1434 => ?_)
      · refine R_swk ho rfl (by decide) rfl (tgt := 310) rfl (by decide +kernel) ?_
        refine R_st ho 5 (q' := (315, [(0, .inr (.inr (30, 0))), (1, .inr (.inr (0, 0))), (2, .inr (.inr (1, 87))), (3, .inl y3)], [.inl (i_ad y3 1), .inr (.inr (30, 0)), .inr (.inr (0, 0))], 119, pm_RF, M)) rfl ?_
        refine R_sald ho rfl rfl ?_
        refine R_st ho 4 (q' := (320, [(0, .inr (.inr (30, 0))), (1, .inr (.inr (0, 0))), (2, .inr (.inr (1, 87))), (3, .inl y3)], [.inl (i_ad y3 2), .inr (.inr (30, 0)), .inl (g_sx G ((i_ad y3 1)).toNat), .inr (.inr (0, 0))], 119, pm_RF, M)) rfl ?_
        refine R_sald ho rfl rfl ?_
        refine R_callV ho mv_X_change lk_13_33 rfl (As := [.inl (g_sx G ((i_ad y3 1)).toNat), .inl (g_sx G ((i_ad y3 2)).toNat)]) (kd := 0) (a := 0) (st := []) rfl rfl (Nat.le_of_ble_eq_true rfl) rfl (by decide) (Nat.le_of_ble_eq_true rfl) (ok_X_change G (g_sx G ((i_ad y3 1)).toNat) (g_sx G ((i_ad y3 2)).toNat) M ) (fun r1378 => ?_)
        show pm_R _ _ _ (324, [(0, .inr (.inr (30, 0))), (1, .inr (.inr (0, 0))), (2, .inr (.inr (1, 87))), (3, .inl y3)], [.inl r1378.1], 119, pm_RF, r1378.2) _ _
        refine R_st ho 5 (q' := (329, [(0, .inr (.inr (30, 0))), (1, .inr (.inr (0, 0))), (2, .inr (.inr (1, 87))), (3, .inl y3)], [.inl (i_ad y3 1), .inr (.inr (30, 0)), .inr (.inr (1, 87)), .inl r1378.1], 119, pm_RF, r1378.2)) rfl ?_
        refine R_sald ho rfl rfl ?_
        refine R_st ho 4 (q' := (334, [(0, .inr (.inr (30, 0))), (1, .inr (.inr (0, 0))), (2, .inr (.inr (1, 87))), (3, .inl y3)], [.inl (i_ad y3 2), .inr (.inr (30, 0)), .inl (g_sx G ((i_ad y3 1)).toNat), .inr (.inr (1, 87)), .inl r1378.1], 119, pm_RF, r1378.2)) rfl ?_
        refine R_sald ho rfl rfl ?_
        refine R_callV ho mv_Q_change lk_13_36 rfl (As := [.inl (g_sx G ((i_ad y3 1)).toNat), .inl (g_sx G ((i_ad y3 2)).toNat)]) (kd := 1) (a := 87) (st := [.inl r1378.1]) rfl rfl (Nat.le_of_ble_eq_true rfl) rfl (by decide) (Nat.le_of_ble_eq_true rfl) (ok_Q_change G (g_sx G ((i_ad y3 1)).toNat) (g_sx G ((i_ad y3 2)).toNat) r1378.2 ) (fun r1379 => ?_)
        show pm_R _ _ _ (338, [(0, .inr (.inr (30, 0))), (1, .inr (.inr (0, 0))), (2, .inr (.inr (1, 87))), (3, .inl y3)], [.inl r1379.1, .inl r1378.1], 119, pm_RF, r1379.2) _ _
        refine R_ic ho rfl (tgt := 1018) rfl ?_
        refine R_eq ?_ ?_
        · refine R_st ho 2 (q' := (18, [(3, .inl (i_ad y3 6)), (0, .inr (.inr (30, 0))), (1, .inr (.inr (0, 0))), (2, .inr (.inr (1, 87)))], [], 119, pm_RF, r1379.2)) rfl ?_
          refine R_pk [0, 1, 2, 3] rfl ?_
          exact ih_ (i_ad y3 6) r1379.2
        · exact R_none
      refine R_cs (fun z_ => (33, [(0, .inr (.inr (30, 0))), (1, .inr (.inr (0, 0))), (2, .inr (.inr (1, 87))), (3, .inl y3)], [.inl z_], 119, pm_RF, M)) ?_ (fun h1435 => ?_)
      · refine R_swk ho rfl (by decide) rfl (tgt := 343) rfl (by decide +kernel) ?_
        refine R_st ho 5 (q' := (348, [(0, .inr (.inr (30, 0))), (1, .inr (.inr (0, 0))), (2, .inr (.inr (1, 87))), (3, .inl y3)], [.inl (i_ad y3 1), .inr (.inr (30, 0)), .inr (.inr (0, 0))], 119, pm_RF, M)) rfl ?_
        refine R_sald ho rfl rfl ?_
        refine R_st ho 4 (q' := (353, [(0, .inr (.inr (30, 0))), (1, .inr (.inr (0, 0))), (2, .inr (.inr (1, 87))), (3, .inl y3)], [.inl (i_ad y3 2), .inr (.inr (30, 0)), .inl (g_sx G ((i_ad y3 1)).toNat), .inr (.inr (0, 0))], 119, pm_RF, M)) rfl ?_
        refine R_sald ho rfl rfl ?_
        refine R_callV ho mv_X_carve lk_13_37 rfl (As := [.inl (g_sx G ((i_ad y3 1)).toNat), .inl (g_sx G ((i_ad y3 2)).toNat)]) (kd := 0) (a := 0) (st := []) rfl rfl (Nat.le_of_ble_eq_true rfl) rfl (by decide) (Nat.le_of_ble_eq_true rfl) (ok_X_carve G (g_sx G ((i_ad y3 1)).toNat) (g_sx G ((i_ad y3 2)).toNat) M ) (fun r1380 => ?_)
        show pm_R _ _ _ (357, [(0, .inr (.inr (30, 0))), (1, .inr (.inr (0, 0))), (2, .inr (.inr (1, 87))), (3, .inl y3)], [.inl r1380.1], 119, pm_RF, r1380.2) _ _
        refine R_st ho 5 (q' := (362, [(0, .inr (.inr (30, 0))), (1, .inr (.inr (0, 0))), (2, .inr (.inr (1, 87))), (3, .inl y3)], [.inl (i_ad y3 1), .inr (.inr (30, 0)), .inr (.inr (1, 87)), .inl r1380.1], 119, pm_RF, r1380.2)) rfl ?_
        refine R_sald ho rfl rfl ?_
        refine R_st ho 4 (q' := (367, [(0, .inr (.inr (30, 0))), (1, .inr (.inr (0, 0))), (2, .inr (.inr (1, 87))), (3, .inl y3)], [.inl (i_ad y3 2), .inr (.inr (30, 0)), .inl (g_sx G ((i_ad y3 1)).toNat), .inr (.inr (1, 87)), .inl r1380.1], 119, pm_RF, r1380.2)) rfl ?_
        refine R_sald ho rfl rfl ?_
        refine R_callV ho mv_Q_carve lk_13_40 rfl (As := [.inl (g_sx G ((i_ad y3 1)).toNat), .inl (g_sx G ((i_ad y3 2)).toNat)]) (kd := 1) (a := 87) (st := [.inl r1380.1]) rfl rfl (Nat.le_of_ble_eq_true rfl) rfl (by decide) (Nat.le_of_ble_eq_true rfl) (ok_Q_carve G (g_sx G ((i_ad y3 1)).toNat) (g_sx G ((i_ad y3 2)).toNat) r1380.2 ) (fun r1381 => ?_)
        show pm_R _ _ _ (371, [(0, .inr (.inr (30, 0))), (1, .inr (.inr (0, 0))), (2, .inr (.inr (1, 87))), (3, .inl y3)], [.inl r1381.1, .inl r1380.1], 119, pm_RF, r1381.2) _ _
        refine R_ic ho rfl (tgt := 1018) rfl ?_
        refine R_eq ?_ ?_
        · refine R_st ho 2 (q' := (18, [(3, .inl (i_ad y3 6)), (0, .inr (.inr (30, 0))), (1, .inr (.inr (0, 0))), (2, .inr (.inr (1, 87)))], [], 119, pm_RF, r1381.2)) rfl ?_
          refine R_pk [0, 1, 2, 3] rfl ?_
          exact ih_ (i_ad y3 6) r1381.2
        · exact R_none
      refine R_cs (fun z_ => (33, [(0, .inr (.inr (30, 0))), (1, .inr (.inr (0, 0))), (2, .inr (.inr (1, 87))), (3, .inl y3)], [.inl z_], 119, pm_RF, M)) ?_ (fun h1436 => ?_)
      · refine R_swk ho rfl (by decide) rfl (tgt := 376) rfl (by decide +kernel) ?_
        refine R_st ho 5 (q' := (381, [(0, .inr (.inr (30, 0))), (1, .inr (.inr (0, 0))), (2, .inr (.inr (1, 87))), (3, .inl y3)], [.inl (i_ad y3 1), .inr (.inr (30, 0)), .inr (.inr (0, 0))], 119, pm_RF, M)) rfl ?_
        refine R_sald ho rfl rfl ?_
        refine R_st ho 4 (q' := (386, [(0, .inr (.inr (30, 0))), (1, .inr (.inr (0, 0))), (2, .inr (.inr (1, 87))), (3, .inl y3)], [.inl (i_ad y3 2), .inr (.inr (30, 0)), .inl (g_sx G ((i_ad y3 1)).toNat), .inr (.inr (0, 0))], 119, pm_RF, M)) rfl ?_
        refine R_sald ho rfl rfl ?_
        refine R_callV ho mv_X_pay lk_13_41 rfl (As := [.inl (g_sx G ((i_ad y3 1)).toNat), .inl (g_sx G ((i_ad y3 2)).toNat)]) (kd := 0) (a := 0) (st := []) rfl rfl (Nat.le_of_ble_eq_true rfl) rfl (by decide) (Nat.le_of_ble_eq_true rfl) (ok_X_pay G (g_sx G ((i_ad y3 1)).toNat) (g_sx G ((i_ad y3 2)).toNat) M ) (fun r1382 => ?_)
        show pm_R _ _ _ (390, [(0, .inr (.inr (30, 0))), (1, .inr (.inr (0, 0))), (2, .inr (.inr (1, 87))), (3, .inl y3)], [.inl r1382.1], 119, pm_RF, r1382.2) _ _
        refine R_st ho 5 (q' := (395, [(0, .inr (.inr (30, 0))), (1, .inr (.inr (0, 0))), (2, .inr (.inr (1, 87))), (3, .inl y3)], [.inl (i_ad y3 1), .inr (.inr (30, 0)), .inr (.inr (1, 87)), .inl r1382.1], 119, pm_RF, r1382.2)) rfl ?_
        refine R_sald ho rfl rfl ?_
        refine R_st ho 4 (q' := (400, [(0, .inr (.inr (30, 0))), (1, .inr (.inr (0, 0))), (2, .inr (.inr (1, 87))), (3, .inl y3)], [.inl (i_ad y3 2), .inr (.inr (30, 0)), .inl (g_sx G ((i_ad y3 1)).toNat), .inr (.inr (1, 87)), .inl r1382.1], 119, pm_RF, r1382.2)) rfl ?_
        refine R_sald ho rfl rfl ?_
        refine R_callV ho mv_Q_pay lk_13_44 rfl (As := [.inl (g_sx G ((i_ad y3 1)).toNat), .inl (g_sx G ((i_ad y3 2)).toNat)]) (kd := 1) (a := 87) (st := [.inl r1382.1]) rfl rfl (Nat.le_of_ble_eq_true rfl) rfl (by decide) (Nat.le_of_ble_eq_true rfl) (ok_Q_pay G (g_sx G ((i_ad y3 1)).toNat) (g_sx G ((i_ad y3 2)).toNat) r1382.2 ) (fun r1383 => ?_)
        show pm_R _ _ _ (404, [(0, .inr (.inr (30, 0))), (1, .inr (.inr (0, 0))), (2, .inr (.inr (1, 87))), (3, .inl y3)], [.inl r1383.1, .inl r1382.1], 119, pm_RF, r1383.2) _ _
        refine R_ic ho rfl (tgt := 1018) rfl ?_
        refine R_eq ?_ ?_
        · refine R_st ho 2 (q' := (18, [(3, .inl (i_ad y3 6)), (0, .inr (.inr (30, 0))), (1, .inr (.inr (0, 0))), (2, .inr (.inr (1, 87)))], [], 119, pm_RF, r1383.2)) rfl ?_
          refine R_pk [0, 1, 2, 3] rfl ?_
          exact ih_ (i_ad y3 6) r1383.2
        · exact R_none
      refine R_cs (fun z_ => (33, [(0, .inr (.inr (30, 0))), (1, .inr (.inr (0, 0))), (2, .inr (.inr (1, 87))), (3, .inl y3)], [.inl z_], 119, pm_RF, M)) ?_ (fun h1437 => ?_)
      · refine R_swk ho rfl (by decide) rfl (tgt := 409) rfl (by decide +kernel) ?_
        refine R_st ho 5 (q' := (414, [(0, .inr (.inr (30, 0))), (1, .inr (.inr (0, 0))), (2, .inr (.inr (1, 87))), (3, .inl y3)], [.inl (i_ad y3 1), .inr (.inr (30, 0)), .inr (.inr (0, 0))], 119, pm_RF, M)) rfl ?_
        refine R_sald ho rfl rfl ?_
        refine R_callV ho mv_X_pass lk_13_45 rfl (As := [.inl (g_sx G ((i_ad y3 1)).toNat)]) (kd := 0) (a := 0) (st := []) rfl rfl (Nat.le_of_ble_eq_true rfl) rfl (by decide) (Nat.le_of_ble_eq_true rfl) (ok_X_pass G (g_sx G ((i_ad y3 1)).toNat) M ) (fun r1384 => ?_)
        show pm_R _ _ _ (418, [(0, .inr (.inr (30, 0))), (1, .inr (.inr (0, 0))), (2, .inr (.inr (1, 87))), (3, .inl y3)], [.inl r1384.1], 119, pm_RF, r1384.2) _ _
        refine R_st ho 5 (q' := (423, [(0, .inr (.inr (30, 0))), (1, .inr (.inr (0, 0))), (2, .inr (.inr (1, 87))), (3, .inl y3)], [.inl (i_ad y3 1), .inr (.inr (30, 0)), .inr (.inr (1, 87)), .inl r1384.1], 119, pm_RF, r1384.2)) rfl ?_
        refine R_sald ho rfl rfl ?_
        refine R_callV ho mv_Q_pass lk_13_48 rfl (As := [.inl (g_sx G ((i_ad y3 1)).toNat)]) (kd := 1) (a := 87) (st := [.inl r1384.1]) rfl rfl (Nat.le_of_ble_eq_true rfl) rfl (by decide) (Nat.le_of_ble_eq_true rfl) (ok_Q_pass G (g_sx G ((i_ad y3 1)).toNat) r1384.2 ) (fun r1385 => ?_)
        show pm_R _ _ _ (427, [(0, .inr (.inr (30, 0))), (1, .inr (.inr (0, 0))), (2, .inr (.inr (1, 87))), (3, .inl y3)], [.inl r1385.1, .inl r1384.1], 119, pm_RF, r1385.2) _ _
        refine R_ic ho rfl (tgt := 1018) rfl ?_
        refine R_eq ?_ ?_
        · refine R_st ho 2 (q' := (18, [(3, .inl (i_ad y3 6)), (0, .inr (.inr (30, 0))), (1, .inr (.inr (0, 0))), (2, .inr (.inr (1, 87)))], [], 119, pm_RF, r1385.2)) rfl ?_
          refine R_pk [0, 1, 2, 3] rfl ?_
          exact ih_ (i_ad y3 6) r1385.2
        · exact R_none
      refine R_cs (fun z_ => (33, [(0, .inr (.inr (30, 0))), (1, .inr (.inr (0, 0))), (2, .inr (.inr (1, 87))), (3, .inl y3)], [.inl z_], 119, pm_RF, M)) ?_ (fun h1438 => ?_)
      · refine R_swk ho rfl (by decide) rfl (tgt := 432) rfl (by decide +kernel) ?_
        refine R_st ho 5 (q' := (437, [(0, .inr (.inr (30, 0))), (1, .inr (.inr (0, 0))), (2, .inr (.inr (1, 87))), (3, .inl y3)], [.inl (i_ad y3 1), .inr (.inr (30, 0)), .inr (.inr (0, 0))], 119, pm_RF, M)) rfl ?_
        refine R_sald ho rfl rfl ?_
        refine R_st ho 4 (q' := (442, [(0, .inr (.inr (30, 0))), (1, .inr (.inr (0, 0))), (2, .inr (.inr (1, 87))), (3, .inl y3)], [.inl (i_ad y3 2), .inr (.inr (30, 0)), .inl (g_sx G ((i_ad y3 1)).toNat), .inr (.inr (0, 0))], 119, pm_RF, M)) rfl ?_
        refine R_sald ho rfl rfl ?_
        refine R_st ho 4 (q' := (447, [(0, .inr (.inr (30, 0))), (1, .inr (.inr (0, 0))), (2, .inr (.inr (1, 87))), (3, .inl y3)], [.inl (i_ad y3 3), .inr (.inr (30, 0)), .inl (g_sx G ((i_ad y3 2)).toNat), .inl (g_sx G ((i_ad y3 1)).toNat), .inr (.inr (0, 0))], 119, pm_RF, M)) rfl ?_
        refine R_sald ho rfl rfl ?_
        refine R_st ho 4 (q' := (452, [(0, .inr (.inr (30, 0))), (1, .inr (.inr (0, 0))), (2, .inr (.inr (1, 87))), (3, .inl y3)], [.inl (i_ad y3 4), .inr (.inr (30, 0)), .inl (g_sx G ((i_ad y3 3)).toNat), .inl (g_sx G ((i_ad y3 2)).toNat), .inl (g_sx G ((i_ad y3 1)).toNat), .inr (.inr (0, 0))], 119, pm_RF, M)) rfl ?_
        refine R_sald ho rfl rfl ?_
        refine R_st ho 4 (q' := (457, [(0, .inr (.inr (30, 0))), (1, .inr (.inr (0, 0))), (2, .inr (.inr (1, 87))), (3, .inl y3)], [.inl (i_ad y3 5), .inr (.inr (30, 0)), .inl (g_sx G ((i_ad y3 4)).toNat), .inl (g_sx G ((i_ad y3 3)).toNat), .inl (g_sx G ((i_ad y3 2)).toNat), .inl (g_sx G ((i_ad y3 1)).toNat), .inr (.inr (0, 0))], 119, pm_RF, M)) rfl ?_
        refine R_sald ho rfl rfl ?_
        refine R_callV ho mv_X_feed lk_13_49 rfl (As := [.inl (g_sx G ((i_ad y3 1)).toNat), .inl (g_sx G ((i_ad y3 2)).toNat), .inl (g_sx G ((i_ad y3 3)).toNat), .inl (g_sx G ((i_ad y3 4)).toNat), .inl (g_sx G ((i_ad y3 5)).toNat)]) (kd := 0) (a := 0) (st := []) rfl rfl (Nat.le_of_ble_eq_true rfl) rfl (by decide) (Nat.le_of_ble_eq_true rfl) (ok_X_feed G (g_sx G ((i_ad y3 1)).toNat) (g_sx G ((i_ad y3 2)).toNat) (g_sx G ((i_ad y3 3)).toNat) (g_sx G ((i_ad y3 4)).toNat) (g_sx G ((i_ad y3 5)).toNat) M ) (fun r1386 => ?_)
        show pm_R _ _ _ (461, [(0, .inr (.inr (30, 0))), (1, .inr (.inr (0, 0))), (2, .inr (.inr (1, 87))), (3, .inl y3)], [.inl r1386.1], 119, pm_RF, r1386.2) _ _
        refine R_st ho 5 (q' := (466, [(0, .inr (.inr (30, 0))), (1, .inr (.inr (0, 0))), (2, .inr (.inr (1, 87))), (3, .inl y3)], [.inl (i_ad y3 1), .inr (.inr (30, 0)), .inr (.inr (1, 87)), .inl r1386.1], 119, pm_RF, r1386.2)) rfl ?_
        refine R_sald ho rfl rfl ?_
        refine R_st ho 4 (q' := (471, [(0, .inr (.inr (30, 0))), (1, .inr (.inr (0, 0))), (2, .inr (.inr (1, 87))), (3, .inl y3)], [.inl (i_ad y3 2), .inr (.inr (30, 0)), .inl (g_sx G ((i_ad y3 1)).toNat), .inr (.inr (1, 87)), .inl r1386.1], 119, pm_RF, r1386.2)) rfl ?_
        refine R_sald ho rfl rfl ?_
        refine R_st ho 4 (q' := (476, [(0, .inr (.inr (30, 0))), (1, .inr (.inr (0, 0))), (2, .inr (.inr (1, 87))), (3, .inl y3)], [.inl (i_ad y3 3), .inr (.inr (30, 0)), .inl (g_sx G ((i_ad y3 2)).toNat), .inl (g_sx G ((i_ad y3 1)).toNat), .inr (.inr (1, 87)), .inl r1386.1], 119, pm_RF, r1386.2)) rfl ?_
        refine R_sald ho rfl rfl ?_
        refine R_st ho 4 (q' := (481, [(0, .inr (.inr (30, 0))), (1, .inr (.inr (0, 0))), (2, .inr (.inr (1, 87))), (3, .inl y3)], [.inl (i_ad y3 4), .inr (.inr (30, 0)), .inl (g_sx G ((i_ad y3 3)).toNat), .inl (g_sx G ((i_ad y3 2)).toNat), .inl (g_sx G ((i_ad y3 1)).toNat), .inr (.inr (1, 87)), .inl r1386.1], 119, pm_RF, r1386.2)) rfl ?_
        refine R_sald ho rfl rfl ?_
        refine R_st ho 4 (q' := (486, [(0, .inr (.inr (30, 0))), (1, .inr (.inr (0, 0))), (2, .inr (.inr (1, 87))), (3, .inl y3)], [.inl (i_ad y3 5), .inr (.inr (30, 0)), .inl (g_sx G ((i_ad y3 4)).toNat), .inl (g_sx G ((i_ad y3 3)).toNat), .inl (g_sx G ((i_ad y3 2)).toNat), .inl (g_sx G ((i_ad y3 1)).toNat), .inr (.inr (1, 87)), .inl r1386.1], 119, pm_RF, r1386.2)) rfl ?_
        refine R_sald ho rfl rfl ?_
        refine R_callV ho mv_Q_feed lk_13_53 rfl (As := [.inl (g_sx G ((i_ad y3 1)).toNat), .inl (g_sx G ((i_ad y3 2)).toNat), .inl (g_sx G ((i_ad y3 3)).toNat), .inl (g_sx G ((i_ad y3 4)).toNat), .inl (g_sx G ((i_ad y3 5)).toNat)]) (kd := 1) (a := 87) (st := [.inl r1386.1]) rfl rfl (Nat.le_of_ble_eq_true rfl) rfl (by decide) (Nat.le_of_ble_eq_true rfl) (ok_Q_feed G (g_sx G ((i_ad y3 1)).toNat) (g_sx G ((i_ad y3 2)).toNat) (g_sx G ((i_ad y3 3)).toNat) (g_sx G ((i_ad y3 4)).toNat) (g_sx G ((i_ad y3 5)).toNat) r1386.2 ) (fun r1387 => ?_)
        show pm_R _ _ _ (490, [(0, .inr (.inr (30, 0))), (1, .inr (.inr (0, 0))), (2, .inr (.inr (1, 87))), (3, .inl y3)], [.inl r1387.1, .inl r1386.1], 119, pm_RF, r1387.2) _ _
        refine R_ic ho rfl (tgt := 1018) rfl ?_
        refine R_eq ?_ ?_
        · refine R_st ho 2 (q' := (18, [(3, .inl (i_ad y3 6)), (0, .inr (.inr (30, 0))), (1, .inr (.inr (0, 0))), (2, .inr (.inr (1, 87)))], [], 119, pm_RF, r1387.2)) rfl ?_
          refine R_pk [0, 1, 2, 3] rfl ?_
          exact ih_ (i_ad y3 6) r1387.2
        · exact R_none
      refine R_cs (fun z_ => (33, [(0, .inr (.inr (30, 0))), (1, .inr (.inr (0, 0))), (2, .inr (.inr (1, 87))), (3, .inl y3)], [.inl z_], 119, pm_RF, M)) ?_ (fun h1439 => ?_)
      · refine R_swk ho rfl (by decide) rfl (tgt := 495) rfl (by decide +kernel) ?_
        refine R_st ho 5 (q' := (500, [(0, .inr (.inr (30, 0))), (1, .inr (.inr (0, 0))), (2, .inr (.inr (1, 87))), (3, .inl y3)], [.inl (i_ad y3 1), .inr (.inr (30, 0)), .inr (.inr (0, 0))], 119, pm_RF, M)) rfl ?_
        refine R_sald ho rfl rfl ?_
        refine R_callV ho mv_X_end lk_13_54 rfl (As := [.inl (g_sx G ((i_ad y3 1)).toNat)]) (kd := 0) (a := 0) (st := []) rfl rfl (Nat.le_of_ble_eq_true rfl) rfl (by decide) (Nat.le_of_ble_eq_true rfl) (ok_X_end G (g_sx G ((i_ad y3 1)).toNat) M ) (fun r1388 => ?_)
        show pm_R _ _ _ (504, [(0, .inr (.inr (30, 0))), (1, .inr (.inr (0, 0))), (2, .inr (.inr (1, 87))), (3, .inl y3)], [.inl r1388.1], 119, pm_RF, r1388.2) _ _
        refine R_st ho 5 (q' := (509, [(0, .inr (.inr (30, 0))), (1, .inr (.inr (0, 0))), (2, .inr (.inr (1, 87))), (3, .inl y3)], [.inl (i_ad y3 1), .inr (.inr (30, 0)), .inr (.inr (1, 87)), .inl r1388.1], 119, pm_RF, r1388.2)) rfl ?_
        refine R_sald ho rfl rfl ?_
        refine R_callV ho mv_Q_end lk_13_57 rfl (As := [.inl (g_sx G ((i_ad y3 1)).toNat)]) (kd := 1) (a := 87) (st := [.inl r1388.1]) rfl rfl (Nat.le_of_ble_eq_true rfl) rfl (by decide) (Nat.le_of_ble_eq_true rfl) (ok_Q_end G (g_sx G ((i_ad y3 1)).toNat) r1388.2 ) (fun r1389 => ?_)
        show pm_R _ _ _ (513, [(0, .inr (.inr (30, 0))), (1, .inr (.inr (0, 0))), (2, .inr (.inr (1, 87))), (3, .inl y3)], [.inl r1389.1, .inl r1388.1], 119, pm_RF, r1389.2) _ _
        refine R_ic ho rfl (tgt := 1018) rfl ?_
        refine R_eq ?_ ?_
        · refine R_st ho 2 (q' := (18, [(3, .inl (i_ad y3 6)), (0, .inr (.inr (30, 0))), (1, .inr (.inr (0, 0))), (2, .inr (.inr (1, 87)))], [], 119, pm_RF, r1389.2)) rfl ?_
          refine R_pk [0, 1, 2, 3] rfl ?_
          exact ih_ (i_ad y3 6) r1389.2
        · exact R_none
      refine R_cs (fun z_ => (33, [(0, .inr (.inr (30, 0))), (1, .inr (.inr (0, 0))), (2, .inr (.inr (1, 87))), (3, .inl y3)], [.inl z_], 119, pm_RF, M)) ?_ (fun h1440 => ?_)
      · refine R_swk ho rfl (by decide) rfl (tgt := 518) rfl (by decide +kernel) ?_
        refine R_st ho 1 (q' := (519, [(0, .inr (.inr (30, 0))), (1, .inr (.inr (0, 0))), (2, .inr (.inr (1, 87))), (3, .inl y3)], [.inr (.inr (0, 0))], 119, pm_RF, M)) rfl ?_
        refine R_callV ho mv_X_text lk_13_58 rfl (As := []) (kd := 0) (a := 0) (st := []) rfl rfl (Nat.le_of_ble_eq_true rfl) rfl (by decide) (Nat.le_of_ble_eq_true rfl) (ok_X_text G  M ) (fun r1390 => ?_)
        show pm_R _ _ _ (522, [(0, .inr (.inr (30, 0))), (1, .inr (.inr (0, 0))), (2, .inr (.inr (1, 87))), (3, .inl y3)], [.inl r1390.1], 119, pm_RF, r1390.2) _ _
        refine R_st ho 1 (q' := (523, [(0, .inr (.inr (30, 0))), (1, .inr (.inr (0, 0))), (2, .inr (.inr (1, 87))), (3, .inl y3)], [.inr (.inr (1, 87)), .inl r1390.1], 119, pm_RF, r1390.2)) rfl ?_
        refine R_callV ho mv_Q_text lk_13_62 rfl (As := []) (kd := 1) (a := 87) (st := [.inl r1390.1]) rfl rfl (Nat.le_of_ble_eq_true rfl) rfl (by decide) (Nat.le_of_ble_eq_true rfl) (ok_Q_text G  r1390.2 ) (fun r1391 => ?_)
        show pm_R _ _ _ (526, [(0, .inr (.inr (30, 0))), (1, .inr (.inr (0, 0))), (2, .inr (.inr (1, 87))), (3, .inl y3)], [.inl r1391.1, .inl r1390.1], 119, pm_RF, r1391.2) _ _
        refine R_ic ho rfl (tgt := 1018) rfl ?_
        refine R_eq ?_ ?_
        · refine R_st ho 2 (q' := (18, [(3, .inl (i_ad y3 6)), (0, .inr (.inr (30, 0))), (1, .inr (.inr (0, 0))), (2, .inr (.inr (1, 87)))], [], 119, pm_RF, r1391.2)) rfl ?_
          refine R_pk [0, 1, 2, 3] rfl ?_
          exact ih_ (i_ad y3 6) r1391.2
        · exact R_none
      refine R_cs (fun z_ => (33, [(0, .inr (.inr (30, 0))), (1, .inr (.inr (0, 0))), (2, .inr (.inr (1, 87))), (3, .inl y3)], [.inl z_], 119, pm_RF, M)) ?_ (fun h1441 => ?_)
      · refine R_swk ho rfl (by decide) rfl (tgt := 531) rfl (by decide +kernel) ?_
        refine R_st ho 5 (q' := (536, [(0, .inr (.inr (30, 0))), (1, .inr (.inr (0, 0))), (2, .inr (.inr (1, 87))), (3, .inl y3)], [.inl (i_ad y3 1), .inr (.inr (30, 0)), .inr (.inr (0, 0))], 119, pm_RF, M)) rfl ?_
        refine R_sald ho rfl rfl ?_
        refine R_callV ho mv_X_fault lk_13_63 rfl (As := [.inl (g_sx G ((i_ad y3 1)).toNat)]) (kd := 0) (a := 0) (st := []) rfl rfl (Nat.le_of_ble_eq_true rfl) rfl (by decide) (Nat.le_of_ble_eq_true rfl) (ok_X_fault G (g_sx G ((i_ad y3 1)).toNat) M ) (fun r1392 => ?_)
        show pm_R _ _ _ (540, [(0, .inr (.inr (30, 0))), (1, .inr (.inr (0, 0))), (2, .inr (.inr (1, 87))), (3, .inl y3)], [.inl r1392], 119, pm_RF, M) _ _
        refine R_st ho 5 (q' := (545, [(0, .inr (.inr (30, 0))), (1, .inr (.inr (0, 0))), (2, .inr (.inr (1, 87))), (3, .inl y3)], [.inl (i_ad y3 1), .inr (.inr (30, 0)), .inr (.inr (1, 87)), .inl r1392], 119, pm_RF, M)) rfl ?_
        refine R_sald ho rfl rfl ?_
        refine R_callV ho mv_Q_fault lk_13_66 rfl (As := [.inl (g_sx G ((i_ad y3 1)).toNat)]) (kd := 1) (a := 87) (st := [.inl r1392]) rfl rfl (Nat.le_of_ble_eq_true rfl) rfl (by decide) (Nat.le_of_ble_eq_true rfl) (ok_Q_fault G (g_sx G ((i_ad y3 1)).toNat) M ) (fun r1393 => ?_)
        show pm_R _ _ _ (549, [(0, .inr (.inr (30, 0))), (1, .inr (.inr (0, 0))), (2, .inr (.inr (1, 87))), (3, .inl y3)], [.inl r1393, .inl r1392], 119, pm_RF, M) _ _
        refine R_ic ho rfl (tgt := 1018) rfl ?_
        refine R_eq ?_ ?_
        · refine R_st ho 2 (q' := (18, [(3, .inl (i_ad y3 6)), (0, .inr (.inr (30, 0))), (1, .inr (.inr (0, 0))), (2, .inr (.inr (1, 87)))], [], 119, pm_RF, M)) rfl ?_
          refine R_pk [0, 1, 2, 3] rfl ?_
          exact ih_ (i_ad y3 6) M
        · exact R_none
      refine R_cs (fun z_ => (33, [(0, .inr (.inr (30, 0))), (1, .inr (.inr (0, 0))), (2, .inr (.inr (1, 87))), (3, .inl y3)], [.inl z_], 119, pm_RF, M)) ?_ (fun h1442 => ?_)
      · refine R_swk ho rfl (by decide) rfl (tgt := 554) rfl (by decide +kernel) ?_
        refine R_st ho 5 (q' := (559, [(0, .inr (.inr (30, 0))), (1, .inr (.inr (0, 0))), (2, .inr (.inr (1, 87))), (3, .inl y3)], [.inl (i_ad y3 1), .inr (.inr (30, 0)), .inr (.inr (0, 0))], 119, pm_RF, M)) rfl ?_
        refine R_sald ho rfl rfl ?_
        refine R_callV ho mv_X_by lk_13_67 rfl (As := [.inl (g_sx G ((i_ad y3 1)).toNat)]) (kd := 0) (a := 0) (st := []) rfl rfl (Nat.le_of_ble_eq_true rfl) rfl (by decide) (Nat.le_of_ble_eq_true rfl) (ok_X_by G (g_sx G ((i_ad y3 1)).toNat) M ) (fun r1394 => ?_)
        show pm_R _ _ _ (563, [(0, .inr (.inr (30, 0))), (1, .inr (.inr (0, 0))), (2, .inr (.inr (1, 87))), (3, .inl y3)], [.inl r1394.1], 119, pm_RF, r1394.2) _ _
        refine R_st ho 5 (q' := (568, [(0, .inr (.inr (30, 0))), (1, .inr (.inr (0, 0))), (2, .inr (.inr (1, 87))), (3, .inl y3)], [.inl (i_ad y3 1), .inr (.inr (30, 0)), .inr (.inr (1, 87)), .inl r1394.1], 119, pm_RF, r1394.2)) rfl ?_
        refine R_sald ho rfl rfl ?_
        refine R_callV ho mv_Q_by lk_13_71 rfl (As := [.inl (g_sx G ((i_ad y3 1)).toNat)]) (kd := 1) (a := 87) (st := [.inl r1394.1]) rfl rfl (Nat.le_of_ble_eq_true rfl) rfl (by decide) (Nat.le_of_ble_eq_true rfl) (ok_Q_by G (g_sx G ((i_ad y3 1)).toNat) r1394.2 ) (fun r1395 => ?_)
        show pm_R _ _ _ (572, [(0, .inr (.inr (30, 0))), (1, .inr (.inr (0, 0))), (2, .inr (.inr (1, 87))), (3, .inl y3)], [.inl r1395.1, .inl r1394.1], 119, pm_RF, r1395.2) _ _
        refine R_ic ho rfl (tgt := 1018) rfl ?_
        refine R_eq ?_ ?_
        · refine R_st ho 2 (q' := (18, [(3, .inl (i_ad y3 6)), (0, .inr (.inr (30, 0))), (1, .inr (.inr (0, 0))), (2, .inr (.inr (1, 87)))], [], 119, pm_RF, r1395.2)) rfl ?_
          refine R_pk [0, 1, 2, 3] rfl ?_
          exact ih_ (i_ad y3 6) r1395.2
        · exact R_none
      refine R_cs (fun z_ => (33, [(0, .inr (.inr (30, 0))), (1, .inr (.inr (0, 0))), (2, .inr (.inr (1, 87))), (3, .inl y3)], [.inl z_], 119, pm_RF, M)) ?_ (fun h1443 => ?_)
      · refine R_swk ho rfl (by decide) rfl (tgt := 577) rfl (by decide +kernel) ?_
        refine R_st ho 5 (q' := (582, [(0, .inr (.inr (30, 0))), (1, .inr (.inr (0, 0))), (2, .inr (.inr (1, 87))), (3, .inl y3)], [.inl (i_ad y3 1), .inr (.inr (30, 0)), .inr (.inr (0, 0))], 119, pm_RF, M)) rfl ?_
        refine R_sald ho rfl rfl ?_
        refine R_callV ho mv_X_played lk_13_72 rfl (As := [.inl (g_sx G ((i_ad y3 1)).toNat)]) (kd := 0) (a := 0) (st := []) rfl rfl (Nat.le_of_ble_eq_true rfl) rfl (by decide) (Nat.le_of_ble_eq_true rfl) (ok_X_played G (g_sx G ((i_ad y3 1)).toNat) M ) (fun r1396 => ?_)
        show pm_R _ _ _ (586, [(0, .inr (.inr (30, 0))), (1, .inr (.inr (0, 0))), (2, .inr (.inr (1, 87))), (3, .inl y3)], [.inl r1396.1], 119, pm_RF, r1396.2) _ _
        refine R_st ho 5 (q' := (591, [(0, .inr (.inr (30, 0))), (1, .inr (.inr (0, 0))), (2, .inr (.inr (1, 87))), (3, .inl y3)], [.inl (i_ad y3 1), .inr (.inr (30, 0)), .inr (.inr (1, 87)), .inl r1396.1], 119, pm_RF, r1396.2)) rfl ?_
        refine R_sald ho rfl rfl ?_
        refine R_callV ho mv_Q_played lk_13_75 rfl (As := [.inl (g_sx G ((i_ad y3 1)).toNat)]) (kd := 1) (a := 87) (st := [.inl r1396.1]) rfl rfl (Nat.le_of_ble_eq_true rfl) rfl (by decide) (Nat.le_of_ble_eq_true rfl) (ok_Q_played G (g_sx G ((i_ad y3 1)).toNat) r1396.2 ) (fun r1397 => ?_)
        show pm_R _ _ _ (595, [(0, .inr (.inr (30, 0))), (1, .inr (.inr (0, 0))), (2, .inr (.inr (1, 87))), (3, .inl y3)], [.inl r1397.1, .inl r1396.1], 119, pm_RF, r1397.2) _ _
        refine R_ic ho rfl (tgt := 1018) rfl ?_
        refine R_eq ?_ ?_
        · refine R_st ho 2 (q' := (18, [(3, .inl (i_ad y3 6)), (0, .inr (.inr (30, 0))), (1, .inr (.inr (0, 0))), (2, .inr (.inr (1, 87)))], [], 119, pm_RF, r1397.2)) rfl ?_
          refine R_pk [0, 1, 2, 3] rfl ?_
          exact ih_ (i_ad y3 6) r1397.2
        · exact R_none
      refine R_cs (fun z_ => (33, [(0, .inr (.inr (30, 0))), (1, .inr (.inr (0, 0))), (2, .inr (.inr (1, 87))), (3, .inl y3)], [.inl z_], 119, pm_RF, M)) ?_ (fun h1444 => ?_)
      · refine R_swk ho rfl (by decide) rfl (tgt := 600) rfl (by decide +kernel) ?_
        refine R_st ho 1 (q' := (601, [(0, .inr (.inr (30, 0))), (1, .inr (.inr (0, 0))), (2, .inr (.inr (1, 87))), (3, .inl y3)], [.inr (.inr (0, 0))], 119, pm_RF, M)) rfl ?_
        refine R_callV ho mv_X_undo lk_13_76 rfl (As := []) (kd := 0) (a := 0) (st := []) rfl rfl (Nat.le_of_ble_eq_true rfl) rfl (by decide) (Nat.le_of_ble_eq_true rfl) (ok_X_undo G  M ) (fun r1398 => ?_)
        show pm_R _ _ _ (604, [(0, .inr (.inr (30, 0))), (1, .inr (.inr (0, 0))), (2, .inr (.inr (1, 87))), (3, .inl y3)], [.inl r1398.1], 119, pm_RF, r1398.2) _ _
        refine R_st ho 1 (q' := (605, [(0, .inr (.inr (30, 0))), (1, .inr (.inr (0, 0))), (2, .inr (.inr (1, 87))), (3, .inl y3)], [.inr (.inr (1, 87)), .inl r1398.1], 119, pm_RF, r1398.2)) rfl ?_
        refine R_callV ho mv_Q_undo lk_13_79 rfl (As := []) (kd := 1) (a := 87) (st := [.inl r1398.1]) rfl rfl (Nat.le_of_ble_eq_true rfl) rfl (by decide) (Nat.le_of_ble_eq_true rfl) (ok_Q_undo G  r1398.2 ) (fun r1399 => ?_)
        show pm_R _ _ _ (608, [(0, .inr (.inr (30, 0))), (1, .inr (.inr (0, 0))), (2, .inr (.inr (1, 87))), (3, .inl y3)], [.inl r1399.1, .inl r1398.1], 119, pm_RF, r1399.2) _ _
        refine R_ic ho rfl (tgt := 1018) rfl ?_
        refine R_eq ?_ ?_
        · refine R_st ho 2 (q' := (18, [(3, .inl (i_ad y3 6)), (0, .inr (.inr (30, 0))), (1, .inr (.inr (0, 0))), (2, .inr (.inr (1, 87)))], [], 119, pm_RF, r1399.2)) rfl ?_
          refine R_pk [0, 1, 2, 3] rfl ?_
          exact ih_ (i_ad y3 6) r1399.2
        · exact R_none
      refine R_cs (fun z_ => (33, [(0, .inr (.inr (30, 0))), (1, .inr (.inr (0, 0))), (2, .inr (.inr (1, 87))), (3, .inl y3)], [.inl z_], 119, pm_RF, M)) ?_ (fun h1445 => ?_)
      · refine R_swk ho rfl (by decide) rfl (tgt := 613) rfl (by decide +kernel) ?_
        refine R_st ho 5 (q' := (618, [(0, .inr (.inr (30, 0))), (1, .inr (.inr (0, 0))), (2, .inr (.inr (1, 87))), (3, .inl y3)], [.inl (i_ad y3 1), .inr (.inr (30, 0)), .inr (.inr (0, 0))], 119, pm_RF, M)) rfl ?_
        refine R_sald ho rfl rfl ?_
        refine R_st ho 4 (q' := (623, [(0, .inr (.inr (30, 0))), (1, .inr (.inr (0, 0))), (2, .inr (.inr (1, 87))), (3, .inl y3)], [.inl (i_ad y3 2), .inr (.inr (30, 0)), .inl (g_sx G ((i_ad y3 1)).toNat), .inr (.inr (0, 0))], 119, pm_RF, M)) rfl ?_
        refine R_sald ho rfl rfl ?_
        refine R_callV ho mv_X_of lk_13_80 rfl (As := [.inl (g_sx G ((i_ad y3 1)).toNat), .inl (g_sx G ((i_ad y3 2)).toNat)]) (kd := 0) (a := 0) (st := []) rfl rfl (Nat.le_of_ble_eq_true rfl) rfl (by decide) (Nat.le_of_ble_eq_true rfl) (ok_X_of G (g_sx G ((i_ad y3 1)).toNat) (g_sx G ((i_ad y3 2)).toNat) M ) (fun r1400 => ?_)
        show pm_R _ _ _ (627, [(0, .inr (.inr (30, 0))), (1, .inr (.inr (0, 0))), (2, .inr (.inr (1, 87))), (3, .inl y3)], [.inl r1400.1], 119, pm_RF, r1400.2) _ _
        refine R_st ho 5 (q' := (632, [(0, .inr (.inr (30, 0))), (1, .inr (.inr (0, 0))), (2, .inr (.inr (1, 87))), (3, .inl y3)], [.inl (i_ad y3 1), .inr (.inr (30, 0)), .inr (.inr (1, 87)), .inl r1400.1], 119, pm_RF, r1400.2)) rfl ?_
        refine R_sald ho rfl rfl ?_
        refine R_st ho 4 (q' := (637, [(0, .inr (.inr (30, 0))), (1, .inr (.inr (0, 0))), (2, .inr (.inr (1, 87))), (3, .inl y3)], [.inl (i_ad y3 2), .inr (.inr (30, 0)), .inl (g_sx G ((i_ad y3 1)).toNat), .inr (.inr (1, 87)), .inl r1400.1], 119, pm_RF, r1400.2)) rfl ?_
        refine R_sald ho rfl rfl ?_
        refine R_callV ho mv_Q_of lk_13_83 rfl (As := [.inl (g_sx G ((i_ad y3 1)).toNat), .inl (g_sx G ((i_ad y3 2)).toNat)]) (kd := 1) (a := 87) (st := [.inl r1400.1]) rfl rfl (Nat.le_of_ble_eq_true rfl) rfl (by decide) (Nat.le_of_ble_eq_true rfl) (ok_Q_of G (g_sx G ((i_ad y3 1)).toNat) (g_sx G ((i_ad y3 2)).toNat) r1400.2 ) (fun r1401 => ?_)
        show pm_R _ _ _ (641, [(0, .inr (.inr (30, 0))), (1, .inr (.inr (0, 0))), (2, .inr (.inr (1, 87))), (3, .inl y3)], [.inl r1401.1, .inl r1400.1], 119, pm_RF, r1401.2) _ _
        refine R_ic ho rfl (tgt := 1018) rfl ?_
        refine R_eq ?_ ?_
        · refine R_st ho 2 (q' := (18, [(3, .inl (i_ad y3 6)), (0, .inr (.inr (30, 0))), (1, .inr (.inr (0, 0))), (2, .inr (.inr (1, 87)))], [], 119, pm_RF, r1401.2)) rfl ?_
          refine R_pk [0, 1, 2, 3] rfl ?_
          exact ih_ (i_ad y3 6) r1401.2
        · exact R_none
      refine R_cs (fun z_ => (33, [(0, .inr (.inr (30, 0))), (1, .inr (.inr (0, 0))), (2, .inr (.inr (1, 87))), (3, .inl y3)], [.inl z_], 119, pm_RF, M)) ?_ (fun h1446 => ?_)
      · refine R_swk ho rfl (by decide) rfl (tgt := 646) rfl (by decide +kernel) ?_
        refine R_st ho 5 (q' := (651, [(0, .inr (.inr (30, 0))), (1, .inr (.inr (0, 0))), (2, .inr (.inr (1, 87))), (3, .inl y3)], [.inl (i_ad y3 1), .inr (.inr (30, 0)), .inr (.inr (0, 0))], 119, pm_RF, M)) rfl ?_
        refine R_sald ho rfl rfl ?_
        refine R_st ho 4 (q' := (656, [(0, .inr (.inr (30, 0))), (1, .inr (.inr (0, 0))), (2, .inr (.inr (1, 87))), (3, .inl y3)], [.inl (i_ad y3 2), .inr (.inr (30, 0)), .inl (g_sx G ((i_ad y3 1)).toNat), .inr (.inr (0, 0))], 119, pm_RF, M)) rfl ?_
        refine R_sald ho rfl rfl ?_
        refine R_callV ho mv_X_headOf lk_13_84 rfl (As := [.inl (g_sx G ((i_ad y3 1)).toNat), .inl (g_sx G ((i_ad y3 2)).toNat)]) (kd := 0) (a := 0) (st := []) rfl rfl (Nat.le_of_ble_eq_true rfl) rfl (by decide) (Nat.le_of_ble_eq_true rfl) (ok_X_headOf G (g_sx G ((i_ad y3 1)).toNat) (g_sx G ((i_ad y3 2)).toNat) M ) (fun r1402 => ?_)
        show pm_R _ _ _ (660, [(0, .inr (.inr (30, 0))), (1, .inr (.inr (0, 0))), (2, .inr (.inr (1, 87))), (3, .inl y3)], [.inl r1402], 119, pm_RF, M) _ _
        refine R_st ho 5 (q' := (665, [(0, .inr (.inr (30, 0))), (1, .inr (.inr (0, 0))), (2, .inr (.inr (1, 87))), (3, .inl y3)], [.inl (i_ad y3 1), .inr (.inr (30, 0)), .inr (.inr (1, 87)), .inl r1402], 119, pm_RF, M)) rfl ?_
        refine R_sald ho rfl rfl ?_
        refine R_st ho 4 (q' := (670, [(0, .inr (.inr (30, 0))), (1, .inr (.inr (0, 0))), (2, .inr (.inr (1, 87))), (3, .inl y3)], [.inl (i_ad y3 2), .inr (.inr (30, 0)), .inl (g_sx G ((i_ad y3 1)).toNat), .inr (.inr (1, 87)), .inl r1402], 119, pm_RF, M)) rfl ?_
        refine R_sald ho rfl rfl ?_
        refine R_callV ho mv_Q_headOf lk_13_87 rfl (As := [.inl (g_sx G ((i_ad y3 1)).toNat), .inl (g_sx G ((i_ad y3 2)).toNat)]) (kd := 1) (a := 87) (st := [.inl r1402]) rfl rfl (Nat.le_of_ble_eq_true rfl) rfl (by decide) (Nat.le_of_ble_eq_true rfl) (ok_Q_headOf G (g_sx G ((i_ad y3 1)).toNat) (g_sx G ((i_ad y3 2)).toNat) M ) (fun r1403 => ?_)
        show pm_R _ _ _ (674, [(0, .inr (.inr (30, 0))), (1, .inr (.inr (0, 0))), (2, .inr (.inr (1, 87))), (3, .inl y3)], [.inl r1403, .inl r1402], 119, pm_RF, M) _ _
        refine R_ic ho rfl (tgt := 1018) rfl ?_
        refine R_eq ?_ ?_
        · refine R_st ho 2 (q' := (18, [(3, .inl (i_ad y3 6)), (0, .inr (.inr (30, 0))), (1, .inr (.inr (0, 0))), (2, .inr (.inr (1, 87)))], [], 119, pm_RF, M)) rfl ?_
          refine R_pk [0, 1, 2, 3] rfl ?_
          exact ih_ (i_ad y3 6) M
        · exact R_none
      refine R_cs (fun z_ => (33, [(0, .inr (.inr (30, 0))), (1, .inr (.inr (0, 0))), (2, .inr (.inr (1, 87))), (3, .inl y3)], [.inl z_], 119, pm_RF, M)) ?_ (fun h1447 => ?_)
      · refine R_swk ho rfl (by decide) rfl (tgt := 679) rfl (by decide +kernel) ?_
        refine R_st ho 5 (q' := (684, [(0, .inr (.inr (30, 0))), (1, .inr (.inr (0, 0))), (2, .inr (.inr (1, 87))), (3, .inl y3)], [.inl (i_ad y3 1), .inr (.inr (30, 0)), .inr (.inr (0, 0))], 119, pm_RF, M)) rfl ?_
        refine R_sald ho rfl rfl ?_
        refine R_callV ho mv_X_best lk_13_88 rfl (As := [.inl (g_sx G ((i_ad y3 1)).toNat)]) (kd := 0) (a := 0) (st := []) rfl rfl (Nat.le_of_ble_eq_true rfl) rfl (by decide) (Nat.le_of_ble_eq_true rfl) (ok_X_best G (g_sx G ((i_ad y3 1)).toNat) M ) (fun r1404 => ?_)
        show pm_R _ _ _ (688, [(0, .inr (.inr (30, 0))), (1, .inr (.inr (0, 0))), (2, .inr (.inr (1, 87))), (3, .inl y3)], [.inl r1404.1], 119, pm_RF, r1404.2) _ _
        refine R_st ho 5 (q' := (693, [(0, .inr (.inr (30, 0))), (1, .inr (.inr (0, 0))), (2, .inr (.inr (1, 87))), (3, .inl y3)], [.inl (i_ad y3 1), .inr (.inr (30, 0)), .inr (.inr (1, 87)), .inl r1404.1], 119, pm_RF, r1404.2)) rfl ?_
        refine R_sald ho rfl rfl ?_
        refine R_callV ho mv_Q_best lk_13_91 rfl (As := [.inl (g_sx G ((i_ad y3 1)).toNat)]) (kd := 1) (a := 87) (st := [.inl r1404.1]) rfl rfl (Nat.le_of_ble_eq_true rfl) rfl (by decide) (Nat.le_of_ble_eq_true rfl) (ok_Q_best G (g_sx G ((i_ad y3 1)).toNat) r1404.2 ) (fun r1405 => ?_)
        show pm_R _ _ _ (697, [(0, .inr (.inr (30, 0))), (1, .inr (.inr (0, 0))), (2, .inr (.inr (1, 87))), (3, .inl y3)], [.inl r1405.1, .inl r1404.1], 119, pm_RF, r1405.2) _ _
        refine R_ic ho rfl (tgt := 1018) rfl ?_
        refine R_eq ?_ ?_
        · refine R_st ho 2 (q' := (18, [(3, .inl (i_ad y3 6)), (0, .inr (.inr (30, 0))), (1, .inr (.inr (0, 0))), (2, .inr (.inr (1, 87)))], [], 119, pm_RF, r1405.2)) rfl ?_
          refine R_pk [0, 1, 2, 3] rfl ?_
          exact ih_ (i_ad y3 6) r1405.2
        · exact R_none
      refine R_cs (fun z_ => (33, [(0, .inr (.inr (30, 0))), (1, .inr (.inr (0, 0))), (2, .inr (.inr (1, 87))), (3, .inl y3)], [.inl z_], 119, pm_RF, M)) ?_ (fun h1448 => ?_)
      · refine R_swk ho rfl (by decide) rfl (tgt := 702) rfl (by decide +kernel) ?_
        refine R_st ho 5 (q' := (707, [(0, .inr (.inr (30, 0))), (1, .inr (.inr (0, 0))), (2, .inr (.inr (1, 87))), (3, .inl y3)], [.inl (i_ad y3 1), .inr (.inr (30, 0)), .inr (.inr (0, 0))], 119, pm_RF, M)) rfl ?_
        refine R_sald ho rfl rfl ?_
        refine R_st ho 4 (q' := (712, [(0, .inr (.inr (30, 0))), (1, .inr (.inr (0, 0))), (2, .inr (.inr (1, 87))), (3, .inl y3)], [.inl (i_ad y3 2), .inr (.inr (30, 0)), .inl (g_sx G ((i_ad y3 1)).toNat), .inr (.inr (0, 0))], 119, pm_RF, M)) rfl ?_
        refine R_sald ho rfl rfl ?_
        refine R_st ho 4 (q' := (717, [(0, .inr (.inr (30, 0))), (1, .inr (.inr (0, 0))), (2, .inr (.inr (1, 87))), (3, .inl y3)], [.inl (i_ad y3 3), .inr (.inr (30, 0)), .inl (g_sx G ((i_ad y3 2)).toNat), .inl (g_sx G ((i_ad y3 1)).toNat), .inr (.inr (0, 0))], 119, pm_RF, M)) rfl ?_
        refine R_sald ho rfl rfl ?_
        refine R_callV ho mv_X_seen lk_13_92 rfl (As := [.inl (g_sx G ((i_ad y3 1)).toNat), .inl (g_sx G ((i_ad y3 2)).toNat), .inl (g_sx G ((i_ad y3 3)).toNat)]) (kd := 0) (a := 0) (st := []) rfl rfl (Nat.le_of_ble_eq_true rfl) rfl (by decide) (Nat.le_of_ble_eq_true rfl) (ok_X_seen G (g_sx G ((i_ad y3 1)).toNat) (g_sx G ((i_ad y3 2)).toNat) (g_sx G ((i_ad y3 3)).toNat) M ) (fun r1406 => ?_)
        show pm_R _ _ _ (721, [(0, .inr (.inr (30, 0))), (1, .inr (.inr (0, 0))), (2, .inr (.inr (1, 87))), (3, .inl y3)], [.inl r1406.1], 119, pm_RF, r1406.2) _ _
        refine R_st ho 5 (q' := (726, [(0, .inr (.inr (30, 0))), (1, .inr (.inr (0, 0))), (2, .inr (.inr (1, 87))), (3, .inl y3)], [.inl (i_ad y3 1), .inr (.inr (30, 0)), .inr (.inr (1, 87)), .inl r1406.1], 119, pm_RF, r1406.2)) rfl ?_
        refine R_sald ho rfl rfl ?_
        refine R_st ho 4 (q' := (731, [(0, .inr (.inr (30, 0))), (1, .inr (.inr (0, 0))), (2, .inr (.inr (1, 87))), (3, .inl y3)], [.inl (i_ad y3 2), .inr (.inr (30, 0)), .inl (g_sx G ((i_ad y3 1)).toNat), .inr (.inr (1, 87)), .inl r1406.1], 119, pm_RF, r1406.2)) rfl ?_
        refine R_sald ho rfl rfl ?_
        refine R_st ho 4 (q' := (736, [(0, .inr (.inr (30, 0))), (1, .inr (.inr (0, 0))), (2, .inr (.inr (1, 87))), (3, .inl y3)], [.inl (i_ad y3 3), .inr (.inr (30, 0)), .inl (g_sx G ((i_ad y3 2)).toNat), .inl (g_sx G ((i_ad y3 1)).toNat), .inr (.inr (1, 87)), .inl r1406.1], 119, pm_RF, r1406.2)) rfl ?_
        refine R_sald ho rfl rfl ?_
        refine R_callV ho mv_Q_seen lk_13_96 rfl (As := [.inl (g_sx G ((i_ad y3 1)).toNat), .inl (g_sx G ((i_ad y3 2)).toNat), .inl (g_sx G ((i_ad y3 3)).toNat)]) (kd := 1) (a := 87) (st := [.inl r1406.1]) rfl rfl (Nat.le_of_ble_eq_true rfl) rfl (by decide) (Nat.le_of_ble_eq_true rfl) (ok_Q_seen G (g_sx G ((i_ad y3 1)).toNat) (g_sx G ((i_ad y3 2)).toNat) (g_sx G ((i_ad y3 3)).toNat) r1406.2 ) (fun r1407 => ?_)
        show pm_R _ _ _ (740, [(0, .inr (.inr (30, 0))), (1, .inr (.inr (0, 0))), (2, .inr (.inr (1, 87))), (3, .inl y3)], [.inl r1407.1, .inl r1406.1], 119, pm_RF, r1407.2) _ _
        refine R_ic ho rfl (tgt := 1018) rfl ?_
        refine R_eq ?_ ?_
        · refine R_st ho 2 (q' := (18, [(3, .inl (i_ad y3 6)), (0, .inr (.inr (30, 0))), (1, .inr (.inr (0, 0))), (2, .inr (.inr (1, 87)))], [], 119, pm_RF, r1407.2)) rfl ?_
          refine R_pk [0, 1, 2, 3] rfl ?_
          exact ih_ (i_ad y3 6) r1407.2
        · exact R_none
      refine R_cs (fun z_ => (33, [(0, .inr (.inr (30, 0))), (1, .inr (.inr (0, 0))), (2, .inr (.inr (1, 87))), (3, .inl y3)], [.inl z_], 119, pm_RF, M)) ?_ (fun h1449 => ?_)
      · refine R_swk ho rfl (by decide) rfl (tgt := 745) rfl (by decide +kernel) ?_
        refine R_st ho 1 (q' := (746, [(0, .inr (.inr (30, 0))), (1, .inr (.inr (0, 0))), (2, .inr (.inr (1, 87))), (3, .inl y3)], [.inr (.inr (0, 0))], 119, pm_RF, M)) rfl ?_
        refine R_callV ho mv_X_forget lk_13_97 rfl (As := []) (kd := 0) (a := 0) (st := []) rfl rfl (Nat.le_of_ble_eq_true rfl) rfl (by decide) (Nat.le_of_ble_eq_true rfl) (ok_X_forget G  M ) (fun r1408 => ?_)
        show pm_R _ _ _ (749, [(0, .inr (.inr (30, 0))), (1, .inr (.inr (0, 0))), (2, .inr (.inr (1, 87))), (3, .inl y3)], [.inl r1408.1], 119, pm_RF, r1408.2) _ _
        refine R_st ho 1 (q' := (750, [(0, .inr (.inr (30, 0))), (1, .inr (.inr (0, 0))), (2, .inr (.inr (1, 87))), (3, .inl y3)], [.inr (.inr (1, 87)), .inl r1408.1], 119, pm_RF, r1408.2)) rfl ?_
        refine R_callV ho mv_Q_forget lk_13_100 rfl (As := []) (kd := 1) (a := 87) (st := [.inl r1408.1]) rfl rfl (Nat.le_of_ble_eq_true rfl) rfl (by decide) (Nat.le_of_ble_eq_true rfl) (ok_Q_forget G  r1408.2 ) (fun r1409 => ?_)
        show pm_R _ _ _ (753, [(0, .inr (.inr (30, 0))), (1, .inr (.inr (0, 0))), (2, .inr (.inr (1, 87))), (3, .inl y3)], [.inl r1409.1, .inl r1408.1], 119, pm_RF, r1409.2) _ _
        refine R_ic ho rfl (tgt := 1018) rfl ?_
        refine R_eq ?_ ?_
        · refine R_st ho 2 (q' := (18, [(3, .inl (i_ad y3 6)), (0, .inr (.inr (30, 0))), (1, .inr (.inr (0, 0))), (2, .inr (.inr (1, 87)))], [], 119, pm_RF, r1409.2)) rfl ?_
          refine R_pk [0, 1, 2, 3] rfl ?_
          exact ih_ (i_ad y3 6) r1409.2
        · exact R_none
      refine R_cs (fun z_ => (33, [(0, .inr (.inr (30, 0))), (1, .inr (.inr (0, 0))), (2, .inr (.inr (1, 87))), (3, .inl y3)], [.inl z_], 119, pm_RF, M)) ?_ (fun h1450 => ?_)
      · refine R_swk ho rfl (by decide) rfl (tgt := 758) rfl (by decide +kernel) ?_
        refine R_st ho 1 (q' := (759, [(0, .inr (.inr (30, 0))), (1, .inr (.inr (0, 0))), (2, .inr (.inr (1, 87))), (3, .inl y3)], [.inr (.inr (0, 0))], 119, pm_RF, M)) rfl ?_
        refine R_callV ho mv_X_fewest lk_13_101 rfl (As := []) (kd := 0) (a := 0) (st := []) rfl rfl (Nat.le_of_ble_eq_true rfl) rfl (by decide) (Nat.le_of_ble_eq_true rfl) (ok_X_fewest G  M ) (fun r1410 => ?_)
        show pm_R _ _ _ (762, [(0, .inr (.inr (30, 0))), (1, .inr (.inr (0, 0))), (2, .inr (.inr (1, 87))), (3, .inl y3)], [.inl r1410.1], 119, pm_RF, r1410.2) _ _
        refine R_st ho 1 (q' := (763, [(0, .inr (.inr (30, 0))), (1, .inr (.inr (0, 0))), (2, .inr (.inr (1, 87))), (3, .inl y3)], [.inr (.inr (1, 87)), .inl r1410.1], 119, pm_RF, r1410.2)) rfl ?_
        refine R_callV ho mv_Q_fewest lk_13_104 rfl (As := []) (kd := 1) (a := 87) (st := [.inl r1410.1]) rfl rfl (Nat.le_of_ble_eq_true rfl) rfl (by decide) (Nat.le_of_ble_eq_true rfl) (ok_Q_fewest G  r1410.2 ) (fun r1411 => ?_)
        show pm_R _ _ _ (766, [(0, .inr (.inr (30, 0))), (1, .inr (.inr (0, 0))), (2, .inr (.inr (1, 87))), (3, .inl y3)], [.inl r1411.1, .inl r1410.1], 119, pm_RF, r1411.2) _ _
        refine R_ic ho rfl (tgt := 1018) rfl ?_
        refine R_eq ?_ ?_
        · refine R_st ho 2 (q' := (18, [(3, .inl (i_ad y3 6)), (0, .inr (.inr (30, 0))), (1, .inr (.inr (0, 0))), (2, .inr (.inr (1, 87)))], [], 119, pm_RF, r1411.2)) rfl ?_
          refine R_pk [0, 1, 2, 3] rfl ?_
          exact ih_ (i_ad y3 6) r1411.2
        · exact R_none
      refine R_cs (fun z_ => (33, [(0, .inr (.inr (30, 0))), (1, .inr (.inr (0, 0))), (2, .inr (.inr (1, 87))), (3, .inl y3)], [.inl z_], 119, pm_RF, M)) ?_ (fun h1451 => ?_)
      · refine R_swk ho rfl (by decide) rfl (tgt := 771) rfl (by decide +kernel) ?_
        refine R_st ho 5 (q' := (776, [(0, .inr (.inr (30, 0))), (1, .inr (.inr (0, 0))), (2, .inr (.inr (1, 87))), (3, .inl y3)], [.inl (i_ad y3 1), .inr (.inr (30, 0)), .inr (.inr (0, 0))], 119, pm_RF, M)) rfl ?_
        refine R_sald ho rfl rfl ?_
        refine R_st ho 4 (q' := (781, [(0, .inr (.inr (30, 0))), (1, .inr (.inr (0, 0))), (2, .inr (.inr (1, 87))), (3, .inl y3)], [.inl (i_ad y3 2), .inr (.inr (30, 0)), .inl (g_sx G ((i_ad y3 1)).toNat), .inr (.inr (0, 0))], 119, pm_RF, M)) rfl ?_
        refine R_sald ho rfl rfl ?_
        refine R_callV ho mv_X_who lk_13_105 rfl (As := [.inl (g_sx G ((i_ad y3 1)).toNat), .inl (g_sx G ((i_ad y3 2)).toNat)]) (kd := 0) (a := 0) (st := []) rfl rfl (Nat.le_of_ble_eq_true rfl) rfl (by decide) (Nat.le_of_ble_eq_true rfl) (ok_X_who G (g_sx G ((i_ad y3 1)).toNat) (g_sx G ((i_ad y3 2)).toNat) M ) (fun r1412 => ?_)
        show pm_R _ _ _ (785, [(0, .inr (.inr (30, 0))), (1, .inr (.inr (0, 0))), (2, .inr (.inr (1, 87))), (3, .inl y3)], [.inl r1412.1], 119, pm_RF, r1412.2) _ _
        refine R_st ho 5 (q' := (790, [(0, .inr (.inr (30, 0))), (1, .inr (.inr (0, 0))), (2, .inr (.inr (1, 87))), (3, .inl y3)], [.inl (i_ad y3 1), .inr (.inr (30, 0)), .inr (.inr (1, 87)), .inl r1412.1], 119, pm_RF, r1412.2)) rfl ?_
        refine R_sald ho rfl rfl ?_
        refine R_st ho 4 (q' := (795, [(0, .inr (.inr (30, 0))), (1, .inr (.inr (0, 0))), (2, .inr (.inr (1, 87))), (3, .inl y3)], [.inl (i_ad y3 2), .inr (.inr (30, 0)), .inl (g_sx G ((i_ad y3 1)).toNat), .inr (.inr (1, 87)), .inl r1412.1], 119, pm_RF, r1412.2)) rfl ?_
        refine R_sald ho rfl rfl ?_
        refine R_callV ho mv_Q_who lk_13_108 rfl (As := [.inl (g_sx G ((i_ad y3 1)).toNat), .inl (g_sx G ((i_ad y3 2)).toNat)]) (kd := 1) (a := 87) (st := [.inl r1412.1]) rfl rfl (Nat.le_of_ble_eq_true rfl) rfl (by decide) (Nat.le_of_ble_eq_true rfl) (ok_Q_who G (g_sx G ((i_ad y3 1)).toNat) (g_sx G ((i_ad y3 2)).toNat) r1412.2 ) (fun r1413 => ?_)
        show pm_R _ _ _ (799, [(0, .inr (.inr (30, 0))), (1, .inr (.inr (0, 0))), (2, .inr (.inr (1, 87))), (3, .inl y3)], [.inl r1413.1, .inl r1412.1], 119, pm_RF, r1413.2) _ _
        refine R_ic ho rfl (tgt := 1018) rfl ?_
        refine R_eq ?_ ?_
        · refine R_st ho 2 (q' := (18, [(3, .inl (i_ad y3 6)), (0, .inr (.inr (30, 0))), (1, .inr (.inr (0, 0))), (2, .inr (.inr (1, 87)))], [], 119, pm_RF, r1413.2)) rfl ?_
          refine R_pk [0, 1, 2, 3] rfl ?_
          exact ih_ (i_ad y3 6) r1413.2
        · exact R_none
      refine R_cs (fun z_ => (33, [(0, .inr (.inr (30, 0))), (1, .inr (.inr (0, 0))), (2, .inr (.inr (1, 87))), (3, .inl y3)], [.inl z_], 119, pm_RF, M)) ?_ (fun h1452 => ?_)
      · refine R_swk ho rfl (by decide) rfl (tgt := 804) rfl (by decide +kernel) ?_
        refine R_st ho 5 (q' := (809, [(0, .inr (.inr (30, 0))), (1, .inr (.inr (0, 0))), (2, .inr (.inr (1, 87))), (3, .inl y3)], [.inl (i_ad y3 1), .inr (.inr (30, 0)), .inr (.inr (0, 0))], 119, pm_RF, M)) rfl ?_
        refine R_sald ho rfl rfl ?_
        refine R_st ho 4 (q' := (814, [(0, .inr (.inr (30, 0))), (1, .inr (.inr (0, 0))), (2, .inr (.inr (1, 87))), (3, .inl y3)], [.inl (i_ad y3 2), .inr (.inr (30, 0)), .inl (g_sx G ((i_ad y3 1)).toNat), .inr (.inr (0, 0))], 119, pm_RF, M)) rfl ?_
        refine R_sald ho rfl rfl ?_
        refine R_callV ho mv_X_stood lk_13_109 rfl (As := [.inl (g_sx G ((i_ad y3 1)).toNat), .inl (g_sx G ((i_ad y3 2)).toNat)]) (kd := 0) (a := 0) (st := []) rfl rfl (Nat.le_of_ble_eq_true rfl) rfl (by decide) (Nat.le_of_ble_eq_true rfl) (ok_X_stood G (g_sx G ((i_ad y3 1)).toNat) (g_sx G ((i_ad y3 2)).toNat) M ) (fun r1414 => ?_)
        show pm_R _ _ _ (818, [(0, .inr (.inr (30, 0))), (1, .inr (.inr (0, 0))), (2, .inr (.inr (1, 87))), (3, .inl y3)], [.inl r1414], 119, pm_RF, M) _ _
        refine R_st ho 5 (q' := (823, [(0, .inr (.inr (30, 0))), (1, .inr (.inr (0, 0))), (2, .inr (.inr (1, 87))), (3, .inl y3)], [.inl (i_ad y3 1), .inr (.inr (30, 0)), .inr (.inr (1, 87)), .inl r1414], 119, pm_RF, M)) rfl ?_
        refine R_sald ho rfl rfl ?_
        refine R_st ho 4 (q' := (828, [(0, .inr (.inr (30, 0))), (1, .inr (.inr (0, 0))), (2, .inr (.inr (1, 87))), (3, .inl y3)], [.inl (i_ad y3 2), .inr (.inr (30, 0)), .inl (g_sx G ((i_ad y3 1)).toNat), .inr (.inr (1, 87)), .inl r1414], 119, pm_RF, M)) rfl ?_
        refine R_sald ho rfl rfl ?_
        refine R_callV ho mv_Q_stood lk_13_112 rfl (As := [.inl (g_sx G ((i_ad y3 1)).toNat), .inl (g_sx G ((i_ad y3 2)).toNat)]) (kd := 1) (a := 87) (st := [.inl r1414]) rfl rfl (Nat.le_of_ble_eq_true rfl) rfl (by decide) (Nat.le_of_ble_eq_true rfl) (ok_Q_stood G (g_sx G ((i_ad y3 1)).toNat) (g_sx G ((i_ad y3 2)).toNat) M ) (fun r1415 => ?_)
        show pm_R _ _ _ (832, [(0, .inr (.inr (30, 0))), (1, .inr (.inr (0, 0))), (2, .inr (.inr (1, 87))), (3, .inl y3)], [.inl r1415, .inl r1414], 119, pm_RF, M) _ _
        refine R_ic ho rfl (tgt := 1018) rfl ?_
        refine R_eq ?_ ?_
        · refine R_st ho 2 (q' := (18, [(3, .inl (i_ad y3 6)), (0, .inr (.inr (30, 0))), (1, .inr (.inr (0, 0))), (2, .inr (.inr (1, 87)))], [], 119, pm_RF, M)) rfl ?_
          refine R_pk [0, 1, 2, 3] rfl ?_
          exact ih_ (i_ad y3 6) M
        · exact R_none
      refine R_cs (fun z_ => (33, [(0, .inr (.inr (30, 0))), (1, .inr (.inr (0, 0))), (2, .inr (.inr (1, 87))), (3, .inl y3)], [.inl z_], 119, pm_RF, M)) ?_ (fun h1453 => ?_)
      · refine R_swk ho rfl (by decide) rfl (tgt := 837) rfl (by decide +kernel) ?_
        refine R_st ho 5 (q' := (842, [(0, .inr (.inr (30, 0))), (1, .inr (.inr (0, 0))), (2, .inr (.inr (1, 87))), (3, .inl y3)], [.inl (i_ad y3 1), .inr (.inr (30, 0)), .inr (.inr (0, 0))], 119, pm_RF, M)) rfl ?_
        refine R_sald ho rfl rfl ?_
        refine R_callV ho mv_X_longest lk_13_113 rfl (As := [.inl (g_sx G ((i_ad y3 1)).toNat)]) (kd := 0) (a := 0) (st := []) rfl rfl (Nat.le_of_ble_eq_true rfl) rfl (by decide) (Nat.le_of_ble_eq_true rfl) (ok_X_longest G (g_sx G ((i_ad y3 1)).toNat) M ) (fun r1416 => ?_)
        show pm_R _ _ _ (846, [(0, .inr (.inr (30, 0))), (1, .inr (.inr (0, 0))), (2, .inr (.inr (1, 87))), (3, .inl y3)], [.inl r1416], 119, pm_RF, M) _ _
        refine R_st ho 5 (q' := (851, [(0, .inr (.inr (30, 0))), (1, .inr (.inr (0, 0))), (2, .inr (.inr (1, 87))), (3, .inl y3)], [.inl (i_ad y3 1), .inr (.inr (30, 0)), .inr (.inr (1, 87)), .inl r1416], 119, pm_RF, M)) rfl ?_
        refine R_sald ho rfl rfl ?_
        refine R_callV ho mv_Q_longest lk_13_116 rfl (As := [.inl (g_sx G ((i_ad y3 1)).toNat)]) (kd := 1) (a := 87) (st := [.inl r1416]) rfl rfl (Nat.le_of_ble_eq_true rfl) rfl (by decide) (Nat.le_of_ble_eq_true rfl) (ok_Q_longest G (g_sx G ((i_ad y3 1)).toNat) M ) (fun r1417 => ?_)
        show pm_R _ _ _ (855, [(0, .inr (.inr (30, 0))), (1, .inr (.inr (0, 0))), (2, .inr (.inr (1, 87))), (3, .inl y3)], [.inl r1417, .inl r1416], 119, pm_RF, M) _ _
        refine R_ic ho rfl (tgt := 1018) rfl ?_
        refine R_eq ?_ ?_
        · refine R_st ho 2 (q' := (18, [(3, .inl (i_ad y3 6)), (0, .inr (.inr (30, 0))), (1, .inr (.inr (0, 0))), (2, .inr (.inr (1, 87)))], [], 119, pm_RF, M)) rfl ?_
          refine R_pk [0, 1, 2, 3] rfl ?_
          exact ih_ (i_ad y3 6) M
        · exact R_none
      refine R_cs (fun z_ => (33, [(0, .inr (.inr (30, 0))), (1, .inr (.inr (0, 0))), (2, .inr (.inr (1, 87))), (3, .inl y3)], [.inl z_], 119, pm_RF, M)) ?_ (fun h1454 => ?_)
      · refine R_swk ho rfl (by decide) rfl (tgt := 860) rfl (by decide +kernel) ?_
        refine R_st ho 5 (q' := (865, [(0, .inr (.inr (30, 0))), (1, .inr (.inr (0, 0))), (2, .inr (.inr (1, 87))), (3, .inl y3)], [.inl (i_ad y3 1), .inr (.inr (30, 0)), .inr (.inr (0, 0))], 119, pm_RF, M)) rfl ?_
        refine R_sald ho rfl rfl ?_
        refine R_st ho 4 (q' := (870, [(0, .inr (.inr (30, 0))), (1, .inr (.inr (0, 0))), (2, .inr (.inr (1, 87))), (3, .inl y3)], [.inl (i_ad y3 2), .inr (.inr (30, 0)), .inl (g_sx G ((i_ad y3 1)).toNat), .inr (.inr (0, 0))], 119, pm_RF, M)) rfl ?_
        refine R_sald ho rfl rfl ?_
        refine R_st ho 4 (q' := (875, [(0, .inr (.inr (30, 0))), (1, .inr (.inr (0, 0))), (2, .inr (.inr (1, 87))), (3, .inl y3)], [.inl (i_ad y3 3), .inr (.inr (30, 0)), .inl (g_sx G ((i_ad y3 2)).toNat), .inl (g_sx G ((i_ad y3 1)).toNat), .inr (.inr (0, 0))], 119, pm_RF, M)) rfl ?_
        refine R_sald ho rfl rfl ?_
        refine R_callV ho mv_X_tour lk_13_117 rfl (As := [.inl (g_sx G ((i_ad y3 1)).toNat), .inl (g_sx G ((i_ad y3 2)).toNat), .inl (g_sx G ((i_ad y3 3)).toNat)]) (kd := 0) (a := 0) (st := []) rfl rfl (Nat.le_of_ble_eq_true rfl) rfl (by decide) (Nat.le_of_ble_eq_true rfl) (ok_X_tour G (g_sx G ((i_ad y3 1)).toNat) (g_sx G ((i_ad y3 2)).toNat) (g_sx G ((i_ad y3 3)).toNat) M ) (fun r1418 => ?_)
        show pm_R _ _ _ (879, [(0, .inr (.inr (30, 0))), (1, .inr (.inr (0, 0))), (2, .inr (.inr (1, 87))), (3, .inl y3)], [.inl r1418.1], 119, pm_RF, r1418.2) _ _
        refine R_st ho 5 (q' := (884, [(0, .inr (.inr (30, 0))), (1, .inr (.inr (0, 0))), (2, .inr (.inr (1, 87))), (3, .inl y3)], [.inl (i_ad y3 1), .inr (.inr (30, 0)), .inr (.inr (1, 87)), .inl r1418.1], 119, pm_RF, r1418.2)) rfl ?_
        refine R_sald ho rfl rfl ?_
        refine R_st ho 4 (q' := (889, [(0, .inr (.inr (30, 0))), (1, .inr (.inr (0, 0))), (2, .inr (.inr (1, 87))), (3, .inl y3)], [.inl (i_ad y3 2), .inr (.inr (30, 0)), .inl (g_sx G ((i_ad y3 1)).toNat), .inr (.inr (1, 87)), .inl r1418.1], 119, pm_RF, r1418.2)) rfl ?_
        refine R_sald ho rfl rfl ?_
        refine R_st ho 4 (q' := (894, [(0, .inr (.inr (30, 0))), (1, .inr (.inr (0, 0))), (2, .inr (.inr (1, 87))), (3, .inl y3)], [.inl (i_ad y3 3), .inr (.inr (30, 0)), .inl (g_sx G ((i_ad y3 2)).toNat), .inl (g_sx G ((i_ad y3 1)).toNat), .inr (.inr (1, 87)), .inl r1418.1], 119, pm_RF, r1418.2)) rfl ?_
        refine R_sald ho rfl rfl ?_
        refine R_callV ho mv_Q_tour lk_13_120 rfl (As := [.inl (g_sx G ((i_ad y3 1)).toNat), .inl (g_sx G ((i_ad y3 2)).toNat), .inl (g_sx G ((i_ad y3 3)).toNat)]) (kd := 1) (a := 87) (st := [.inl r1418.1]) rfl rfl (Nat.le_of_ble_eq_true rfl) rfl (by decide) (Nat.le_of_ble_eq_true rfl) (ok_Q_tour G (g_sx G ((i_ad y3 1)).toNat) (g_sx G ((i_ad y3 2)).toNat) (g_sx G ((i_ad y3 3)).toNat) r1418.2 ) (fun r1419 => ?_)
        show pm_R _ _ _ (898, [(0, .inr (.inr (30, 0))), (1, .inr (.inr (0, 0))), (2, .inr (.inr (1, 87))), (3, .inl y3)], [.inl r1419.1, .inl r1418.1], 119, pm_RF, r1419.2) _ _
        refine R_ic ho rfl (tgt := 1018) rfl ?_
        refine R_eq ?_ ?_
        · refine R_st ho 2 (q' := (18, [(3, .inl (i_ad y3 6)), (0, .inr (.inr (30, 0))), (1, .inr (.inr (0, 0))), (2, .inr (.inr (1, 87)))], [], 119, pm_RF, r1419.2)) rfl ?_
          refine R_pk [0, 1, 2, 3] rfl ?_
          exact ih_ (i_ad y3 6) r1419.2
        · exact R_none
      refine R_cs (fun z_ => (33, [(0, .inr (.inr (30, 0))), (1, .inr (.inr (0, 0))), (2, .inr (.inr (1, 87))), (3, .inl y3)], [.inl z_], 119, pm_RF, M)) ?_ (fun h1455 => ?_)
      · refine R_swk ho rfl (by decide) rfl (tgt := 903) rfl (by decide +kernel) ?_
        refine R_st ho 5 (q' := (908, [(0, .inr (.inr (30, 0))), (1, .inr (.inr (0, 0))), (2, .inr (.inr (1, 87))), (3, .inl y3)], [.inl (i_ad y3 1), .inr (.inr (30, 0)), .inr (.inr (0, 0))], 119, pm_RF, M)) rfl ?_
        refine R_sald ho rfl rfl ?_
        refine R_st ho 4 (q' := (913, [(0, .inr (.inr (30, 0))), (1, .inr (.inr (0, 0))), (2, .inr (.inr (1, 87))), (3, .inl y3)], [.inl (i_ad y3 2), .inr (.inr (30, 0)), .inl (g_sx G ((i_ad y3 1)).toNat), .inr (.inr (0, 0))], 119, pm_RF, M)) rfl ?_
        refine R_sald ho rfl rfl ?_
        refine R_callV ho mv_X_rounds lk_13_121 rfl (As := [.inl (g_sx G ((i_ad y3 1)).toNat), .inl (g_sx G ((i_ad y3 2)).toNat)]) (kd := 0) (a := 0) (st := []) rfl rfl (Nat.le_of_ble_eq_true rfl) rfl (by decide) (Nat.le_of_ble_eq_true rfl) (ok_X_rounds G (g_sx G ((i_ad y3 1)).toNat) (g_sx G ((i_ad y3 2)).toNat) M ) (fun r1420 => ?_)
        show pm_R _ _ _ (917, [(0, .inr (.inr (30, 0))), (1, .inr (.inr (0, 0))), (2, .inr (.inr (1, 87))), (3, .inl y3)], [.inl r1420.1], 119, pm_RF, r1420.2) _ _
        refine R_st ho 5 (q' := (922, [(0, .inr (.inr (30, 0))), (1, .inr (.inr (0, 0))), (2, .inr (.inr (1, 87))), (3, .inl y3)], [.inl (i_ad y3 1), .inr (.inr (30, 0)), .inr (.inr (1, 87)), .inl r1420.1], 119, pm_RF, r1420.2)) rfl ?_
        refine R_sald ho rfl rfl ?_
        refine R_st ho 4 (q' := (927, [(0, .inr (.inr (30, 0))), (1, .inr (.inr (0, 0))), (2, .inr (.inr (1, 87))), (3, .inl y3)], [.inl (i_ad y3 2), .inr (.inr (30, 0)), .inl (g_sx G ((i_ad y3 1)).toNat), .inr (.inr (1, 87)), .inl r1420.1], 119, pm_RF, r1420.2)) rfl ?_
        refine R_sald ho rfl rfl ?_
        refine R_callV ho mv_Q_rounds lk_13_124 rfl (As := [.inl (g_sx G ((i_ad y3 1)).toNat), .inl (g_sx G ((i_ad y3 2)).toNat)]) (kd := 1) (a := 87) (st := [.inl r1420.1]) rfl rfl (Nat.le_of_ble_eq_true rfl) rfl (by decide) (Nat.le_of_ble_eq_true rfl) (ok_Q_rounds G (g_sx G ((i_ad y3 1)).toNat) (g_sx G ((i_ad y3 2)).toNat) r1420.2 ) (fun r1421 => ?_)
        show pm_R _ _ _ (931, [(0, .inr (.inr (30, 0))), (1, .inr (.inr (0, 0))), (2, .inr (.inr (1, 87))), (3, .inl y3)], [.inl r1421.1, .inl r1420.1], 119, pm_RF, r1421.2) _ _
        refine R_ic ho rfl (tgt := 1018) rfl ?_
        refine R_eq ?_ ?_
        · refine R_st ho 2 (q' := (18, [(3, .inl (i_ad y3 6)), (0, .inr (.inr (30, 0))), (1, .inr (.inr (0, 0))), (2, .inr (.inr (1, 87)))], [], 119, pm_RF, r1421.2)) rfl ?_
          refine R_pk [0, 1, 2, 3] rfl ?_
          exact ih_ (i_ad y3 6) r1421.2
        · exact R_none
      refine R_cs (fun z_ => (33, [(0, .inr (.inr (30, 0))), (1, .inr (.inr (0, 0))), (2, .inr (.inr (1, 87))), (3, .inl y3)], [.inl z_], 119, pm_RF, M)) ?_ (fun h1456 => ?_)
      · refine R_swk ho rfl (by decide) rfl (tgt := 936) rfl (by decide +kernel) ?_
        refine R_st ho 5 (q' := (941, [(0, .inr (.inr (30, 0))), (1, .inr (.inr (0, 0))), (2, .inr (.inr (1, 87))), (3, .inl y3)], [.inl (i_ad y3 1), .inr (.inr (30, 0)), .inr (.inr (0, 0))], 119, pm_RF, M)) rfl ?_
        refine R_sald ho rfl rfl ?_
        refine R_st ho 4 (q' := (946, [(0, .inr (.inr (30, 0))), (1, .inr (.inr (0, 0))), (2, .inr (.inr (1, 87))), (3, .inl y3)], [.inl (i_ad y3 2), .inr (.inr (30, 0)), .inl (g_sx G ((i_ad y3 1)).toNat), .inr (.inr (0, 0))], 119, pm_RF, M)) rfl ?_
        refine R_sald ho rfl rfl ?_
        refine R_callV ho mv_X_revolution lk_13_125 rfl (As := [.inl (g_sx G ((i_ad y3 1)).toNat), .inl (g_sx G ((i_ad y3 2)).toNat)]) (kd := 0) (a := 0) (st := []) rfl rfl (Nat.le_of_ble_eq_true rfl) rfl (by decide) (Nat.le_of_ble_eq_true rfl) (ok_X_revolution G (g_sx G ((i_ad y3 1)).toNat) (g_sx G ((i_ad y3 2)).toNat) M ) (fun r1422 => ?_)
        show pm_R _ _ _ (950, [(0, .inr (.inr (30, 0))), (1, .inr (.inr (0, 0))), (2, .inr (.inr (1, 87))), (3, .inl y3)], [.inl r1422.1], 119, pm_RF, r1422.2) _ _
        refine R_st ho 5 (q' := (955, [(0, .inr (.inr (30, 0))), (1, .inr (.inr (0, 0))), (2, .inr (.inr (1, 87))), (3, .inl y3)], [.inl (i_ad y3 1), .inr (.inr (30, 0)), .inr (.inr (1, 87)), .inl r1422.1], 119, pm_RF, r1422.2)) rfl ?_
        refine R_sald ho rfl rfl ?_
        refine R_st ho 4 (q' := (960, [(0, .inr (.inr (30, 0))), (1, .inr (.inr (0, 0))), (2, .inr (.inr (1, 87))), (3, .inl y3)], [.inl (i_ad y3 2), .inr (.inr (30, 0)), .inl (g_sx G ((i_ad y3 1)).toNat), .inr (.inr (1, 87)), .inl r1422.1], 119, pm_RF, r1422.2)) rfl ?_
        refine R_sald ho rfl rfl ?_
        refine R_callV ho mv_Q_revolution lk_13_128 rfl (As := [.inl (g_sx G ((i_ad y3 1)).toNat), .inl (g_sx G ((i_ad y3 2)).toNat)]) (kd := 1) (a := 87) (st := [.inl r1422.1]) rfl rfl (Nat.le_of_ble_eq_true rfl) rfl (by decide) (Nat.le_of_ble_eq_true rfl) (ok_Q_revolution G (g_sx G ((i_ad y3 1)).toNat) (g_sx G ((i_ad y3 2)).toNat) r1422.2 ) (fun r1423 => ?_)
        show pm_R _ _ _ (964, [(0, .inr (.inr (30, 0))), (1, .inr (.inr (0, 0))), (2, .inr (.inr (1, 87))), (3, .inl y3)], [.inl r1423.1, .inl r1422.1], 119, pm_RF, r1423.2) _ _
        refine R_ic ho rfl (tgt := 1018) rfl ?_
        refine R_eq ?_ ?_
        · refine R_st ho 2 (q' := (18, [(3, .inl (i_ad y3 6)), (0, .inr (.inr (30, 0))), (1, .inr (.inr (0, 0))), (2, .inr (.inr (1, 87)))], [], 119, pm_RF, r1423.2)) rfl ?_
          refine R_pk [0, 1, 2, 3] rfl ?_
          exact ih_ (i_ad y3 6) r1423.2
        · exact R_none
      refine R_cs (fun z_ => (33, [(0, .inr (.inr (30, 0))), (1, .inr (.inr (0, 0))), (2, .inr (.inr (1, 87))), (3, .inl y3)], [.inl z_], 119, pm_RF, M)) ?_ (fun h1457 => ?_)
      · refine R_swk ho rfl (by decide) rfl (tgt := 969) rfl (by decide +kernel) ?_
        refine R_st ho 1 (q' := (970, [(0, .inr (.inr (30, 0))), (1, .inr (.inr (0, 0))), (2, .inr (.inr (1, 87))), (3, .inl y3)], [.inr (.inr (0, 0))], 119, pm_RF, M)) rfl ?_
        refine R_callV ho mv_X_image lk_13_129 rfl (As := []) (kd := 0) (a := 0) (st := []) rfl rfl (Nat.le_of_ble_eq_true rfl) rfl (by decide) (Nat.le_of_ble_eq_true rfl) (ok_X_image G  M ) (fun r1424 => ?_)
        show pm_R _ _ _ (973, [(0, .inr (.inr (30, 0))), (1, .inr (.inr (0, 0))), (2, .inr (.inr (1, 87))), (3, .inl y3)], [.inl r1424.1], 119, pm_RF, r1424.2) _ _
        refine R_st ho 1 (q' := (974, [(0, .inr (.inr (30, 0))), (1, .inr (.inr (0, 0))), (2, .inr (.inr (1, 87))), (3, .inl y3)], [.inr (.inr (1, 87)), .inl r1424.1], 119, pm_RF, r1424.2)) rfl ?_
        refine R_callV ho mv_Q_image lk_13_132 rfl (As := []) (kd := 1) (a := 87) (st := [.inl r1424.1]) rfl rfl (Nat.le_of_ble_eq_true rfl) rfl (by decide) (Nat.le_of_ble_eq_true rfl) (ok_Q_image G  r1424.2 ) (fun r1425 => ?_)
        show pm_R _ _ _ (977, [(0, .inr (.inr (30, 0))), (1, .inr (.inr (0, 0))), (2, .inr (.inr (1, 87))), (3, .inl y3)], [.inl r1425.1, .inl r1424.1], 119, pm_RF, r1425.2) _ _
        refine R_ic ho rfl (tgt := 1018) rfl ?_
        refine R_eq ?_ ?_
        · refine R_st ho 2 (q' := (18, [(3, .inl (i_ad y3 6)), (0, .inr (.inr (30, 0))), (1, .inr (.inr (0, 0))), (2, .inr (.inr (1, 87)))], [], 119, pm_RF, r1425.2)) rfl ?_
          refine R_pk [0, 1, 2, 3] rfl ?_
          exact ih_ (i_ad y3 6) r1425.2
        · exact R_none
      refine R_cs (fun z_ => (33, [(0, .inr (.inr (30, 0))), (1, .inr (.inr (0, 0))), (2, .inr (.inr (1, 87))), (3, .inl y3)], [.inl z_], 119, pm_RF, M)) ?_ (fun h1458 => ?_)
      · refine R_swk ho rfl (by decide) rfl (tgt := 982) rfl (by decide +kernel) ?_
        refine R_st ho 1 (q' := (983, [(0, .inr (.inr (30, 0))), (1, .inr (.inr (0, 0))), (2, .inr (.inr (1, 87))), (3, .inl y3)], [.inr (.inr (0, 0))], 119, pm_RF, M)) rfl ?_
        refine R_callV ho mv_X_back lk_13_133 rfl (As := []) (kd := 0) (a := 0) (st := []) rfl rfl (Nat.le_of_ble_eq_true rfl) rfl (by decide) (Nat.le_of_ble_eq_true rfl) (ok_X_back G  M ) (fun r1426 => ?_)
        show pm_R _ _ _ (986, [(0, .inr (.inr (30, 0))), (1, .inr (.inr (0, 0))), (2, .inr (.inr (1, 87))), (3, .inl y3)], [.inl r1426.1], 119, pm_RF, r1426.2) _ _
        refine R_st ho 1 (q' := (987, [(0, .inr (.inr (30, 0))), (1, .inr (.inr (0, 0))), (2, .inr (.inr (1, 87))), (3, .inl y3)], [.inr (.inr (1, 87)), .inl r1426.1], 119, pm_RF, r1426.2)) rfl ?_
        refine R_callV ho mv_Q_back lk_13_136 rfl (As := []) (kd := 1) (a := 87) (st := [.inl r1426.1]) rfl rfl (Nat.le_of_ble_eq_true rfl) rfl (by decide) (Nat.le_of_ble_eq_true rfl) (ok_Q_back G  r1426.2 ) (fun r1427 => ?_)
        show pm_R _ _ _ (990, [(0, .inr (.inr (30, 0))), (1, .inr (.inr (0, 0))), (2, .inr (.inr (1, 87))), (3, .inl y3)], [.inl r1427.1, .inl r1426.1], 119, pm_RF, r1427.2) _ _
        refine R_ic ho rfl (tgt := 1018) rfl ?_
        refine R_eq ?_ ?_
        · refine R_st ho 2 (q' := (18, [(3, .inl (i_ad y3 6)), (0, .inr (.inr (30, 0))), (1, .inr (.inr (0, 0))), (2, .inr (.inr (1, 87)))], [], 119, pm_RF, r1427.2)) rfl ?_
          refine R_pk [0, 1, 2, 3] rfl ?_
          exact ih_ (i_ad y3 6) r1427.2
        · exact R_none
      refine R_cs (fun z_ => (33, [(0, .inr (.inr (30, 0))), (1, .inr (.inr (0, 0))), (2, .inr (.inr (1, 87))), (3, .inl y3)], [.inl z_], 119, pm_RF, M)) ?_ (fun h1459 => ?_)
      · refine R_swk ho rfl (by decide) rfl (tgt := 995) rfl (by decide +kernel) ?_
        refine R_st ho 5 (q' := (1000, [(0, .inr (.inr (30, 0))), (1, .inr (.inr (0, 0))), (2, .inr (.inr (1, 87))), (3, .inl y3)], [.inl (i_ad y3 1), .inr (.inr (30, 0)), .inr (.inr (0, 0))], 119, pm_RF, M)) rfl ?_
        refine R_sald ho rfl rfl ?_
        refine R_callV ho mv_X_about lk_13_137 rfl (As := [.inl (g_sx G ((i_ad y3 1)).toNat)]) (kd := 0) (a := 0) (st := []) rfl rfl (Nat.le_of_ble_eq_true rfl) rfl (by decide) (Nat.le_of_ble_eq_true rfl) (ok_X_about G (g_sx G ((i_ad y3 1)).toNat) M ) (fun r1428 => ?_)
        show pm_R _ _ _ (1004, [(0, .inr (.inr (30, 0))), (1, .inr (.inr (0, 0))), (2, .inr (.inr (1, 87))), (3, .inl y3)], [.inl r1428], 119, pm_RF, M) _ _
        refine R_st ho 5 (q' := (1009, [(0, .inr (.inr (30, 0))), (1, .inr (.inr (0, 0))), (2, .inr (.inr (1, 87))), (3, .inl y3)], [.inl (i_ad y3 1), .inr (.inr (30, 0)), .inr (.inr (1, 87)), .inl r1428], 119, pm_RF, M)) rfl ?_
        refine R_sald ho rfl rfl ?_
        refine R_callV ho mv_Q_about lk_13_140 rfl (As := [.inl (g_sx G ((i_ad y3 1)).toNat)]) (kd := 1) (a := 87) (st := [.inl r1428]) rfl rfl (Nat.le_of_ble_eq_true rfl) rfl (by decide) (Nat.le_of_ble_eq_true rfl) (ok_Q_about G (g_sx G ((i_ad y3 1)).toNat) M ) (fun r1429 => ?_)
        show pm_R _ _ _ (1013, [(0, .inr (.inr (30, 0))), (1, .inr (.inr (0, 0))), (2, .inr (.inr (1, 87))), (3, .inl y3)], [.inl r1429, .inl r1428], 119, pm_RF, M) _ _
        refine R_ic ho rfl (tgt := 1018) rfl ?_
        refine R_eq ?_ ?_
        · refine R_st ho 2 (q' := (18, [(3, .inl (i_ad y3 6)), (0, .inr (.inr (30, 0))), (1, .inr (.inr (0, 0))), (2, .inr (.inr (1, 87)))], [], 119, pm_RF, M)) rfl ?_
          refine R_pk [0, 1, 2, 3] rfl ?_
          exact ih_ (i_ad y3 6) M
        · exact R_none
      refine R_swd ho rfl (by omega) rfl (by decide +kernel) ?_
      refine R_st ho 2 (q' := (18, [(3, .inl (i_ad y3 6)), (0, .inr (.inr (30, 0))), (1, .inr (.inr (0, 0))), (2, .inr (.inr (1, 87)))], [], 119, pm_RF, M)) rfl ?_
      refine R_pk [0, 1, 2, 3] rfl ?_
      exact ih_ (i_ad y3 6) M
