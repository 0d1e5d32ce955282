/-! printed by my own program: functions of the pure memory, and that the code follows them -/
theorem ok_Nights_headIn (G : pm_G) (x1 : Int) (x2 : Int) (M : pm_M)  : pm_R G mt_Nights_headIn 2 (0, [(0, .inr (.inr (5, 77))), (1, .inl x1), (2, .inl x2)], [], 119, pm_RF, M) (f_Nights_headIn x1 x2 M) (pm_Zr mt_Nights_headIn (pm_gi M)) := by
  have ho : pm_oG G mt_Nights_headIn := (oa_Nights_headIn).g G
  unfold f_Nights_headIn
  refine R_st ho 9 (q' := (13, [(0, .inr (.inr (5, 77))), (1, .inl x1), (2, .inl x2)], [.inl (i_ad (i_ml x1 5) x2), .inr (.inr (20, 78)), .inr (.inr (4, 35))], 119, pm_RF, M)) rfl ?_
  refine R_iald ho rfl rfl ?_
  refine R_callV ho mv_Moment_headAt lk_5_73 rfl (As := [.inl (M 78 ((i_ad (i_ml x1 5) x2)).toNat)]) (kd := 4) (a := 35) (st := []) rfl rfl (Nat.le_of_ble_eq_true rfl) rfl (by decide) (Nat.le_of_ble_eq_true rfl) (ok_Moment_headAt G (M 78 ((i_ad (i_ml x1 5) x2)).toNat) M ) (fun r468 => ?_)
  show pm_R _ _ _ (17, [(0, .inr (.inr (5, 77))), (1, .inl x1), (2, .inl x2)], [.inl r468], 119, pm_RF, M) _ _
  exact R_end (v := some (.inl r468)) rfl (Or.inl rfl) rfl rfl
theorem ok_Nights_looksAsNow_L2 (G : pm_G)   (M : pm_M) : ∀ (n_ : Nat) (y1 : Int) (y2 : Int), pm_R G mt_Nights_looksAsNow 3 (2, [(0, .inr (.inr (5, 77))), (1, .inl y1), (2, .inl y2)], [], 119, pm_RF, M) (f_Nights_looksAsNow_L2 M n_ y1 y2) (fun e_ q_ => match e_ with | .inl e_ => q_ = (59, [], [], 119, pm_RF, M) | .inr e_ => q_ = (67, [], [], 119, pm_RF, M)) := by
  have ho : pm_oG G mt_Nights_looksAsNow := (oa_Nights_looksAsNow).g G
  intro n_
  induction n_ with
  | zero => intro _ _; exact R_none
  | succ n_ ih_ =>
    intro y1 y2
    rw [f_Nights_looksAsNow_L2]
    refine R_st ho 2 (q' := (4, [(0, .inr (.inr (5, 77))), (1, .inl y1), (2, .inl y2)], [.inl 5, .inl y2], 119, pm_RF, M)) rfl ?_
    refine R_ic ho rfl (tgt := 67) rfl ?_
    refine R_ge ?_ ?_
    · refine R_pk [] rfl ?_
      exact R_ret rfl
    · refine R_st ho 7 (q' := (16, [(0, .inr (.inr (5, 77))), (1, .inl y1), (2, .inl y2)], [.inl (i_ad (i_ml y1 5) y2), .inr (.inr (20, 78))], 119, pm_RF, M)) rfl ?_
      refine R_iald ho rfl rfl ?_
      refine R_st ho 1 (q' := (18, [(0, .inr (.inr (5, 77))), (1, .inl y1), (2, .inl y2)], [.inl y2, .inl (M 78 ((i_ad (i_ml y1 5) y2)).toNat)], 119, pm_RF, M)) rfl ?_
      refine R_ic ho rfl (tgt := 25) rfl ?_
      refine R_ne ?_ ?_
      · refine R_st ho 7 (q' := (2, [(2, .inl (i_ad y2 1)), (3, .inl 1), (0, .inr (.inr (5, 77))), (1, .inl y1)], [], 119, pm_RF, M)) rfl ?_
        refine R_pk [0, 1, 2] rfl ?_
        exact ih_ y1 (i_ad y2 1)
      · refine R_st ho 7 (q' := (36, [(3, .inl 0), (0, .inr (.inr (5, 77))), (1, .inl y1), (2, .inl y2)], [.inr (.inr (11, 24)), .inl y2], 119, pm_RF, M)) rfl ?_
        refine R_callV ho mv_Told_plinths lk_5_35 rfl (As := []) (kd := 11) (a := 24) (st := [.inl y2]) rfl rfl (Nat.le_of_ble_eq_true rfl) rfl (by decide) (Nat.le_of_ble_eq_true rfl) (ok_Told_plinths G  M ) (fun r467 => ?_)
        show pm_R _ _ _ (39, [(3, .inl 0), (0, .inr (.inr (5, 77))), (1, .inl y1), (2, .inl y2)], [.inl r467, .inl y2], 119, pm_RF, M) _ _
        refine R_ic ho rfl (tgt := 59) rfl ?_
        refine R_ge ?_ ?_
        · refine R_pk [] rfl ?_
          exact R_ret rfl
        · refine R_st ho 3 (q' := (45, [(3, .inl 0), (0, .inr (.inr (5, 77))), (1, .inl y1), (2, .inl y2)], [.inl y2, .inl y1, .inr (.inr (5, 77))], 119, pm_RF, M)) rfl ?_
          refine R_callV ho mv_Nights_headIn lk_5_70 rfl (As := [.inl y1, .inl y2]) (kd := 5) (a := 77) (st := []) rfl rfl (Nat.le_of_ble_eq_true rfl) rfl (by decide) (Nat.le_of_ble_eq_true rfl) (ok_Nights_headIn G y1 y2 M ) (fun r469 => ?_)
          show pm_R _ _ _ (48, [(3, .inl 0), (0, .inr (.inr (5, 77))), (1, .inl y1), (2, .inl y2)], [.inl r469], 119, pm_RF, M) _ _
          refine R_st ho 3 (q' := (53, [(3, .inl 0), (0, .inr (.inr (5, 77))), (1, .inl y1), (2, .inl y2)], [.inl y2, .inr (.inr (4, 35)), .inl r469], 119, pm_RF, M)) rfl ?_
          refine R_callV ho mv_Moment_headAt lk_5_73 rfl (As := [.inl y2]) (kd := 4) (a := 35) (st := [.inl r469]) rfl rfl (Nat.le_of_ble_eq_true rfl) rfl (by decide) (Nat.le_of_ble_eq_true rfl) (ok_Moment_headAt G y2 M ) (fun r470 => ?_)
          show pm_R _ _ _ (56, [(3, .inl 0), (0, .inr (.inr (5, 77))), (1, .inl y1), (2, .inl y2)], [.inl r470, .inl r469], 119, pm_RF, M) _ _
          refine R_ic ho rfl (tgt := 61) rfl ?_
          refine R_eq ?_ ?_
          · refine R_st ho 2 (q' := (2, [(2, .inl (i_ad y2 1)), (3, .inl 0), (0, .inr (.inr (5, 77))), (1, .inl y1)], [], 119, pm_RF, M)) rfl ?_
            refine R_pk [0, 1, 2] rfl ?_
            exact ih_ y1 (i_ad y2 1)
          · refine R_pk [] rfl ?_
            exact R_ret rfl
theorem ok_Nights_looksAsNow (G : pm_G) (x1 : Int) (M : pm_M)  : pm_R G mt_Nights_looksAsNow 3 (0, [(0, .inr (.inr (5, 77))), (1, .inl x1)], [], 119, pm_RF, M) (f_Nights_looksAsNow x1 M) (pm_Zr mt_Nights_looksAsNow (pm_gi M)) := by
  have ho : pm_oG G mt_Nights_looksAsNow := (oa_Nights_looksAsNow).g G
  unfold f_Nights_looksAsNow
  refine R_st ho 2 (q' := (2, [(2, .inl 0), (0, .inr (.inr (5, 77))), (1, .inl x1)], [], 119, pm_RF, M)) rfl ?_
  refine R_pk [0, 1, 2] rfl ?_
  refine R_bind (ok_Nights_looksAsNow_L2 G M pm_F x1 0) ?_
  intro e471 q_ hq_
  cases e471 with
  | inl e471 =>
    obtain rfl : q_ = (59, [], [], 119, pm_RF, M) := hq_
    refine R_st ho 1 (q' := (60, [], [.inl 0], 119, pm_RF, M)) rfl ?_
    exact R_end (v := some (.inl 0)) rfl (Or.inr ⟨rfl, Or.inl rfl⟩) rfl rfl
  | inr e471 =>
    obtain rfl : q_ = (67, [], [], 119, pm_RF, M) := hq_
    refine R_st ho 1 (q' := (68, [], [.inl 1], 119, pm_RF, M)) rfl ?_
    exact R_end (v := some (.inl 1)) rfl (Or.inr ⟨rfl, Or.inr rfl⟩) rfl rfl
theorem ok_Nights_spread_77_80_L30 (G : pm_G)    : ∀ (n_ : Nat) (y2 : Int) (y3 : Int) (y4 : Int) (y5 : Int) (M : pm_M), pm_R G mt_Nights_spread 2 (30, [(0, .inr (.inr (5, 77))), (1, .inr (.inr (20, 80))), (2, .inl y2), (3, .inl y3), (4, .inl y4), (5, .inl y5)], [], 119, pm_RF, M) (f_Nights_spread_77_80_L30 n_ y2 y3 y4 y5 M) (fun e_ q_ => q_ = (77, [(0, .inr (.inr (5, 77))), (1, .inr (.inr (20, 80))), (2, .inl e_.1), (3, .inl e_.2.1)], [], 119, pm_RF, e_.2.2)) := by
  have ho : pm_oG G mt_Nights_spread := (oa_Nights_spread).g G
  intro n_
  induction n_ with
  | zero => intro _ _ _ _ _; exact R_none
  | succ n_ ih_ =>
    intro y2 y3 y4 y5 M
    rw [f_Nights_spread_77_80_L30]
    refine R_st ho 2 (q' := (34, [(0, .inr (.inr (5, 77))), (1, .inr (.inr (20, 80))), (2, .inl y2), (3, .inl y3), (4, .inl y4), (5, .inl y5)], [.inl 120, .inl y5], 119, pm_RF, M)) rfl ?_
    refine R_ic ho rfl (tgt := 77) rfl ?_
    refine R_ge ?_ ?_
    · refine R_pk [0, 1, 2, 3] rfl ?_
      exact R_ret rfl
    · refine R_st ho 8 (q' := (50, [(0, .inr (.inr (5, 77))), (1, .inr (.inr (20, 80))), (2, .inl y2), (3, .inl y3), (4, .inl y4), (5, .inl y5)], [.inl (i_ad (i_ml y5 10) y4), .inr (.inr (20, 79)), .inr (.inr (20, 80))], 119, pm_RF, M)) rfl ?_
      refine R_iald ho rfl rfl ?_
      refine R_iald ho rfl rfl ?_
      refine R_st ho 3 (q' := (56, [(6, .inl (i_ad (M 80 ((M 79 ((i_ad (i_ml y5 10) y4)).toNat)).toNat) 1)), (0, .inr (.inr (5, 77))), (1, .inr (.inr (20, 80))), (2, .inl y2), (3, .inl y3), (4, .inl y4), (5, .inl y5)], [], 119, pm_RF, M)) rfl ?_
      refine R_nx (fun z_ => (56, [(6, .inl z_), (0, .inr (.inr (5, 77))), (1, .inr (.inr (20, 80))), (2, .inl y2), (3, .inl y3), (4, .inl y4), (5, .inl y5)], [], 119, pm_RF, M)) fun v480 => ?_
      refine R_st ho 3 (q' := (61, [(6, .inl v480), (0, .inr (.inr (5, 77))), (1, .inr (.inr (20, 80))), (2, .inl y2), (3, .inl y3), (4, .inl y4), (5, .inl y5)], [.inl y5, .inr (.inr (20, 80)), .inl v480], 119, pm_RF, M)) rfl ?_
      refine R_iald ho rfl rfl ?_
      refine R_ic ho rfl (tgt := 71) rfl ?_
      refine R_ge ?_ ?_
      · refine R_st ho 2 (q' := (30, [(5, .inl (i_ad y5 1)), (6, .inl v480), (0, .inr (.inr (5, 77))), (1, .inr (.inr (20, 80))), (2, .inl y2), (3, .inl y3), (4, .inl y4)], [], 119, pm_RF, M)) rfl ?_
        refine R_pk [0, 1, 2, 3, 4, 5] rfl ?_
        exact ih_ y2 y3 y4 (i_ad y5 1) M
      · refine R_st ho 3 (q' := (70, [(6, .inl v480), (0, .inr (.inr (5, 77))), (1, .inr (.inr (20, 80))), (2, .inl y2), (3, .inl y3), (4, .inl y4), (5, .inl y5)], [.inl v480, .inl y5, .inr (.inr (20, 80))], 119, pm_RF, M)) rfl ?_
        refine R_iast ho rfl rfl ?_
        refine R_nm fun M481 => ?_
        refine R_st ho 2 (q' := (30, [(5, .inl (i_ad y5 1)), (6, .inl v480), (0, .inr (.inr (5, 77))), (1, .inr (.inr (20, 80))), (2, .inl y2), (3, .inl y3), (4, .inl y4)], [], 119, pm_RF, M481)) rfl ?_
        refine R_pk [0, 1, 2, 3, 4, 5] rfl ?_
        exact ih_ y2 y3 y4 (i_ad y5 1) M481
theorem ok_Nights_spread_77_80_L15 (G : pm_G)    : ∀ (n_ : Nat) (y2 : Int) (y3 : Int) (M : pm_M), pm_R G mt_Nights_spread 2 (15, [(0, .inr (.inr (5, 77))), (1, .inr (.inr (20, 80))), (2, .inl y2), (3, .inl y3)], [], 119, pm_RF, M) (f_Nights_spread_77_80_L15 n_ y2 y3 M) (fun e_ q_ => q_ = (83, [(0, .inr (.inr (5, 77))), (1, .inr (.inr (20, 80))), (2, .inl e_.1)], [], 119, pm_RF, e_.2)) := by
  have ho : pm_oG G mt_Nights_spread := (oa_Nights_spread).g G
  intro n_
  induction n_ with
  | zero => intro _ _ _; exact R_none
  | succ n_ ih_ =>
    intro y2 y3 M
    rw [f_Nights_spread_77_80_L15]
    refine R_st ho 2 (q' := (17, [(0, .inr (.inr (5, 77))), (1, .inr (.inr (20, 80))), (2, .inl y2), (3, .inl y3)], [.inl y2, .inl y3], 119, pm_RF, M)) rfl ?_
    refine R_ic ho rfl (tgt := 83) rfl ?_
    refine R_ge ?_ ?_
    · refine R_pk [0, 1, 2] rfl ?_
      exact R_ret rfl
    · refine R_st ho 2 (q' := (22, [(0, .inr (.inr (5, 77))), (1, .inr (.inr (20, 80))), (2, .inl y2), (3, .inl y3)], [.inl y2, .inl y3], 119, pm_RF, M)) rfl ?_
      refine R_callS ho ms_Nights_swapOf lk_5_94 rfl (As := [.inl y3, .inl y2]) (st := []) rfl (Nat.le_of_ble_eq_true rfl) rfl (by decide) (Nat.le_of_ble_eq_true rfl) (ok_Nights_swapOf G y3 y2 M ) (fun r479 => ?_)
      show pm_R _ _ _ (25, [(0, .inr (.inr (5, 77))), (1, .inr (.inr (20, 80))), (2, .inl y2), (3, .inl y3)], [.inl r479], 119, pm_RF, M) _ _
      refine R_st ho 3 (q' := (30, [(5, .inl 0), (4, .inl r479), (0, .inr (.inr (5, 77))), (1, .inr (.inr (20, 80))), (2, .inl y2), (3, .inl y3)], [], 119, pm_RF, M)) rfl ?_
      refine R_pk [0, 1, 2, 3, 4, 5] rfl ?_
      refine R_bind (ok_Nights_spread_77_80_L30 G pm_F y2 y3 r479 0 M) ?_
      intro e482 q_ hq_
      obtain rfl : q_ = (77, [(0, .inr (.inr (5, 77))), (1, .inr (.inr (20, 80))), (2, .inl e482.1), (3, .inl e482.2.1)], [], 119, pm_RF, e482.2.2) := hq_
      refine R_st ho 2 (q' := (15, [(3, .inl (i_ad e482.2.1 1)), (0, .inr (.inr (5, 77))), (1, .inr (.inr (20, 80))), (2, .inl e482.1)], [], 119, pm_RF, e482.2.2)) rfl ?_
      refine R_pk [0, 1, 2, 3] rfl ?_
      exact ih_ e482.1 (i_ad e482.2.1 1) e482.2.2
theorem ok_Nights_spread_77_80_L2 (G : pm_G)    : ∀ (n_ : Nat) (y2 : Int) (M : pm_M), pm_R G mt_Nights_spread 2 (2, [(0, .inr (.inr (5, 77))), (1, .inr (.inr (20, 80))), (2, .inl y2)], [], 119, pm_RF, M) (f_Nights_spread_77_80_L2 n_ y2 M) (fun e_ q_ => q_ = (89, [], [], 119, pm_RF, e_)) := by
  have ho : pm_oG G mt_Nights_spread := (oa_Nights_spread).g G
  intro n_
  induction n_ with
  | zero => intro _ _; exact R_none
  | succ n_ ih_ =>
    intro y2 M
    rw [f_Nights_spread_77_80_L2]
    refine R_st ho 3 (q' := (7, [(0, .inr (.inr (5, 77))), (1, .inr (.inr (20, 80))), (2, .inl y2)], [.inr (.inr (11, 24)), .inl y2], 119, pm_RF, M)) rfl ?_
    refine R_callV ho mv_Told_plinths lk_5_35 rfl (As := []) (kd := 11) (a := 24) (st := [.inl y2]) rfl rfl (Nat.le_of_ble_eq_true rfl) rfl (by decide) (Nat.le_of_ble_eq_true rfl) (ok_Told_plinths G  M ) (fun r478 => ?_)
    show pm_R _ _ _ (10, [(0, .inr (.inr (5, 77))), (1, .inr (.inr (20, 80))), (2, .inl y2)], [.inl r478, .inl y2], 119, pm_RF, M) _ _
    refine R_ic ho rfl (tgt := 89) rfl ?_
    refine R_ge ?_ ?_
    · refine R_pk [] rfl ?_
      exact R_ret rfl
    · refine R_st ho 2 (q' := (15, [(3, .inl 0), (0, .inr (.inr (5, 77))), (1, .inr (.inr (20, 80))), (2, .inl y2)], [], 119, pm_RF, M)) rfl ?_
      refine R_pk [0, 1, 2, 3] rfl ?_
      refine R_bind (ok_Nights_spread_77_80_L15 G pm_F y2 0 M) ?_
      intro e483 q_ hq_
      obtain rfl : q_ = (83, [(0, .inr (.inr (5, 77))), (1, .inr (.inr (20, 80))), (2, .inl e483.1)], [], 119, pm_RF, e483.2) := hq_
      refine R_st ho 2 (q' := (2, [(2, .inl (i_ad e483.1 1)), (0, .inr (.inr (5, 77))), (1, .inr (.inr (20, 80)))], [], 119, pm_RF, e483.2)) rfl ?_
      refine R_pk [0, 1, 2] rfl ?_
      exact ih_ (i_ad e483.1 1) e483.2
theorem ok_Nights_spread_77_80 (G : pm_G)  (M : pm_M)  : pm_R G mt_Nights_spread 2 (0, [(0, .inr (.inr (5, 77))), (1, .inr (.inr (20, 80)))], [], 119, pm_RF, M) (f_Nights_spread_77_80 M) (pm_Zr mt_Nights_spread pm_gV) := by
  have ho : pm_oG G mt_Nights_spread := (oa_Nights_spread).g G
  unfold f_Nights_spread_77_80
  refine R_st ho 2 (q' := (2, [(2, .inl 1), (0, .inr (.inr (5, 77))), (1, .inr (.inr (20, 80)))], [], 119, pm_RF, M)) rfl ?_
  refine R_pk [0, 1, 2] rfl ?_
  refine R_bind (ok_Nights_spread_77_80_L2 G pm_F 1 M) ?_
  intro e484 q_ hq_
  obtain rfl : q_ = (89, [], [], 119, pm_RF, e484) := hq_
  exact R_end (v := none) rfl rfl rfl rfl
theorem ok_Told_countSeen (G : pm_G)  (M : pm_M)  : pm_R G mt_Told_countSeen 1 (0, [(0, .inr (.inr (11, 24)))], [], 119, pm_RF, M) (f_Told_countSeen M) (pm_Zr mt_Told_countSeen (pm_gi M)) := by
  have ho : pm_oG G mt_Told_countSeen := (oa_Told_countSeen).g G
  unfold f_Told_countSeen
  refine R_st ho 2 (q' := (4, [(0, .inr (.inr (11, 24)))], [.inl (M 24 12)], 119, pm_RF, M)) rfl ?_
  exact R_end (v := some (.inl (M 24 12))) rfl (Or.inl rfl) rfl rfl
theorem ok_Told_nightSeen (G : pm_G) (x1 : Int) (M : pm_M)  : pm_R G mt_Told_nightSeen 1 (0, [(0, .inr (.inr (11, 24))), (1, .inl x1)], [], 119, pm_RF, M) (f_Told_nightSeen x1 M) (pm_Zr mt_Told_nightSeen (pm_gi M)) := by
  have ho : pm_oG G mt_Told_nightSeen := (oa_Told_nightSeen).g G
  unfold f_Told_nightSeen
  refine R_st ho 3 (q' := (5, [(0, .inr (.inr (11, 24))), (1, .inl x1)], [.inl x1, .inr (.inr (20, 32))], 119, pm_RF, M)) rfl ?_
  refine R_iald ho rfl rfl ?_
  exact R_end (v := some (.inl (M 32 (x1).toNat))) rfl (Or.inl rfl) rfl rfl
theorem ok_Told_plinthSeen (G : pm_G) (x1 : Int) (M : pm_M)  : pm_R G mt_Told_plinthSeen 1 (0, [(0, .inr (.inr (11, 24))), (1, .inl x1)], [], 119, pm_RF, M) (f_Told_plinthSeen x1 M) (pm_Zr mt_Told_plinthSeen (pm_gi M)) := by
  have ho : pm_oG G mt_Told_plinthSeen := (oa_Told_plinthSeen).g G
  unfold f_Told_plinthSeen
  refine R_st ho 3 (q' := (5, [(0, .inr (.inr (11, 24))), (1, .inl x1)], [.inl x1, .inr (.inr (20, 33))], 119, pm_RF, M)) rfl ?_
  refine R_iald ho rfl rfl ?_
  exact R_end (v := some (.inl (M 33 (x1).toNat))) rfl (Or.inl rfl) rfl rfl
theorem ok_Told_chinSeen (G : pm_G) (x1 : Int) (M : pm_M)  : pm_R G mt_Told_chinSeen 1 (0, [(0, .inr (.inr (11, 24))), (1, .inl x1)], [], 119, pm_RF, M) (f_Told_chinSeen x1 M) (pm_Zr mt_Told_chinSeen (pm_gi M)) := by
  have ho : pm_oG G mt_Told_chinSeen := (oa_Told_chinSeen).g G
  unfold f_Told_chinSeen
  refine R_st ho 3 (q' := (5, [(0, .inr (.inr (11, 24))), (1, .inl x1)], [.inl x1, .inr (.inr (20, 34))], 119, pm_RF, M)) rfl ?_
  refine R_iald ho rfl rfl ?_
  exact R_end (v := some (.inl (M 34 (x1).toNat))) rfl (Or.inl rfl) rfl rfl
theorem ok_Nights_keepSeen_77_80_L38 (G : pm_G)    : ∀ (n_ : Nat) (y2 : Int) (y3 : Int) (y4 : Int) (y5 : Int) (M : pm_M), pm_R G mt_Nights_keepSeen 3 (38, [(0, .inr (.inr (5, 77))), (1, .inr (.inr (20, 80))), (2, .inl y2), (3, .inl y3), (4, .inl y4), (5, .inl y5)], [], 119, pm_RF, M) (f_Nights_keepSeen_77_80_L38 n_ y2 y3 y4 y5 M) (fun e_ q_ => q_ = (84, [(0, .inr (.inr (5, 77))), (1, .inr (.inr (20, 80))), (2, .inl e_.1), (3, .inl e_.2.1)], [], 119, pm_RF, e_.2.2)) := by
  have ho : pm_oG G mt_Nights_keepSeen := (oa_Nights_keepSeen).g G
  intro n_
  induction n_ with
  | zero => intro _ _ _ _ _; exact R_none
  | succ n_ ih_ =>
    intro y2 y3 y4 y5 M
    rw [f_Nights_keepSeen_77_80_L38]
    refine R_st ho 2 (q' := (42, [(0, .inr (.inr (5, 77))), (1, .inr (.inr (20, 80))), (2, .inl y2), (3, .inl y3), (4, .inl y4), (5, .inl y5)], [.inl 120, .inl y5], 119, pm_RF, M)) rfl ?_
    refine R_ic ho rfl (tgt := 84) rfl ?_
    refine R_ge ?_ ?_
    · refine R_pk [0, 1, 2, 3] rfl ?_
      exact R_ret rfl
    · refine R_st ho 5 (q' := (54, [(0, .inr (.inr (5, 77))), (1, .inr (.inr (20, 80))), (2, .inl y2), (3, .inl y3), (4, .inl y4), (5, .inl y5)], [.inl y4, .inl y5, .inr (.inr (5, 77)), .inr (.inr (11, 24))], 119, pm_RF, M)) rfl ?_
      refine R_callV ho mv_Nights_headIn lk_5_70 rfl (As := [.inl y5, .inl y4]) (kd := 5) (a := 77) (st := [.inr (.inr (11, 24))]) rfl rfl (Nat.le_of_ble_eq_true rfl) rfl (by decide) (Nat.le_of_ble_eq_true rfl) (ok_Nights_headIn G y5 y4 M ) (fun r489 => ?_)
      show pm_R _ _ _ (57, [(0, .inr (.inr (5, 77))), (1, .inr (.inr (20, 80))), (2, .inl y2), (3, .inl y3), (4, .inl y4), (5, .inl y5)], [.inl r489, .inr (.inr (11, 24))], 119, pm_RF, M) _ _
      refine R_callV ho mv_Told_chinOf lk_5_88 rfl (As := [.inl r489]) (kd := 11) (a := 24) (st := []) rfl rfl (Nat.le_of_ble_eq_true rfl) rfl (by decide) (Nat.le_of_ble_eq_true rfl) (ok_Told_chinOf G r489 M ) (fun r490 => ?_)
      show pm_R _ _ _ (60, [(0, .inr (.inr (5, 77))), (1, .inr (.inr (20, 80))), (2, .inl y2), (3, .inl y3), (4, .inl y4), (5, .inl y5)], [.inl r490], 119, pm_RF, M) _ _
      refine R_st ho 3 (q' := (65, [(0, .inr (.inr (5, 77))), (1, .inr (.inr (20, 80))), (2, .inl y2), (3, .inl y3), (4, .inl y4), (5, .inl y5)], [.inl y3, .inr (.inr (11, 24)), .inl r490], 119, pm_RF, M)) rfl ?_
      refine R_callV ho mv_Told_chinSeen lk_5_91 rfl (As := [.inl y3]) (kd := 11) (a := 24) (st := [.inl r490]) rfl rfl (Nat.le_of_ble_eq_true rfl) rfl (by decide) (Nat.le_of_ble_eq_true rfl) (ok_Told_chinSeen G y3 M ) (fun r491 => ?_)
      show pm_R _ _ _ (68, [(0, .inr (.inr (5, 77))), (1, .inr (.inr (20, 80))), (2, .inl y2), (3, .inl y3), (4, .inl y4), (5, .inl y5)], [.inl r491, .inl r490], 119, pm_RF, M) _ _
      refine R_ic ho rfl (tgt := 78) rfl ?_
      refine R_eq ?_ ?_
      · refine R_st ho 2 (q' := (38, [(5, .inl (i_ad y5 1)), (0, .inr (.inr (5, 77))), (1, .inr (.inr (20, 80))), (2, .inl y2), (3, .inl y3), (4, .inl y4)], [], 119, pm_RF, M)) rfl ?_
        refine R_pk [0, 1, 2, 3, 4, 5] rfl ?_
        exact ih_ y2 y3 y4 (i_ad y5 1) M
      · refine R_st ho 3 (q' := (77, [(0, .inr (.inr (5, 77))), (1, .inr (.inr (20, 80))), (2, .inl y2), (3, .inl y3), (4, .inl y4), (5, .inl y5)], [.inl 1000, .inl y5, .inr (.inr (20, 80))], 119, pm_RF, M)) rfl ?_
        refine R_iast ho rfl rfl ?_
        refine R_nm fun M492 => ?_
        refine R_st ho 2 (q' := (38, [(5, .inl (i_ad y5 1)), (0, .inr (.inr (5, 77))), (1, .inr (.inr (20, 80))), (2, .inl y2), (3, .inl y3), (4, .inl y4)], [], 119, pm_RF, M492)) rfl ?_
        refine R_pk [0, 1, 2, 3, 4, 5] rfl ?_
        exact ih_ y2 y3 y4 (i_ad y5 1) M492
theorem ok_Nights_keepSeen_77_80_L2 (G : pm_G)    : ∀ (n_ : Nat) (y2 : Int) (y3 : Int) (M : pm_M), pm_R G mt_Nights_keepSeen 3 (2, [(0, .inr (.inr (5, 77))), (1, .inr (.inr (20, 80))), (2, .inl y2), (3, .inl y3)], [], 119, pm_RF, M) (f_Nights_keepSeen_77_80_L2 n_ y2 y3 M) (fun e_ q_ => q_ = (90, [], [], 119, pm_RF, e_)) := by
  have ho : pm_oG G mt_Nights_keepSeen := (oa_Nights_keepSeen).g G
  intro n_
  induction n_ with
  | zero => intro _ _ _; exact R_none
  | succ n_ ih_ =>
    intro y2 y3 M
    rw [f_Nights_keepSeen_77_80_L2]
    refine R_st ho 3 (q' := (7, [(0, .inr (.inr (5, 77))), (1, .inr (.inr (20, 80))), (2, .inl y2), (3, .inl y3)], [.inr (.inr (11, 24)), .inl y3], 119, pm_RF, M)) rfl ?_
    refine R_callV ho mv_Told_countSeen lk_5_79 rfl (As := []) (kd := 11) (a := 24) (st := [.inl y3]) rfl rfl (Nat.le_of_ble_eq_true rfl) rfl (by decide) (Nat.le_of_ble_eq_true rfl) (ok_Told_countSeen G  M ) (fun r486 => ?_)
    show pm_R _ _ _ (10, [(0, .inr (.inr (5, 77))), (1, .inr (.inr (20, 80))), (2, .inl y2), (3, .inl y3)], [.inl r486, .inl y3], 119, pm_RF, M) _ _
    refine R_ic ho rfl (tgt := 90) rfl ?_
    refine R_ge ?_ ?_
    · refine R_pk [] rfl ?_
      exact R_ret rfl
    · refine R_st ho 3 (q' := (18, [(0, .inr (.inr (5, 77))), (1, .inr (.inr (20, 80))), (2, .inl y2), (3, .inl y3)], [.inl y3, .inr (.inr (11, 24))], 119, pm_RF, M)) rfl ?_
      refine R_callV ho mv_Told_nightSeen lk_5_82 rfl (As := [.inl y3]) (kd := 11) (a := 24) (st := []) rfl rfl (Nat.le_of_ble_eq_true rfl) rfl (by decide) (Nat.le_of_ble_eq_true rfl) (ok_Told_nightSeen G y3 M ) (fun r487 => ?_)
      show pm_R _ _ _ (21, [(0, .inr (.inr (5, 77))), (1, .inr (.inr (20, 80))), (2, .inl y2), (3, .inl y3)], [.inl r487], 119, pm_RF, M) _ _
      refine R_st ho 1 (q' := (22, [(0, .inr (.inr (5, 77))), (1, .inr (.inr (20, 80))), (2, .inl y2), (3, .inl y3)], [.inl y2, .inl r487], 119, pm_RF, M)) rfl ?_
      refine R_ic ho rfl (tgt := 84) rfl ?_
      refine R_ne ?_ ?_
      · refine R_st ho 3 (q' := (30, [(0, .inr (.inr (5, 77))), (1, .inr (.inr (20, 80))), (2, .inl y2), (3, .inl y3)], [.inl y3, .inr (.inr (11, 24))], 119, pm_RF, M)) rfl ?_
        refine R_callV ho mv_Told_plinthSeen lk_5_85 rfl (As := [.inl y3]) (kd := 11) (a := 24) (st := []) rfl rfl (Nat.le_of_ble_eq_true rfl) rfl (by decide) (Nat.le_of_ble_eq_true rfl) (ok_Told_plinthSeen G y3 M ) (fun r488 => ?_)
        show pm_R _ _ _ (33, [(0, .inr (.inr (5, 77))), (1, .inr (.inr (20, 80))), (2, .inl y2), (3, .inl y3)], [.inl r488], 119, pm_RF, M) _ _
        refine R_st ho 3 (q' := (38, [(5, .inl 0), (4, .inl r488), (0, .inr (.inr (5, 77))), (1, .inr (.inr (20, 80))), (2, .inl y2), (3, .inl y3)], [], 119, pm_RF, M)) rfl ?_
        refine R_pk [0, 1, 2, 3, 4, 5] rfl ?_
        refine R_bind (ok_Nights_keepSeen_77_80_L38 G pm_F y2 y3 r488 0 M) ?_
        intro e493 q_ hq_
        obtain rfl : q_ = (84, [(0, .inr (.inr (5, 77))), (1, .inr (.inr (20, 80))), (2, .inl e493.1), (3, .inl e493.2.1)], [], 119, pm_RF, e493.2.2) := hq_
        refine R_st ho 2 (q' := (2, [(3, .inl (i_ad e493.2.1 1)), (0, .inr (.inr (5, 77))), (1, .inr (.inr (20, 80))), (2, .inl e493.1)], [], 119, pm_RF, e493.2.2)) rfl ?_
        refine R_pk [0, 1, 2, 3] rfl ?_
        exact ih_ e493.1 (i_ad e493.2.1 1) e493.2.2
      · refine R_st ho 2 (q' := (2, [(3, .inl (i_ad y3 1)), (0, .inr (.inr (5, 77))), (1, .inr (.inr (20, 80))), (2, .inl y2)], [], 119, pm_RF, M)) rfl ?_
        refine R_pk [0, 1, 2, 3] rfl ?_
        exact ih_ y2 (i_ad y3 1) M
theorem ok_Nights_keepSeen_77_80 (G : pm_G) (x2 : Int) (M : pm_M)  : pm_R G mt_Nights_keepSeen 3 (0, [(0, .inr (.inr (5, 77))), (1, .inr (.inr (20, 80))), (2, .inl x2)], [], 119, pm_RF, M) (f_Nights_keepSeen_77_80 x2 M) (pm_Zr mt_Nights_keepSeen pm_gV) := by
  have ho : pm_oG G mt_Nights_keepSeen := (oa_Nights_keepSeen).g G
  unfold f_Nights_keepSeen_77_80
  refine R_st ho 2 (q' := (2, [(3, .inl 0), (0, .inr (.inr (5, 77))), (1, .inr (.inr (20, 80))), (2, .inl x2)], [], 119, pm_RF, M)) rfl ?_
  refine R_pk [0, 1, 2, 3] rfl ?_
  refine R_bind (ok_Nights_keepSeen_77_80_L2 G pm_F x2 0 M) ?_
  intro e494 q_ hq_
  obtain rfl : q_ = (90, [], [], 119, pm_RF, e494) := hq_
  exact R_end (v := none) rfl rfl rfl rfl
theorem ok_Nights_keepSeen_77_81_L38 (G : pm_G)    : ∀ (n_ : Nat) (y2 : Int) (y3 : Int) (y4 : Int) (y5 : Int) (M : pm_M), pm_R G mt_Nights_keepSeen 3 (38, [(0, .inr (.inr (5, 77))), (1, .inr (.inr (20, 81))), (2, .inl y2), (3, .inl y3), (4, .inl y4), (5, .inl y5)], [], 119, pm_RF, M) (f_Nights_keepSeen_77_81_L38 n_ y2 y3 y4 y5 M) (fun e_ q_ => q_ = (84, [(0, .inr (.inr (5, 77))), (1, .inr (.inr (20, 81))), (2, .inl e_.1), (3, .inl e_.2.1)], [], 119, pm_RF, e_.2.2)) := by
  have ho : pm_oG G mt_Nights_keepSeen := (oa_Nights_keepSeen).g G
  intro n_
  induction n_ with
  | zero => intro _ _ _ _ _; exact R_none
  | succ n_ ih_ =>
    intro y2 y3 y4 y5 M
    rw [f_Nights_keepSeen_77_81_L38]
    refine R_st ho 2 (q' := (42, [(0, .inr (.inr (5, 77))), (1, .inr (.inr (20, 81))), (2, .inl y2), (3, .inl y3), (4, .inl y4), (5, .inl y5)], [.inl 120, .inl y5], 119, pm_RF, M)) rfl ?_
    refine R_ic ho rfl (tgt := 84) rfl ?_
    refine R_ge ?_ ?_
    · refine R_pk [0, 1, 2, 3] rfl ?_
      exact R_ret rfl
    · refine R_st ho 5 (q' := (54, [(0, .inr (.inr (5, 77))), (1, .inr (.inr (20, 81))), (2, .inl y2), (3, .inl y3), (4, .inl y4), (5, .inl y5)], [.inl y4, .inl y5, .inr (.inr (5, 77)), .inr (.inr (11, 24))], 119, pm_RF, M)) rfl ?_
      refine R_callV ho mv_Nights_headIn lk_5_70 rfl (As := [.inl y5, .inl y4]) (kd := 5) (a := 77) (st := [.inr (.inr (11, 24))]) rfl rfl (Nat.le_of_ble_eq_true rfl) rfl (by decide) (Nat.le_of_ble_eq_true rfl) (ok_Nights_headIn G y5 y4 M ) (fun r500 => ?_)
      show pm_R _ _ _ (57, [(0, .inr (.inr (5, 77))), (1, .inr (.inr (20, 81))), (2, .inl y2), (3, .inl y3), (4, .inl y4), (5, .inl y5)], [.inl r500, .inr (.inr (11, 24))], 119, pm_RF, M) _ _
      refine R_callV ho mv_Told_chinOf lk_5_88 rfl (As := [.inl r500]) (kd := 11) (a := 24) (st := []) rfl rfl (Nat.le_of_ble_eq_true rfl) rfl (by decide) (Nat.le_of_ble_eq_true rfl) (ok_Told_chinOf G r500 M ) (fun r501 => ?_)
      show pm_R _ _ _ (60, [(0, .inr (.inr (5, 77))), (1, .inr (.inr (20, 81))), (2, .inl y2), (3, .inl y3), (4, .inl y4), (5, .inl y5)], [.inl r501], 119, pm_RF, M) _ _
      refine R_st ho 3 (q' := (65, [(0, .inr (.inr (5, 77))), (1, .inr (.inr (20, 81))), (2, .inl y2), (3, .inl y3), (4, .inl y4), (5, .inl y5)], [.inl y3, .inr (.inr (11, 24)), .inl r501], 119, pm_RF, M)) rfl ?_
      refine R_callV ho mv_Told_chinSeen lk_5_91 rfl (As := [.inl y3]) (kd := 11) (a := 24) (st := [.inl r501]) rfl rfl (Nat.le_of_ble_eq_true rfl) rfl (by decide) (Nat.le_of_ble_eq_true rfl) (ok_Told_chinSeen G y3 M ) (fun r502 => ?_)
      show pm_R _ _ _ (68, [(0, .inr (.inr (5, 77))), (1, .inr (.inr (20, 81))), (2, .inl y2), (3, .inl y3), (4, .inl y4), (5, .inl y5)], [.inl r502, .inl r501], 119, pm_RF, M) _ _
      refine R_ic ho rfl (tgt := 78) rfl ?_
      refine R_eq ?_ ?_
      · refine R_st ho 2 (q' := (38, [(5, .inl (i_ad y5 1)), (0, .inr (.inr (5, 77))), (1, .inr (.inr (20, 81))), (2, .inl y2), (3, .inl y3), (4, .inl y4)], [], 119, pm_RF, M)) rfl ?_
        refine R_pk [0, 1, 2, 3, 4, 5] rfl ?_
        exact ih_ y2 y3 y4 (i_ad y5 1) M
      · refine R_st ho 3 (q' := (77, [(0, .inr (.inr (5, 77))), (1, .inr (.inr (20, 81))), (2, .inl y2), (3, .inl y3), (4, .inl y4), (5, .inl y5)], [.inl 1000, .inl y5, .inr (.inr (20, 81))], 119, pm_RF, M)) rfl ?_
        refine R_iast ho rfl rfl ?_
        refine R_nm fun M503 => ?_
        refine R_st ho 2 (q' := (38, [(5, .inl (i_ad y5 1)), (0, .inr (.inr (5, 77))), (1, .inr (.inr (20, 81))), (2, .inl y2), (3, .inl y3), (4, .inl y4)], [], 119, pm_RF, M503)) rfl ?_
        refine R_pk [0, 1, 2, 3, 4, 5] rfl ?_
        exact ih_ y2 y3 y4 (i_ad y5 1) M503
theorem ok_Nights_keepSeen_77_81_L2 (G : pm_G)    : ∀ (n_ : Nat) (y2 : Int) (y3 : Int) (M : pm_M), pm_R G mt_Nights_keepSeen 3 (2, [(0, .inr (.inr (5, 77))), (1, .inr (.inr (20, 81))), (2, .inl y2), (3, .inl y3)], [], 119, pm_RF, M) (f_Nights_keepSeen_77_81_L2 n_ y2 y3 M) (fun e_ q_ => q_ = (90, [], [], 119, pm_RF, e_)) := by
  have ho : pm_oG G mt_Nights_keepSeen := (oa_Nights_keepSeen).g G
  intro n_
  induction n_ with
  | zero => intro _ _ _; exact R_none
  | succ n_ ih_ =>
    intro y2 y3 M
    rw [f_Nights_keepSeen_77_81_L2]
    refine R_st ho 3 (q' := (7, [(0, .inr (.inr (5, 77))), (1, .inr (.inr (20, 81))), (2, .inl y2), (3, .inl y3)], [.inr (.inr (11, 24)), .inl y3], 119, pm_RF, M)) rfl ?_
    refine R_callV ho mv_Told_countSeen lk_5_79 rfl (As := []) (kd := 11) (a := 24) (st := [.inl y3]) rfl rfl (Nat.le_of_ble_eq_true rfl) rfl (by decide) (Nat.le_of_ble_eq_true rfl) (ok_Told_countSeen G  M ) (fun r497 => ?_)
    show pm_R _ _ _ (10, [(0, .inr (.inr (5, 77))), (1, .inr (.inr (20, 81))), (2, .inl y2), (3, .inl y3)], [.inl r497, .inl y3], 119, pm_RF, M) _ _
    refine R_ic ho rfl (tgt := 90) rfl ?_
    refine R_ge ?_ ?_
    · refine R_pk [] rfl ?_
      exact R_ret rfl
    · refine R_st ho 3 (q' := (18, [(0, .inr (.inr (5, 77))), (1, .inr (.inr (20, 81))), (2, .inl y2), (3, .inl y3)], [.inl y3, .inr (.inr (11, 24))], 119, pm_RF, M)) rfl ?_
      refine R_callV ho mv_Told_nightSeen lk_5_82 rfl (As := [.inl y3]) (kd := 11) (a := 24) (st := []) rfl rfl (Nat.le_of_ble_eq_true rfl) rfl (by decide) (Nat.le_of_ble_eq_true rfl) (ok_Told_nightSeen G y3 M ) (fun r498 => ?_)
      show pm_R _ _ _ (21, [(0, .inr (.inr (5, 77))), (1, .inr (.inr (20, 81))), (2, .inl y2), (3, .inl y3)], [.inl r498], 119, pm_RF, M) _ _
      refine R_st ho 1 (q' := (22, [(0, .inr (.inr (5, 77))), (1, .inr (.inr (20, 81))), (2, .inl y2), (3, .inl y3)], [.inl y2, .inl r498], 119, pm_RF, M)) rfl ?_
      refine R_ic ho rfl (tgt := 84) rfl ?_
      refine R_ne ?_ ?_
      · refine R_st ho 3 (q' := (30, [(0, .inr (.inr (5, 77))), (1, .inr (.inr (20, 81))), (2, .inl y2), (3, .inl y3)], [.inl y3, .inr (.inr (11, 24))], 119, pm_RF, M)) rfl ?_
        refine R_callV ho mv_Told_plinthSeen lk_5_85 rfl (As := [.inl y3]) (kd := 11) (a := 24) (st := []) rfl rfl (Nat.le_of_ble_eq_true rfl) rfl (by decide) (Nat.le_of_ble_eq_true rfl) (ok_Told_plinthSeen G y3 M ) (fun r499 => ?_)
        show pm_R _ _ _ (33, [(0, .inr (.inr (5, 77))), (1, .inr (.inr (20, 81))), (2, .inl y2), (3, .inl y3)], [.inl r499], 119, pm_RF, M) _ _
        refine R_st ho 3 (q' := (38, [(5, .inl 0), (4, .inl r499), (0, .inr (.inr (5, 77))), (1, .inr (.inr (20, 81))), (2, .inl y2), (3, .inl y3)], [], 119, pm_RF, M)) rfl ?_
        refine R_pk [0, 1, 2, 3, 4, 5] rfl ?_
        refine R_bind (ok_Nights_keepSeen_77_81_L38 G pm_F y2 y3 r499 0 M) ?_
        intro e504 q_ hq_
        obtain rfl : q_ = (84, [(0, .inr (.inr (5, 77))), (1, .inr (.inr (20, 81))), (2, .inl e504.1), (3, .inl e504.2.1)], [], 119, pm_RF, e504.2.2) := hq_
        refine R_st ho 2 (q' := (2, [(3, .inl (i_ad e504.2.1 1)), (0, .inr (.inr (5, 77))), (1, .inr (.inr (20, 81))), (2, .inl e504.1)], [], 119, pm_RF, e504.2.2)) rfl ?_
        refine R_pk [0, 1, 2, 3] rfl ?_
        exact ih_ e504.1 (i_ad e504.2.1 1) e504.2.2
      · refine R_st ho 2 (q' := (2, [(3, .inl (i_ad y3 1)), (0, .inr (.inr (5, 77))), (1, .inr (.inr (20, 81))), (2, .inl y2)], [], 119, pm_RF, M)) rfl ?_
        refine R_pk [0, 1, 2, 3] rfl ?_
        exact ih_ y2 (i_ad y3 1) M
theorem ok_Nights_keepSeen_77_81 (G : pm_G) (x2 : Int) (M : pm_M)  : pm_R G mt_Nights_keepSeen 3 (0, [(0, .inr (.inr (5, 77))), (1, .inr (.inr (20, 81))), (2, .inl x2)], [], 119, pm_RF, M) (f_Nights_keepSeen_77_81 x2 M) (pm_Zr mt_Nights_keepSeen pm_gV) := by
  have ho : pm_oG G mt_Nights_keepSeen := (oa_Nights_keepSeen).g G
  unfold f_Nights_keepSeen_77_81
  refine R_st ho 2 (q' := (2, [(3, .inl 0), (0, .inr (.inr (5, 77))), (1, .inr (.inr (20, 81))), (2, .inl x2)], [], 119, pm_RF, M)) rfl ?_
  refine R_pk [0, 1, 2, 3] rfl ?_
  refine R_bind (ok_Nights_keepSeen_77_81_L2 G pm_F x2 0 M) ?_
  intro e505 q_ hq_
  obtain rfl : q_ = (90, [], [], 119, pm_RF, e505) := hq_
  exact R_end (v := none) rfl rfl rfl rfl
theorem ok_Nights_spread_77_81_L30 (G : pm_G)    : ∀ (n_ : Nat) (y2 : Int) (y3 : Int) (y4 : Int) (y5 : Int) (M : pm_M), pm_R G mt_Nights_spread 2 (30, [(0, .inr (.inr (5, 77))), (1, .inr (.inr (20, 81))), (2, .inl y2), (3, .inl y3), (4, .inl y4), (5, .inl y5)], [], 119, pm_RF, M) (f_Nights_spread_77_81_L30 n_ y2 y3 y4 y5 M) (fun e_ q_ => q_ = (77, [(0, .inr (.inr (5, 77))), (1, .inr (.inr (20, 81))), (2, .inl e_.1), (3, .inl e_.2.1)], [], 119, pm_RF, e_.2.2)) := by
  have ho : pm_oG G mt_Nights_spread := (oa_Nights_spread).g G
  intro n_
  induction n_ with
  | zero => intro _ _ _ _ _; exact R_none
  | succ n_ ih_ =>
    intro y2 y3 y4 y5 M
    rw [f_Nights_spread_77_81_L30]
    refine R_st ho 2 (q' := (34, [(0, .inr (.inr (5, 77))), (1, .inr (.inr (20, 81))), (2, .inl y2), (3, .inl y3), (4, .inl y4), (5, .inl y5)], [.inl 120, .inl y5], 119, pm_RF, M)) rfl ?_
    refine R_ic ho rfl (tgt := 77) rfl ?_
    refine R_ge ?_ ?_
    · refine R_pk [0, 1, 2, 3] rfl ?_
      exact R_ret rfl
    · refine R_st ho 8 (q' := (50, [(0, .inr (.inr (5, 77))), (1, .inr (.inr (20, 81))), (2, .inl y2), (3, .inl y3), (4, .inl y4), (5, .inl y5)], [.inl (i_ad (i_ml y5 10) y4), .inr (.inr (20, 79)), .inr (.inr (20, 81))], 119, pm_RF, M)) rfl ?_
      refine R_iald ho rfl rfl ?_
      refine R_iald ho rfl rfl ?_
      refine R_st ho 3 (q' := (56, [(6, .inl (i_ad (M 81 ((M 79 ((i_ad (i_ml y5 10) y4)).toNat)).toNat) 1)), (0, .inr (.inr (5, 77))), (1, .inr (.inr (20, 81))), (2, .inl y2), (3, .inl y3), (4, .inl y4), (5, .inl y5)], [], 119, pm_RF, M)) rfl ?_
      refine R_nx (fun z_ => (56, [(6, .inl z_), (0, .inr (.inr (5, 77))), (1, .inr (.inr (20, 81))), (2, .inl y2), (3, .inl y3), (4, .inl y4), (5, .inl y5)], [], 119, pm_RF, M)) fun v509 => ?_
      refine R_st ho 3 (q' := (61, [(6, .inl v509), (0, .inr (.inr (5, 77))), (1, .inr (.inr (20, 81))), (2, .inl y2), (3, .inl y3), (4, .inl y4), (5, .inl y5)], [.inl y5, .inr (.inr (20, 81)), .inl v509], 119, pm_RF, M)) rfl ?_
      refine R_iald ho rfl rfl ?_
      refine R_ic ho rfl (tgt := 71) rfl ?_
      refine R_ge ?_ ?_
      · refine R_st ho 2 (q' := (30, [(5, .inl (i_ad y5 1)), (6, .inl v509), (0, .inr (.inr (5, 77))), (1, .inr (.inr (20, 81))), (2, .inl y2), (3, .inl y3), (4, .inl y4)], [], 119, pm_RF, M)) rfl ?_
        refine R_pk [0, 1, 2, 3, 4, 5] rfl ?_
        exact ih_ y2 y3 y4 (i_ad y5 1) M
      · refine R_st ho 3 (q' := (70, [(6, .inl v509), (0, .inr (.inr (5, 77))), (1, .inr (.inr (20, 81))), (2, .inl y2), (3, .inl y3), (4, .inl y4), (5, .inl y5)], [.inl v509, .inl y5, .inr (.inr (20, 81))], 119, pm_RF, M)) rfl ?_
        refine R_iast ho rfl rfl ?_
        refine R_nm fun M510 => ?_
        refine R_st ho 2 (q' := (30, [(5, .inl (i_ad y5 1)), (6, .inl v509), (0, .inr (.inr (5, 77))), (1, .inr (.inr (20, 81))), (2, .inl y2), (3, .inl y3), (4, .inl y4)], [], 119, pm_RF, M510)) rfl ?_
        refine R_pk [0, 1, 2, 3, 4, 5] rfl ?_
        exact ih_ y2 y3 y4 (i_ad y5 1) M510
theorem ok_Nights_spread_77_81_L15 (G : pm_G)    : ∀ (n_ : Nat) (y2 : Int) (y3 : Int) (M : pm_M), pm_R G mt_Nights_spread 2 (15, [(0, .inr (.inr (5, 77))), (1, .inr (.inr (20, 81))), (2, .inl y2), (3, .inl y3)], [], 119, pm_RF, M) (f_Nights_spread_77_81_L15 n_ y2 y3 M) (fun e_ q_ => q_ = (83, [(0, .inr (.inr (5, 77))), (1, .inr (.inr (20, 81))), (2, .inl e_.1)], [], 119, pm_RF, e_.2)) := by
  have ho : pm_oG G mt_Nights_spread := (oa_Nights_spread).g G
  intro n_
  induction n_ with
  | zero => intro _ _ _; exact R_none
  | succ n_ ih_ =>
    intro y2 y3 M
    rw [f_Nights_spread_77_81_L15]
    refine R_st ho 2 (q' := (17, [(0, .inr (.inr (5, 77))), (1, .inr (.inr (20, 81))), (2, .inl y2), (3, .inl y3)], [.inl y2, .inl y3], 119, pm_RF, M)) rfl ?_
    refine R_ic ho rfl (tgt := 83) rfl ?_
    refine R_ge ?_ ?_
    · refine R_pk [0, 1, 2] rfl ?_
      exact R_ret rfl
    · refine R_st ho 2 (q' := (22, [(0, .inr (.inr (5, 77))), (1, .inr (.inr (20, 81))), (2, .inl y2), (3, .inl y3)], [.inl y2, .inl y3], 119, pm_RF, M)) rfl ?_
      refine R_callS ho ms_Nights_swapOf lk_5_94 rfl (As := [.inl y3, .inl y2]) (st := []) rfl (Nat.le_of_ble_eq_true rfl) rfl (by decide) (Nat.le_of_ble_eq_true rfl) (ok_Nights_swapOf G y3 y2 M ) (fun r508 => ?_)
      show pm_R _ _ _ (25, [(0, .inr (.inr (5, 77))), (1, .inr (.inr (20, 81))), (2, .inl y2), (3, .inl y3)], [.inl r508], 119, pm_RF, M) _ _
      refine R_st ho 3 (q' := (30, [(5, .inl 0), (4, .inl r508), (0, .inr (.inr (5, 77))), (1, .inr (.inr (20, 81))), (2, .inl y2), (3, .inl y3)], [], 119, pm_RF, M)) rfl ?_
      refine R_pk [0, 1, 2, 3, 4, 5] rfl ?_
      refine R_bind (ok_Nights_spread_77_81_L30 G pm_F y2 y3 r508 0 M) ?_
      intro e511 q_ hq_
      obtain rfl : q_ = (77, [(0, .inr (.inr (5, 77))), (1, .inr (.inr (20, 81))), (2, .inl e511.1), (3, .inl e511.2.1)], [], 119, pm_RF, e511.2.2) := hq_
      refine R_st ho 2 (q' := (15, [(3, .inl (i_ad e511.2.1 1)), (0, .inr (.inr (5, 77))), (1, .inr (.inr (20, 81))), (2, .inl e511.1)], [], 119, pm_RF, e511.2.2)) rfl ?_
      refine R_pk [0, 1, 2, 3] rfl ?_
      exact ih_ e511.1 (i_ad e511.2.1 1) e511.2.2
theorem ok_Nights_spread_77_81_L2 (G : pm_G)    : ∀ (n_ : Nat) (y2 : Int) (M : pm_M), pm_R G mt_Nights_spread 2 (2, [(0, .inr (.inr (5, 77))), (1, .inr (.inr (20, 81))), (2, .inl y2)], [], 119, pm_RF, M) (f_Nights_spread_77_81_L2 n_ y2 M) (fun e_ q_ => q_ = (89, [], [], 119, pm_RF, e_)) := by
  have ho : pm_oG G mt_Nights_spread := (oa_Nights_spread).g G
  intro n_
  induction n_ with
  | zero => intro _ _; exact R_none
  | succ n_ ih_ =>
    intro y2 M
    rw [f_Nights_spread_77_81_L2]
    refine R_st ho 3 (q' := (7, [(0, .inr (.inr (5, 77))), (1, .inr (.inr (20, 81))), (2, .inl y2)], [.inr (.inr (11, 24)), .inl y2], 119, pm_RF, M)) rfl ?_
    refine R_callV ho mv_Told_plinths lk_5_35 rfl (As := []) (kd := 11) (a := 24) (st := [.inl y2]) rfl rfl (Nat.le_of_ble_eq_true rfl) rfl (by decide) (Nat.le_of_ble_eq_true rfl) (ok_Told_plinths G  M ) (fun r507 => ?_)
    show pm_R _ _ _ (10, [(0, .inr (.inr (5, 77))), (1, .inr (.inr (20, 81))), (2, .inl y2)], [.inl r507, .inl y2], 119, pm_RF, M) _ _
    refine R_ic ho rfl (tgt := 89) rfl ?_
    refine R_ge ?_ ?_
    · refine R_pk [] rfl ?_
      exact R_ret rfl
    · refine R_st ho 2 (q' := (15, [(3, .inl 0), (0, .inr (.inr (5, 77))), (1, .inr (.inr (20, 81))), (2, .inl y2)], [], 119, pm_RF, M)) rfl ?_
      refine R_pk [0, 1, 2, 3] rfl ?_
      refine R_bind (ok_Nights_spread_77_81_L15 G pm_F y2 0 M) ?_
      intro e512 q_ hq_
      obtain rfl : q_ = (83, [(0, .inr (.inr (5, 77))), (1, .inr (.inr (20, 81))), (2, .inl e512.1)], [], 119, pm_RF, e512.2) := hq_
      refine R_st ho 2 (q' := (2, [(2, .inl (i_ad e512.1 1)), (0, .inr (.inr (5, 77))), (1, .inr (.inr (20, 81)))], [], 119, pm_RF, e512.2)) rfl ?_
      refine R_pk [0, 1, 2] rfl ?_
      exact ih_ (i_ad e512.1 1) e512.2
theorem ok_Nights_spread_77_81 (G : pm_G)  (M : pm_M)  : pm_R G mt_Nights_spread 2 (0, [(0, .inr (.inr (5, 77))), (1, .inr (.inr (20, 81)))], [], 119, pm_RF, M) (f_Nights_spread_77_81 M) (pm_Zr mt_Nights_spread pm_gV) := by
  have ho : pm_oG G mt_Nights_spread := (oa_Nights_spread).g G
  unfold f_Nights_spread_77_81
  refine R_st ho 2 (q' := (2, [(2, .inl 1), (0, .inr (.inr (5, 77))), (1, .inr (.inr (20, 81)))], [], 119, pm_RF, M)) rfl ?_
  refine R_pk [0, 1, 2] rfl ?_
  refine R_bind (ok_Nights_spread_77_81_L2 G pm_F 1 M) ?_
  intro e513 q_ hq_
  obtain rfl : q_ = (89, [], [], 119, pm_RF, e513) := hq_
  exact R_end (v := none) rfl rfl rfl rfl
theorem ok_Nights_search_L31 (G : pm_G)    : ∀ (n_ : Nat) (y1 : Int) (y2 : Int) (M : pm_M), pm_R G mt_Nights_search 4 (31, [(0, .inr (.inr (5, 77))), (1, .inl y1), (2, .inl y2)], [], 119, pm_RF, M) (f_Nights_search_L31 n_ y1 y2 M) (fun e_ q_ => q_ = (71, [(0, .inr (.inr (5, 77))), (1, .inl e_.1)], [], 119, pm_RF, e_.2)) := by
  have ho : pm_oG G mt_Nights_search := (oa_Nights_search).g G
  intro n_
  induction n_ with
  | zero => intro _ _ _; exact R_none
  | succ n_ ih_ =>
    intro y1 y2 M
    rw [f_Nights_search_L31]
    refine R_st ho 2 (q' := (34, [(0, .inr (.inr (5, 77))), (1, .inl y1), (2, .inl y2)], [.inl 120, .inl y2], 119, pm_RF, M)) rfl ?_
    refine R_ic ho rfl (tgt := 71) rfl ?_
    refine R_ge ?_ ?_
    · refine R_pk [0, 1] rfl ?_
      exact R_ret rfl
    · refine R_st ho 5 (q' := (44, [(0, .inr (.inr (5, 77))), (1, .inl y1), (2, .inl y2)], [.inl y2, .inr (.inr (5, 77)), .inl y2, .inr (.inr (20, 80))], 119, pm_RF, M)) rfl ?_
      refine R_callV ho mv_Nights_looksAsNow lk_5_48 rfl (As := [.inl y2]) (kd := 5) (a := 77) (st := [.inl y2, .inr (.inr (20, 80))]) rfl rfl (Nat.le_of_ble_eq_true rfl) rfl (by decide) (Nat.le_of_ble_eq_true rfl) (ok_Nights_looksAsNow G y2 M ) (fun r472 => ?_)
      show pm_R _ _ _ (47, [(0, .inr (.inr (5, 77))), (1, .inl y1), (2, .inl y2)], [.inl r472, .inl y2, .inr (.inr (20, 80))], 119, pm_RF, M) _ _
      refine R_if ho rfl (tgt := 54) rfl ?_
      refine R_eq ?_ ?_
      · refine R_st ho 1 (q' := (57, [(0, .inr (.inr (5, 77))), (1, .inl y1), (2, .inl y2)], [.inl 1000, .inl y2, .inr (.inr (20, 80))], 119, pm_RF, M)) rfl ?_
        refine R_iast ho rfl rfl ?_
        refine R_nm fun M473 => ?_
        refine R_st ho 4 (q' := (64, [(0, .inr (.inr (5, 77))), (1, .inl y1), (2, .inl y2)], [.inl 0, .inl y2, .inr (.inr (20, 81))], 119, pm_RF, M473)) rfl ?_
        refine R_iast ho rfl rfl ?_
        refine R_nm fun M474 => ?_
        refine R_st ho 2 (q' := (31, [(2, .inl (i_ad y2 1)), (0, .inr (.inr (5, 77))), (1, .inl y1)], [], 119, pm_RF, M474)) rfl ?_
        refine R_pk [0, 1, 2] rfl ?_
        exact ih_ y1 (i_ad y2 1) M474
      · refine R_st ho 2 (q' := (57, [(0, .inr (.inr (5, 77))), (1, .inl y1), (2, .inl y2)], [.inl 0, .inl y2, .inr (.inr (20, 80))], 119, pm_RF, M)) rfl ?_
        refine R_iast ho rfl rfl ?_
        refine R_nm fun M475 => ?_
        refine R_st ho 4 (q' := (64, [(0, .inr (.inr (5, 77))), (1, .inl y1), (2, .inl y2)], [.inl 0, .inl y2, .inr (.inr (20, 81))], 119, pm_RF, M475)) rfl ?_
        refine R_iast ho rfl rfl ?_
        refine R_nm fun M476 => ?_
        refine R_st ho 2 (q' := (31, [(2, .inl (i_ad y2 1)), (0, .inr (.inr (5, 77))), (1, .inl y1)], [], 119, pm_RF, M476)) rfl ?_
        refine R_pk [0, 1, 2] rfl ?_
        exact ih_ y1 (i_ad y2 1) M476
theorem ok_Nights_search_L73 (G : pm_G)    : ∀ (n_ : Nat) (y1 : Int) (y2 : Int) (M : pm_M), pm_R G mt_Nights_search 4 (73, [(0, .inr (.inr (5, 77))), (1, .inl y1), (2, .inl y2)], [], 119, pm_RF, M) (f_Nights_search_L73 n_ y1 y2 M) (fun e_ q_ => q_ = (101, [(0, .inr (.inr (5, 77))), (1, .inl e_.1)], [], 119, pm_RF, e_.2)) := by
  have ho : pm_oG G mt_Nights_search := (oa_Nights_search).g G
  intro n_
  induction n_ with
  | zero => intro _ _ _; exact R_none
  | succ n_ ih_ =>
    intro y1 y2 M
    rw [f_Nights_search_L73]
    refine R_st ho 2 (q' := (75, [(0, .inr (.inr (5, 77))), (1, .inl y1), (2, .inl y2)], [.inl y1, .inl y2], 119, pm_RF, M)) rfl ?_
    refine R_ic ho rfl (tgt := 101) rfl ?_
    refine R_gt ?_ ?_
    · refine R_pk [0, 1] rfl ?_
      exact R_ret rfl
    · refine R_st ho 3 (q' := (83, [(0, .inr (.inr (5, 77))), (1, .inl y1), (2, .inl y2)], [.inr (.inr (20, 80)), .inr (.inr (5, 77))], 119, pm_RF, M)) rfl ?_
      refine R_callV ho mv_Nights_spread lk_5_52 rfl (As := [.inr (.inr (20, 80))]) (kd := 5) (a := 77) (st := []) rfl rfl (Nat.le_of_ble_eq_true rfl) rfl (by decide) (Nat.le_of_ble_eq_true rfl) (ok_Nights_spread_77_80 G  M ) (fun M485 => ?_)
      show pm_R _ _ _ (86, [(0, .inr (.inr (5, 77))), (1, .inl y1), (2, .inl y2)], [], 119, pm_RF, M485) _ _
      refine R_st ho 4 (q' := (92, [(0, .inr (.inr (5, 77))), (1, .inl y1), (2, .inl y2)], [.inl y2, .inr (.inr (20, 80)), .inr (.inr (5, 77))], 119, pm_RF, M485)) rfl ?_
      refine R_callV ho mv_Nights_keepSeen lk_5_56 rfl (As := [.inr (.inr (20, 80)), .inl y2]) (kd := 5) (a := 77) (st := []) rfl rfl (Nat.le_of_ble_eq_true rfl) rfl (by decide) (Nat.le_of_ble_eq_true rfl) (ok_Nights_keepSeen_77_80 G y2 M485 ) (fun M495 => ?_)
      show pm_R _ _ _ (95, [(0, .inr (.inr (5, 77))), (1, .inl y1), (2, .inl y2)], [], 119, pm_RF, M495) _ _
      refine R_st ho 2 (q' := (73, [(2, .inl (i_ad y2 1)), (0, .inr (.inr (5, 77))), (1, .inl y1)], [], 119, pm_RF, M495)) rfl ?_
      refine R_pk [0, 1, 2] rfl ?_
      exact ih_ y1 (i_ad y2 1) M495
theorem ok_Nights_search_L104 (G : pm_G)    : ∀ (n_ : Nat) (y1 : Int) (y2 : Int) (M : pm_M), pm_R G mt_Nights_search 4 (104, [(0, .inr (.inr (5, 77))), (1, .inl y1), (2, .inl y2)], [], 119, pm_RF, M) (f_Nights_search_L104 n_ y1 y2 M) (fun e_ q_ => q_ = (132, [(0, .inr (.inr (5, 77)))], [], 119, pm_RF, e_)) := by
  have ho : pm_oG G mt_Nights_search := (oa_Nights_search).g G
  intro n_
  induction n_ with
  | zero => intro _ _ _; exact R_none
  | succ n_ ih_ =>
    intro y1 y2 M
    rw [f_Nights_search_L104]
    refine R_st ho 2 (q' := (106, [(0, .inr (.inr (5, 77))), (1, .inl y1), (2, .inl y2)], [.inl y1, .inl y2], 119, pm_RF, M)) rfl ?_
    refine R_ic ho rfl (tgt := 132) rfl ?_
    refine R_le ?_ ?_
    · refine R_pk [0] rfl ?_
      exact R_ret rfl
    · refine R_st ho 4 (q' := (115, [(0, .inr (.inr (5, 77))), (1, .inl y1), (2, .inl y2)], [.inl y2, .inr (.inr (20, 81)), .inr (.inr (5, 77))], 119, pm_RF, M)) rfl ?_
      refine R_callV ho mv_Nights_keepSeen lk_5_56 rfl (As := [.inr (.inr (20, 81)), .inl y2]) (kd := 5) (a := 77) (st := []) rfl rfl (Nat.le_of_ble_eq_true rfl) rfl (by decide) (Nat.le_of_ble_eq_true rfl) (ok_Nights_keepSeen_77_81 G y2 M ) (fun M506 => ?_)
      show pm_R _ _ _ (118, [(0, .inr (.inr (5, 77))), (1, .inl y1), (2, .inl y2)], [], 119, pm_RF, M506) _ _
      refine R_st ho 3 (q' := (123, [(0, .inr (.inr (5, 77))), (1, .inl y1), (2, .inl y2)], [.inr (.inr (20, 81)), .inr (.inr (5, 77))], 119, pm_RF, M506)) rfl ?_
      refine R_callV ho mv_Nights_spread lk_5_52 rfl (As := [.inr (.inr (20, 81))]) (kd := 5) (a := 77) (st := []) rfl rfl (Nat.le_of_ble_eq_true rfl) rfl (by decide) (Nat.le_of_ble_eq_true rfl) (ok_Nights_spread_77_81 G  M506 ) (fun M514 => ?_)
      show pm_R _ _ _ (126, [(0, .inr (.inr (5, 77))), (1, .inl y1), (2, .inl y2)], [], 119, pm_RF, M514) _ _
      refine R_st ho 2 (q' := (104, [(2, .inl (i_ad y2 (-1))), (0, .inr (.inr (5, 77))), (1, .inl y1)], [], 119, pm_RF, M514)) rfl ?_
      refine R_pk [0, 1, 2] rfl ?_
      exact ih_ y1 (i_ad y2 (-1)) M514
theorem ok_Nights_search_L141 (G : pm_G)    : ∀ (n_ : Nat) (y2 : Int) (M : pm_M), pm_R G mt_Nights_search 4 (141, [(0, .inr (.inr (5, 77))), (2, .inl y2)], [], 119, pm_RF, M) (f_Nights_search_L141 n_ y2 M) (fun e_ q_ => q_ = (177, [(0, .inr (.inr (5, 77)))], [], 119, pm_RF, e_)) := by
  have ho : pm_oG G mt_Nights_search := (oa_Nights_search).g G
  intro n_
  induction n_ with
  | zero => intro _ _; exact R_none
  | succ n_ ih_ =>
    intro y2 M
    rw [f_Nights_search_L141]
    refine R_st ho 2 (q' := (144, [(0, .inr (.inr (5, 77))), (2, .inl y2)], [.inl 120, .inl y2], 119, pm_RF, M)) rfl ?_
    refine R_ic ho rfl (tgt := 177) rfl ?_
    refine R_ge ?_ ?_
    · refine R_pk [0] rfl ?_
      exact R_ret rfl
    · refine R_st ho 6 (q' := (157, [(0, .inr (.inr (5, 77))), (2, .inl y2)], [.inl y2, .inr (.inr (20, 80)), .inl (M 77 8), .inr (.inr (5, 77))], 119, pm_RF, M)) rfl ?_
      refine R_iald ho rfl rfl ?_
      refine R_st ho 3 (q' := (163, [(0, .inr (.inr (5, 77))), (2, .inl y2)], [.inl y2, .inr (.inr (20, 81)), .inl (M 80 (y2).toNat), .inl (M 77 8), .inr (.inr (5, 77))], 119, pm_RF, M)) rfl ?_
      refine R_iald ho rfl rfl ?_
      refine R_st ho 1 (q' := (165, [(0, .inr (.inr (5, 77))), (2, .inl y2)], [.inl (i_ad (M 80 (y2).toNat) (M 81 (y2).toNat)), .inl (M 77 8), .inr (.inr (5, 77))], 119, pm_RF, M)) rfl ?_
      refine R_i_mn ho lk_5_64 rfl (Nat.le_of_ble_eq_true rfl) ?_
      refine R_st ho 1 (q' := (171, [(0, .inr (.inr (5, 77))), (2, .inl y2)], [], 119, pm_RF, (pm_ms M 77 8 (i_mn (M 77 8) (i_ad (M 80 (y2).toNat) (M 81 (y2).toNat)))))) rfl ?_
      refine R_nm fun M517 => ?_
      refine R_st ho 2 (q' := (141, [(2, .inl (i_ad y2 1)), (0, .inr (.inr (5, 77)))], [], 119, pm_RF, M517)) rfl ?_
      refine R_pk [0, 2] rfl ?_
      exact ih_ (i_ad y2 1) M517
theorem ok_Nights_search (G : pm_G) (x1 : Int) (M : pm_M)  : pm_R G mt_Nights_search 4 (0, [(0, .inr (.inr (5, 77))), (1, .inl x1)], [], 119, pm_RF, M) (f_Nights_search x1 M) (pm_Zr mt_Nights_search pm_gI) := by
  have ho : pm_oG G mt_Nights_search := (oa_Nights_search).g G
  unfold f_Nights_search
  refine R_st ho 2 (q' := (4, [(0, .inr (.inr (5, 77))), (1, .inl x1)], [.inr (.inr (11, 24))], 119, pm_RF, M)) rfl ?_
  refine R_callV ho mv_Told_plinths lk_5_35 rfl (As := []) (kd := 11) (a := 24) (st := []) rfl rfl (Nat.le_of_ble_eq_true rfl) rfl (by decide) (Nat.le_of_ble_eq_true rfl) (ok_Told_plinths G  M ) (fun r443 => ?_)
  show pm_R _ _ _ (7, [(0, .inr (.inr (5, 77))), (1, .inl x1)], [.inl r443], 119, pm_RF, M) _ _
  refine R_st ho 1 (q' := (8, [(0, .inr (.inr (5, 77))), (1, .inl x1)], [.inl 5, .inl r443], 119, pm_RF, M)) rfl ?_
  refine R_ic ho rfl (tgt := 13) rfl ?_
  refine R_le ?_ ?_
  · refine R_st ho 2 (q' := (17, [(0, .inr (.inr (5, 77))), (1, .inl x1)], [.inl (M 77 7)], 119, pm_RF, M)) rfl ?_
    refine R_if ho rfl (tgt := 29) rfl ?_
    refine R_ne ?_ ?_
    · refine R_st ho 1 (q' := (21, [(0, .inr (.inr (5, 77))), (1, .inl x1)], [.inr (.inr (5, 77))], 119, pm_RF, M)) rfl ?_
      refine R_callV ho mv_Nights_makeStates lk_5_45 rfl (As := []) (kd := 5) (a := 77) (st := []) rfl rfl (Nat.le_of_ble_eq_true rfl) rfl (by decide) (Nat.le_of_ble_eq_true rfl) (ok_Nights_makeStates G  M ) (fun M465 => ?_)
      show pm_R _ _ _ (24, [(0, .inr (.inr (5, 77))), (1, .inl x1)], [], 119, pm_RF, M465) _ _
      refine R_st ho 3 (q' := (29, [(0, .inr (.inr (5, 77))), (1, .inl x1)], [], 119, pm_RF, (pm_ms M465 77 7 1))) rfl ?_
      refine R_nm fun M466 => ?_
      refine R_st ho 2 (q' := (31, [(2, .inl 0), (0, .inr (.inr (5, 77))), (1, .inl x1)], [], 119, pm_RF, M466)) rfl ?_
      refine R_pk [0, 1, 2] rfl ?_
      refine R_bind (ok_Nights_search_L31 G pm_F x1 0 M466) ?_
      intro e477 q_ hq_
      obtain rfl : q_ = (71, [(0, .inr (.inr (5, 77))), (1, .inl e477.1)], [], 119, pm_RF, e477.2) := hq_
      refine R_st ho 2 (q' := (73, [(2, .inl 1), (0, .inr (.inr (5, 77))), (1, .inl e477.1)], [], 119, pm_RF, e477.2)) rfl ?_
      refine R_pk [0, 1, 2] rfl ?_
      refine R_bind (ok_Nights_search_L73 G pm_F e477.1 1 e477.2) ?_
      intro e496 q_ hq_
      obtain rfl : q_ = (101, [(0, .inr (.inr (5, 77))), (1, .inl e496.1)], [], 119, pm_RF, e496.2) := hq_
      refine R_st ho 2 (q' := (104, [(2, .inl 8), (0, .inr (.inr (5, 77))), (1, .inl e496.1)], [], 119, pm_RF, e496.2)) rfl ?_
      refine R_pk [0, 1, 2] rfl ?_
      refine R_bind (ok_Nights_search_L104 G pm_F e496.1 8 e496.2) ?_
      intro e515 q_ hq_
      obtain rfl : q_ = (132, [(0, .inr (.inr (5, 77)))], [], 119, pm_RF, e515) := hq_
      refine R_st ho 3 (q' := (139, [(0, .inr (.inr (5, 77)))], [], 119, pm_RF, (pm_ms e515 77 8 1000))) rfl ?_
      refine R_nm fun M516 => ?_
      refine R_st ho 2 (q' := (141, [(2, .inl 0), (0, .inr (.inr (5, 77)))], [], 119, pm_RF, M516)) rfl ?_
      refine R_pk [0, 2] rfl ?_
      refine R_bind (ok_Nights_search_L141 G pm_F 0 M516) ?_
      intro e518 q_ hq_
      obtain rfl : q_ = (177, [(0, .inr (.inr (5, 77)))], [], 119, pm_RF, e518) := hq_
      refine R_st ho 3 (q' := (184, [(0, .inr (.inr (5, 77)))], [.inl 1000, .inl (e518 77 8)], 119, pm_RF, e518)) rfl ?_
      refine R_ic ho rfl (tgt := 194) rfl ?_
      refine R_ge ?_ ?_
      · refine R_st ho 1 (q' := (195, [(0, .inr (.inr (5, 77)))], [.inl (-1)], 119, pm_RF, e518)) rfl ?_
        exact R_end (v := some (.inl (-1))) rfl (Or.inl rfl) rfl rfl
      · refine R_st ho 3 (q' := (195, [(0, .inr (.inr (5, 77)))], [.inl (e518 77 8)], 119, pm_RF, e518)) rfl ?_
        exact R_end (v := some (.inl (e518 77 8))) rfl (Or.inl rfl) rfl rfl
    · refine R_st ho 2 (q' := (31, [(2, .inl 0), (0, .inr (.inr (5, 77))), (1, .inl x1)], [], 119, pm_RF, M)) rfl ?_
      refine R_pk [0, 1, 2] rfl ?_
      refine R_bind (ok_Nights_search_L31 G pm_F x1 0 M) ?_
      intro e519 q_ hq_
      obtain rfl : q_ = (71, [(0, .inr (.inr (5, 77))), (1, .inl e519.1)], [], 119, pm_RF, e519.2) := hq_
      refine R_st ho 2 (q' := (73, [(2, .inl 1), (0, .inr (.inr (5, 77))), (1, .inl e519.1)], [], 119, pm_RF, e519.2)) rfl ?_
      refine R_pk [0, 1, 2] rfl ?_
      refine R_bind (ok_Nights_search_L73 G pm_F e519.1 1 e519.2) ?_
      intro e520 q_ hq_
      obtain rfl : q_ = (101, [(0, .inr (.inr (5, 77))), (1, .inl e520.1)], [], 119, pm_RF, e520.2) := hq_
      refine R_st ho 2 (q' := (104, [(2, .inl 8), (0, .inr (.inr (5, 77))), (1, .inl e520.1)], [], 119, pm_RF, e520.2)) rfl ?_
      refine R_pk [0, 1, 2] rfl ?_
      refine R_bind (ok_Nights_search_L104 G pm_F e520.1 8 e520.2) ?_
      intro e521 q_ hq_
      obtain rfl : q_ = (132, [(0, .inr (.inr (5, 77)))], [], 119, pm_RF, e521) := hq_
      refine R_st ho 3 (q' := (139, [(0, .inr (.inr (5, 77)))], [], 119, pm_RF, (pm_ms e521 77 8 1000))) rfl ?_
      refine R_nm fun M522 => ?_
      refine R_st ho 2 (q' := (141, [(2, .inl 0), (0, .inr (.inr (5, 77)))], [], 119, pm_RF, M522)) rfl ?_
      refine R_pk [0, 2] rfl ?_
      refine R_bind (ok_Nights_search_L141 G pm_F 0 M522) ?_
      intro e523 q_ hq_
      obtain rfl : q_ = (177, [(0, .inr (.inr (5, 77)))], [], 119, pm_RF, e523) := hq_
      refine R_st ho 3 (q' := (184, [(0, .inr (.inr (5, 77)))], [.inl 1000, .inl (e523 77 8)], 119, pm_RF, e523)) rfl ?_
      refine R_ic ho rfl (tgt := 194) rfl ?_
      refine R_ge ?_ ?_
      · refine R_st ho 1 (q' := (195, [(0, .inr (.inr (5, 77)))], [.inl (-1)], 119, pm_RF, e523)) rfl ?_
        exact R_end (v := some (.inl (-1))) rfl (Or.inl rfl) rfl rfl
      · refine R_st ho 3 (q' := (195, [(0, .inr (.inr (5, 77)))], [.inl (e523 77 8)], 119, pm_RF, e523)) rfl ?_
        exact R_end (v := some (.inl (e523 77 8))) rfl (Or.inl rfl) rfl rfl
  · refine R_st ho 1 (q' := (12, [(0, .inr (.inr (5, 77))), (1, .inl x1)], [.inl (-1)], 119, pm_RF, M)) rfl ?_
    exact R_end (v := some (.inl (-1))) rfl (Or.inl rfl) rfl rfl
theorem ok_X_fewest (G : pm_G)  (M : pm_M)  : pm_R G mt_X_fewest 5 (0, [(0, .inr (.inr (0, 0)))], [], 119, pm_RF, M) (f_X_fewest M) (pm_Zr mt_X_fewest pm_gI) := by
  have ho : pm_oG G mt_X_fewest := (oa_X_fewest).g G
  unfold f_X_fewest
  refine R_st ho 3 (q' := (6, [(0, .inr (.inr (0, 0)))], [.inl 8, .inr (.inr (5, 77))], 119, pm_RF, M)) rfl ?_
  refine R_callV ho mv_Nights_search lk_0_268 rfl (As := [.inl 8]) (kd := 5) (a := 77) (st := []) rfl rfl (Nat.le_of_ble_eq_true rfl) rfl (by decide) (Nat.le_of_ble_eq_true rfl) (ok_Nights_search G 8 M ) (fun r524 => ?_)
  show pm_R _ _ _ (9, [(0, .inr (.inr (0, 0)))], [.inl r524.1], 119, pm_RF, r524.2) _ _
  exact R_end (v := some (.inl r524.1)) rfl (Or.inl rfl) rfl rfl
theorem ok_Nights_headsAt_L4 (G : pm_G)   (M : pm_M) : ∀ (n_ : Nat) (y1 : Int) (y2 : Int) (y3 : Int), pm_R G mt_Nights_headsAt 3 (4, [(0, .inr (.inr (5, 77))), (1, .inl y1), (2, .inl y2), (3, .inl y3)], [], 119, pm_RF, M) (f_Nights_headsAt_L4 M n_ y1 y2 y3) (fun e_ q_ => q_ = (63, [(2, .inl e_)], [], 119, pm_RF, M)) := by
  have ho : pm_oG G mt_Nights_headsAt := (oa_Nights_headsAt).g G
  intro n_
  induction n_ with
  | zero => intro _ _ _; exact R_none
  | succ n_ ih_ =>
    intro y1 y2 y3
    rw [f_Nights_headsAt_L4]
    refine R_st ho 2 (q' := (7, [(0, .inr (.inr (5, 77))), (1, .inl y1), (2, .inl y2), (3, .inl y3)], [.inl 120, .inl y3], 119, pm_RF, M)) rfl ?_
    refine R_ic ho rfl (tgt := 63) rfl ?_
    refine R_ge ?_ ?_
    · refine R_pk [2] rfl ?_
      exact R_ret rfl
    · refine R_st ho 3 (q' := (15, [(0, .inr (.inr (5, 77))), (1, .inl y1), (2, .inl y2), (3, .inl y3)], [.inl y3, .inr (.inr (20, 80))], 119, pm_RF, M)) rfl ?_
      refine R_iald ho rfl rfl ?_
      refine R_st ho 3 (q' := (21, [(0, .inr (.inr (5, 77))), (1, .inl y1), (2, .inl y2), (3, .inl y3)], [.inl y3, .inr (.inr (20, 81)), .inl (M 80 (y3).toNat)], 119, pm_RF, M)) rfl ?_
      refine R_iald ho rfl rfl ?_
      refine R_st ho 3 (q' := (27, [(0, .inr (.inr (5, 77))), (1, .inl y1), (2, .inl y2), (3, .inl y3)], [.inl (M 77 8), .inl (i_ad (M 80 (y3).toNat) (M 81 (y3).toNat))], 119, pm_RF, M)) rfl ?_
      refine R_ic ho rfl (tgt := 57) rfl ?_
      refine R_ne ?_ ?_
      · refine R_st ho 3 (q' := (33, [(0, .inr (.inr (5, 77))), (1, .inl y1), (2, .inl y2), (3, .inl y3)], [.inl y1, .inl y3, .inr (.inr (5, 77))], 119, pm_RF, M)) rfl ?_
        refine R_callV ho mv_Nights_headIn lk_5_70 rfl (As := [.inl y3, .inl y1]) (kd := 5) (a := 77) (st := []) rfl rfl (Nat.le_of_ble_eq_true rfl) rfl (by decide) (Nat.le_of_ble_eq_true rfl) (ok_Nights_headIn G y3 y1 M ) (fun r527 => ?_)
        show pm_R _ _ _ (36, [(0, .inr (.inr (5, 77))), (1, .inl y1), (2, .inl y2), (3, .inl y3)], [.inl r527], 119, pm_RF, M) _ _
        refine R_st ho 4 (q' := (42, [(4, .inl r527), (0, .inr (.inr (5, 77))), (1, .inl y1), (2, .inl y2), (3, .inl y3)], [.inl (-1), .inl r527, .inl y2], 119, pm_RF, M)) rfl ?_
        refine R_ic ho rfl (tgt := 51) rfl ?_
        refine R_ne ?_ ?_
        · refine R_st ho 6 (q' := (4, [(3, .inl (i_ad y3 1)), (2, .inl (i_or y2 4096)), (4, .inl r527), (0, .inr (.inr (5, 77))), (1, .inl y1)], [], 119, pm_RF, M)) rfl ?_
          refine R_pk [0, 1, 2, 3] rfl ?_
          exact ih_ y1 (i_or y2 4096) (i_ad y3 1)
        · refine R_st ho 5 (q' := (57, [(2, .inl (i_or y2 (i_sl 1 r527))), (4, .inl r527), (0, .inr (.inr (5, 77))), (1, .inl y1), (3, .inl y3)], [], 119, pm_RF, M)) rfl ?_
          refine R_nx (fun z_ => (57, [(2, .inl z_), (4, .inl r527), (0, .inr (.inr (5, 77))), (1, .inl y1), (3, .inl y3)], [], 119, pm_RF, M)) fun v528 => ?_
          refine R_st ho 2 (q' := (4, [(3, .inl (i_ad y3 1)), (2, .inl v528), (4, .inl r527), (0, .inr (.inr (5, 77))), (1, .inl y1)], [], 119, pm_RF, M)) rfl ?_
          refine R_pk [0, 1, 2, 3] rfl ?_
          exact ih_ y1 v528 (i_ad y3 1)
      · refine R_st ho 2 (q' := (4, [(3, .inl (i_ad y3 1)), (0, .inr (.inr (5, 77))), (1, .inl y1), (2, .inl y2)], [], 119, pm_RF, M)) rfl ?_
        refine R_pk [0, 1, 2, 3] rfl ?_
        exact ih_ y1 y2 (i_ad y3 1)
theorem ok_Nights_headsAt (G : pm_G) (x1 : Int) (M : pm_M)  : pm_R G mt_Nights_headsAt 3 (0, [(0, .inr (.inr (5, 77))), (1, .inl x1)], [], 119, pm_RF, M) (f_Nights_headsAt x1 M) (pm_Zr mt_Nights_headsAt (pm_gi M)) := by
  have ho : pm_oG G mt_Nights_headsAt := (oa_Nights_headsAt).g G
  unfold f_Nights_headsAt
  refine R_st ho 4 (q' := (4, [(3, .inl 0), (2, .inl 0), (0, .inr (.inr (5, 77))), (1, .inl x1)], [], 119, pm_RF, M)) rfl ?_
  refine R_pk [0, 1, 2, 3] rfl ?_
  refine R_bind (ok_Nights_headsAt_L4 G M pm_F x1 0 0) ?_
  intro e529 q_ hq_
  obtain rfl : q_ = (63, [(2, .inl e529)], [], 119, pm_RF, M) := hq_
  refine R_st ho 1 (q' := (64, [(2, .inl e529)], [.inl e529], 119, pm_RF, M)) rfl ?_
  exact R_end (v := some (.inl e529)) rfl (Or.inl rfl) rfl rfl
theorem ok_X_who (G : pm_G) (x1 : Int) (x2 : Int) (M : pm_M)  : pm_R G mt_X_who 5 (0, [(0, .inr (.inr (0, 0))), (1, .inl x1), (2, .inl x2)], [], 119, pm_RF, M) (f_X_who x1 x2 M) (pm_Zr mt_X_who pm_gI) := by
  have ho : pm_oG G mt_X_who := (oa_X_who).g G
  unfold f_X_who
  refine R_st ho 1 (q' := (1, [(0, .inr (.inr (0, 0))), (1, .inl x1), (2, .inl x2)], [.inl x1], 119, pm_RF, M)) rfl ?_
  refine R_if ho rfl (tgt := 33) rfl ?_
  refine R_lt ?_ ?_
  · refine R_st ho 1 (q' := (34, [(0, .inr (.inr (0, 0))), (1, .inl x1), (2, .inl x2)], [.inl (-1)], 119, pm_RF, M)) rfl ?_
    exact R_end (v := some (.inl (-1))) rfl (Or.inl rfl) rfl rfl
  · refine R_st ho 2 (q' := (7, [(0, .inr (.inr (0, 0))), (1, .inl x1), (2, .inl x2)], [.inl 8, .inl x1], 119, pm_RF, M)) rfl ?_
    refine R_ic ho rfl (tgt := 33) rfl ?_
    refine R_gt ?_ ?_
    · refine R_st ho 1 (q' := (34, [(0, .inr (.inr (0, 0))), (1, .inl x1), (2, .inl x2)], [.inl (-1)], 119, pm_RF, M)) rfl ?_
      exact R_end (v := some (.inl (-1))) rfl (Or.inl rfl) rfl rfl
    · refine R_st ho 3 (q' := (15, [(0, .inr (.inr (0, 0))), (1, .inl x1), (2, .inl x2)], [.inl x2, .inr (.inr (11, 24))], 119, pm_RF, M)) rfl ?_
      refine R_callV ho mv_Told_isPlinth lk_0_139 rfl (As := [.inl x2]) (kd := 11) (a := 24) (st := []) rfl rfl (Nat.le_of_ble_eq_true rfl) rfl (by decide) (Nat.le_of_ble_eq_true rfl) (ok_Told_isPlinth G x2 M ) (fun r525 => ?_)
      show pm_R _ _ _ (18, [(0, .inr (.inr (0, 0))), (1, .inl x1), (2, .inl x2)], [.inl r525], 119, pm_RF, M) _ _
      refine R_if ho rfl (tgt := 33) rfl ?_
      refine R_eq ?_ ?_
      · refine R_st ho 1 (q' := (34, [(0, .inr (.inr (0, 0))), (1, .inl x1), (2, .inl x2)], [.inl (-1)], 119, pm_RF, M)) rfl ?_
        exact R_end (v := some (.inl (-1))) rfl (Or.inl rfl) rfl rfl
      · refine R_st ho 3 (q' := (26, [(0, .inr (.inr (0, 0))), (1, .inl x1), (2, .inl x2)], [.inl x1, .inr (.inr (5, 77))], 119, pm_RF, M)) rfl ?_
        refine R_callV ho mv_Nights_search lk_0_268 rfl (As := [.inl x1]) (kd := 5) (a := 77) (st := []) rfl rfl (Nat.le_of_ble_eq_true rfl) rfl (by decide) (Nat.le_of_ble_eq_true rfl) (ok_Nights_search G x1 M ) (fun r526 => ?_)
        show pm_R _ _ _ (29, [(0, .inr (.inr (0, 0))), (1, .inl x1), (2, .inl x2)], [.inl r526.1], 119, pm_RF, r526.2) _ _
        refine R_st ho 1 (q' := (30, [(0, .inr (.inr (0, 0))), (1, .inl x1), (2, .inl x2)], [.inl (-1), .inl r526.1], 119, pm_RF, r526.2)) rfl ?_
        refine R_ic ho rfl (tgt := 35) rfl ?_
        refine R_ne ?_ ?_
        · refine R_st ho 1 (q' := (34, [(0, .inr (.inr (0, 0))), (1, .inl x1), (2, .inl x2)], [.inl (-1)], 119, pm_RF, r526.2)) rfl ?_
          exact R_end (v := some (.inl (-1))) rfl (Or.inl rfl) rfl rfl
        · refine R_st ho 3 (q' := (40, [(0, .inr (.inr (0, 0))), (1, .inl x1), (2, .inl x2)], [.inl x2, .inr (.inr (5, 77))], 119, pm_RF, r526.2)) rfl ?_
          refine R_callV ho mv_Nights_headsAt lk_0_271 rfl (As := [.inl x2]) (kd := 5) (a := 77) (st := []) rfl rfl (Nat.le_of_ble_eq_true rfl) rfl (by decide) (Nat.le_of_ble_eq_true rfl) (ok_Nights_headsAt G x2 r526.2 ) (fun r530 => ?_)
          show pm_R _ _ _ (43, [(0, .inr (.inr (0, 0))), (1, .inl x1), (2, .inl x2)], [.inl r530], 119, pm_RF, r526.2) _ _
          exact R_end (v := some (.inl r530)) rfl (Or.inl rfl) rfl rfl
theorem ok_Moment_daysStood (G : pm_G) (x1 : Int) (x2 : Int) (M : pm_M)  : pm_R G mt_Moment_daysStood 2 (0, [(0, .inr (.inr (4, 35))), (1, .inl x1), (2, .inl x2)], [], 119, pm_RF, M) (f_Moment_daysStood x1 x2 M) (pm_Zr mt_Moment_daysStood (pm_gi M)) := by
  have ho : pm_oG G mt_Moment_daysStood := (oa_Moment_daysStood).g G
  unfold f_Moment_daysStood
  refine R_st ho 4 (q' := (6, [(0, .inr (.inr (4, 35))), (1, .inl x1), (2, .inl x2)], [.inl x2, .inl x1, .inr (.inr (20, 36))], 119, pm_RF, M)) rfl ?_
  refine R_callS ho ms_Moment_stoodPlace lk_4_15 rfl (As := [.inl x1, .inl x2]) (st := [.inr (.inr (20, 36))]) rfl (Nat.le_of_ble_eq_true rfl) rfl (by decide) (Nat.le_of_ble_eq_true rfl) (ok_Moment_stoodPlace G x1 x2 M ) (fun r533 => ?_)
  show pm_R _ _ _ (9, [(0, .inr (.inr (4, 35))), (1, .inl x1), (2, .inl x2)], [.inl r533, .inr (.inr (20, 36))], 119, pm_RF, M) _ _
  refine R_iald ho rfl rfl ?_
  exact R_end (v := some (.inl (M 36 (r533).toNat))) rfl (Or.inl rfl) rfl rfl
theorem ok_X_stood (G : pm_G) (x1 : Int) (x2 : Int) (M : pm_M)  : pm_R G mt_X_stood 3 (0, [(0, .inr (.inr (0, 0))), (1, .inl x1), (2, .inl x2)], [], 119, pm_RF, M) (f_X_stood x1 x2 M) (pm_Zr mt_X_stood (pm_gi M)) := by
  have ho : pm_oG G mt_X_stood := (oa_X_stood).g G
  unfold f_X_stood
  refine R_st ho 3 (q' := (5, [(0, .inr (.inr (0, 0))), (1, .inl x1), (2, .inl x2)], [.inl x1, .inr (.inr (11, 24))], 119, pm_RF, M)) rfl ?_
  refine R_callV ho mv_Told_isHead lk_0_151 rfl (As := [.inl x1]) (kd := 11) (a := 24) (st := []) rfl rfl (Nat.le_of_ble_eq_true rfl) rfl (by decide) (Nat.le_of_ble_eq_true rfl) (ok_Told_isHead G x1 M ) (fun r531 => ?_)
  show pm_R _ _ _ (8, [(0, .inr (.inr (0, 0))), (1, .inl x1), (2, .inl x2)], [.inl r531], 119, pm_RF, M) _ _
  refine R_if ho rfl (tgt := 18) rfl ?_
  refine R_eq ?_ ?_
  · refine R_st ho 1 (q' := (19, [(0, .inr (.inr (0, 0))), (1, .inl x1), (2, .inl x2)], [.inl (-1)], 119, pm_RF, M)) rfl ?_
    exact R_end (v := some (.inl (-1))) rfl (Or.inl rfl) rfl rfl
  · refine R_st ho 1 (q' := (12, [(0, .inr (.inr (0, 0))), (1, .inl x1), (2, .inl x2)], [.inl x2], 119, pm_RF, M)) rfl ?_
    refine R_callS ho ms_X_isName lk_0_142 rfl (As := [.inl x2]) (st := []) rfl (Nat.le_of_ble_eq_true rfl) rfl (by decide) (Nat.le_of_ble_eq_true rfl) (ok_X_isName G x2 M ) (fun r532 => ?_)
    show pm_R _ _ _ (15, [(0, .inr (.inr (0, 0))), (1, .inl x1), (2, .inl x2)], [.inl r532], 119, pm_RF, M) _ _
    refine R_if ho rfl (tgt := 20) rfl ?_
    refine R_ne ?_ ?_
    · refine R_st ho 1 (q' := (19, [(0, .inr (.inr (0, 0))), (1, .inl x1), (2, .inl x2)], [.inl (-1)], 119, pm_RF, M)) rfl ?_
      exact R_end (v := some (.inl (-1))) rfl (Or.inl rfl) rfl rfl
    · refine R_st ho 4 (q' := (26, [(0, .inr (.inr (0, 0))), (1, .inl x1), (2, .inl x2)], [.inl x2, .inl x1, .inr (.inr (4, 35))], 119, pm_RF, M)) rfl ?_
      refine R_callV ho mv_Moment_daysStood lk_0_274 rfl (As := [.inl x1, .inl x2]) (kd := 4) (a := 35) (st := []) rfl rfl (Nat.le_of_ble_eq_true rfl) rfl (by decide) (Nat.le_of_ble_eq_true rfl) (ok_Moment_daysStood G x1 x2 M ) (fun r534 => ?_)
      show pm_R _ _ _ (29, [(0, .inr (.inr (0, 0))), (1, .inl x1), (2, .inl x2)], [.inl r534], 119, pm_RF, M) _ _
      exact R_end (v := some (.inl r534)) rfl (Or.inl rfl) rfl rfl
theorem ok_X_longest_L16 (G : pm_G)   (M : pm_M) : ∀ (n_ : Nat) (y1 : Int) (y2 : Int) (y3 : Int) (y4 : Int), pm_R G mt_X_longest 3 (16, [(0, .inr (.inr (0, 0))), (1, .inl y1), (2, .inl y2), (3, .inl y3), (4, .inl y4)], [], 119, pm_RF, M) (f_X_longest_L16 M n_ y1 y2 y3 y4) (fun e_ q_ => q_ = (58, [(2, .inl e_)], [], 119, pm_RF, M)) := by
  have ho : pm_oG G mt_X_longest := (oa_X_longest).g G
  intro n_
  induction n_ with
  | zero => intro _ _ _ _; exact R_none
  | succ n_ ih_ =>
    intro y1 y2 y3 y4
    rw [f_X_longest_L16]
    refine R_st ho 3 (q' := (22, [(0, .inr (.inr (0, 0))), (1, .inl y1), (2, .inl y2), (3, .inl y3), (4, .inl y4)], [.inr (.inr (11, 24)), .inl y4], 119, pm_RF, M)) rfl ?_
    refine R_callV ho mv_Told_heads lk_0_277 rfl (As := []) (kd := 11) (a := 24) (st := [.inl y4]) rfl rfl (Nat.le_of_ble_eq_true rfl) rfl (by decide) (Nat.le_of_ble_eq_true rfl) (ok_Told_heads G  M ) (fun r536 => ?_)
    show pm_R _ _ _ (25, [(0, .inr (.inr (0, 0))), (1, .inl y1), (2, .inl y2), (3, .inl y3), (4, .inl y4)], [.inl r536, .inl y4], 119, pm_RF, M) _ _
    refine R_ic ho rfl (tgt := 58) rfl ?_
    refine R_ge ?_ ?_
    · refine R_pk [2] rfl ?_
      exact R_ret rfl
    · refine R_st ho 4 (q' := (35, [(0, .inr (.inr (0, 0))), (1, .inl y1), (2, .inl y2), (3, .inl y3), (4, .inl y4)], [.inl y1, .inl y4, .inr (.inr (4, 35))], 119, pm_RF, M)) rfl ?_
      refine R_callV ho mv_Moment_daysStood lk_0_274 rfl (As := [.inl y4, .inl y1]) (kd := 4) (a := 35) (st := []) rfl rfl (Nat.le_of_ble_eq_true rfl) rfl (by decide) (Nat.le_of_ble_eq_true rfl) (ok_Moment_daysStood G y4 y1 M ) (fun r537 => ?_)
      show pm_R _ _ _ (38, [(0, .inr (.inr (0, 0))), (1, .inl y1), (2, .inl y2), (3, .inl y3), (4, .inl y4)], [.inl r537], 119, pm_RF, M) _ _
      refine R_st ho 3 (q' := (43, [(5, .inl r537), (0, .inr (.inr (0, 0))), (1, .inl y1), (2, .inl y2), (3, .inl y3), (4, .inl y4)], [.inl y3, .inl r537], 119, pm_RF, M)) rfl ?_
      refine R_ic ho rfl (tgt := 52) rfl ?_
      refine R_le ?_ ?_
      · refine R_st ho 2 (q' := (16, [(4, .inl (i_ad y4 1)), (5, .inl r537), (0, .inr (.inr (0, 0))), (1, .inl y1), (2, .inl y2), (3, .inl y3)], [], 119, pm_RF, M)) rfl ?_
        refine R_pk [0, 1, 2, 3, 4] rfl ?_
        exact ih_ y1 y2 y3 (i_ad y4 1)
      · refine R_st ho 6 (q' := (16, [(4, .inl (i_ad y4 1)), (2, .inl y4), (3, .inl r537), (5, .inl r537), (0, .inr (.inr (0, 0))), (1, .inl y1)], [], 119, pm_RF, M)) rfl ?_
        refine R_pk [0, 1, 2, 3, 4] rfl ?_
        exact ih_ y1 y4 r537 (i_ad y4 1)
theorem ok_X_longest (G : pm_G) (x1 : Int) (M : pm_M)  : pm_R G mt_X_longest 3 (0, [(0, .inr (.inr (0, 0))), (1, .inl x1)], [], 119, pm_RF, M) (f_X_longest x1 M) (pm_Zr mt_X_longest (pm_gi M)) := by
  have ho : pm_oG G mt_X_longest := (oa_X_longest).g G
  unfold f_X_longest
  refine R_st ho 1 (q' := (1, [(0, .inr (.inr (0, 0))), (1, .inl x1)], [.inl x1], 119, pm_RF, M)) rfl ?_
  refine R_callS ho ms_X_isName lk_0_142 rfl (As := [.inl x1]) (st := []) rfl (Nat.le_of_ble_eq_true rfl) rfl (by decide) (Nat.le_of_ble_eq_true rfl) (ok_X_isName G x1 M ) (fun r535 => ?_)
  show pm_R _ _ _ (4, [(0, .inr (.inr (0, 0))), (1, .inl x1)], [.inl r535], 119, pm_RF, M) _ _
  refine R_if ho rfl (tgt := 9) rfl ?_
  refine R_ne ?_ ?_
  · refine R_st ho 1 (q' := (8, [(0, .inr (.inr (0, 0))), (1, .inl x1)], [.inl (-1)], 119, pm_RF, M)) rfl ?_
    exact R_end (v := some (.inl (-1))) rfl (Or.inl rfl) rfl rfl
  · refine R_st ho 6 (q' := (16, [(4, .inl 0), (3, .inl 0), (2, .inl (-1)), (0, .inr (.inr (0, 0))), (1, .inl x1)], [], 119, pm_RF, M)) rfl ?_
    refine R_pk [0, 1, 2, 3, 4] rfl ?_
    refine R_bind (ok_X_longest_L16 G M pm_F x1 (-1) 0 0) ?_
    intro e538 q_ hq_
    obtain rfl : q_ = (58, [(2, .inl e538)], [], 119, pm_RF, M) := hq_
    refine R_st ho 1 (q' := (59, [(2, .inl e538)], [.inl e538], 119, pm_RF, M)) rfl ?_
    exact R_end (v := some (.inl e538)) rfl (Or.inl rfl) rfl rfl
theorem ok_Walk_canBeBetter_L7 (G : pm_G)   (M : pm_M) : ∀ (n_ : Nat) (y1 : Int) (y2 : Int) (y3 : Int) (y5 : Int) (y6 : Int), pm_R G mt_Walk_canBeBetter 2 (7, [(0, .inr (.inr (12, 83))), (1, .inl y1), (2, .inl y2), (3, .inl y3), (5, .inl y5), (6, .inl y6)], [], 119, pm_RF, M) (f_Walk_canBeBetter_L7 M n_ y1 y2 y3 y5 y6) (fun e_ q_ => q_ = (69, [(0, .inr (.inr (12, 83))), (3, .inl e_.1), (5, .inl e_.2)], [], 119, pm_RF, M)) := by
  have ho : pm_oG G mt_Walk_canBeBetter := (oa_Walk_canBeBetter).g G
  intro n_
  induction n_ with
  | zero => intro _ _ _ _ _; exact R_none
  | succ n_ ih_ =>
    intro y1 y2 y3 y5 y6
    rw [f_Walk_canBeBetter_L7]
    refine R_st ho 3 (q' := (13, [(0, .inr (.inr (12, 83))), (1, .inl y1), (2, .inl y2), (3, .inl y3), (5, .inl y5), (6, .inl y6)], [.inr (.inr (11, 24)), .inl y6], 119, pm_RF, M)) rfl ?_
    refine R_callV ho mv_Told_plinths lk_12_38 rfl (As := []) (kd := 11) (a := 24) (st := [.inl y6]) rfl rfl (Nat.le_of_ble_eq_true rfl) rfl (by decide) (Nat.le_of_ble_eq_true rfl) (ok_Told_plinths G  M ) (fun r556 => ?_)
    show pm_R _ _ _ (16, [(0, .inr (.inr (12, 83))), (1, .inl y1), (2, .inl y2), (3, .inl y3), (5, .inl y5), (6, .inl y6)], [.inl r556, .inl y6], 119, pm_RF, M) _ _
    refine R_ic ho rfl (tgt := 69) rfl ?_
    refine R_ge ?_ ?_
    · refine R_pk [0, 3, 5] rfl ?_
      exact R_ret rfl
    · refine R_st ho 5 (q' := (25, [(0, .inr (.inr (12, 83))), (1, .inl y1), (2, .inl y2), (3, .inl y3), (5, .inl y5), (6, .inl y6)], [.inl (i_an y2 (i_sl 1 y6))], 119, pm_RF, M)) rfl ?_
      refine R_if ho rfl (tgt := 63) rfl ?_
      refine R_ne ?_ ?_
      · refine R_st ho 8 (q' := (40, [(0, .inr (.inr (12, 83))), (1, .inl y1), (2, .inl y2), (3, .inl y3), (5, .inl y5), (6, .inl y6)], [.inl (i_ad (i_ml y1 8) y6), .inr (.inr (20, 84)), .inl y3], 119, pm_RF, M)) rfl ?_
        refine R_iald ho rfl rfl ?_
        refine R_st ho 3 (q' := (46, [(0, .inr (.inr (12, 83))), (1, .inl y1), (2, .inl y2), (3, .inl y3), (5, .inl y5), (6, .inl y6)], [.inl (M 83 4), .inl (i_ad y3 (M 84 ((i_ad (i_ml y1 8) y6)).toNat))], 119, pm_RF, M)) rfl ?_
        refine R_ic ho rfl (tgt := 63) rfl ?_
        refine R_gt ?_ ?_
        · refine R_st ho 2 (q' := (7, [(6, .inl (i_ad y6 1)), (0, .inr (.inr (12, 83))), (1, .inl y1), (2, .inl y2), (3, .inl y3), (5, .inl y5)], [], 119, pm_RF, M)) rfl ?_
          refine R_pk [0, 1, 2, 3, 5, 6] rfl ?_
          exact ih_ y1 y2 y3 y5 (i_ad y6 1)
        · refine R_st ho 4 (q' := (57, [(0, .inr (.inr (12, 83))), (1, .inl y1), (2, .inl y2), (3, .inl y3), (5, .inl y5), (6, .inl y6)], [.inl y6, .inr (.inr (11, 24)), .inl y5], 119, pm_RF, M)) rfl ?_
          refine R_callV ho mv_Told_viewOf lk_12_48 rfl (As := [.inl y6]) (kd := 11) (a := 24) (st := [.inl y5]) rfl rfl (Nat.le_of_ble_eq_true rfl) rfl (by decide) (Nat.le_of_ble_eq_true rfl) (ok_Told_viewOf G y6 M ) (fun r557 => ?_)
          show pm_R _ _ _ (60, [(0, .inr (.inr (12, 83))), (1, .inl y1), (2, .inl y2), (3, .inl y3), (5, .inl y5), (6, .inl y6)], [.inl r557, .inl y5], 119, pm_RF, M) _ _
          refine R_st ho 4 (q' := (7, [(6, .inl (i_ad y6 1)), (5, .inl (i_ad y5 r557)), (0, .inr (.inr (12, 83))), (1, .inl y1), (2, .inl y2), (3, .inl y3)], [], 119, pm_RF, M)) rfl ?_
          refine R_pk [0, 1, 2, 3, 5, 6] rfl ?_
          exact ih_ y1 y2 y3 (i_ad y5 r557) (i_ad y6 1)
      · refine R_st ho 2 (q' := (7, [(6, .inl (i_ad y6 1)), (0, .inr (.inr (12, 83))), (1, .inl y1), (2, .inl y2), (3, .inl y3), (5, .inl y5)], [], 119, pm_RF, M)) rfl ?_
        refine R_pk [0, 1, 2, 3, 5, 6] rfl ?_
        exact ih_ y1 y2 y3 y5 (i_ad y6 1)
theorem ok_Walk_canBeBetter (G : pm_G) (x1 : Int) (x2 : Int) (x3 : Int) (x4 : Int) (M : pm_M)  : pm_R G mt_Walk_canBeBetter 2 (0, [(0, .inr (.inr (12, 83))), (1, .inl x1), (2, .inl x2), (3, .inl x3), (4, .inl x4)], [], 119, pm_RF, M) (f_Walk_canBeBetter x1 x2 x3 x4 M) (pm_Zr mt_Walk_canBeBetter (pm_gi M)) := by
  have ho : pm_oG G mt_Walk_canBeBetter := (oa_Walk_canBeBetter).g G
  unfold f_Walk_canBeBetter
  refine R_st ho 4 (q' := (7, [(6, .inl 0), (5, .inl x4), (0, .inr (.inr (12, 83))), (1, .inl x1), (2, .inl x2), (3, .inl x3), (4, .inl x4)], [], 119, pm_RF, M)) rfl ?_
  refine R_pk [0, 1, 2, 3, 5, 6] rfl ?_
  refine R_bind (ok_Walk_canBeBetter_L7 G M pm_F x1 x2 x3 x4 0) ?_
  intro e558 q_ hq_
  obtain rfl : q_ = (69, [(0, .inr (.inr (12, 83))), (3, .inl e558.1), (5, .inl e558.2)], [], 119, pm_RF, M) := hq_
  refine R_st ho 3 (q' := (75, [(0, .inr (.inr (12, 83))), (3, .inl e558.1), (5, .inl e558.2)], [.inl (M 83 6), .inl e558.2], 119, pm_RF, M)) rfl ?_
  refine R_ic ho rfl (tgt := 95) rfl ?_
  refine R_gt ?_ ?_
  · refine R_st ho 2 (q' := (100, [(0, .inr (.inr (12, 83))), (3, .inl e558.1), (5, .inl e558.2)], [.inl 1], 119, pm_RF, M)) rfl ?_
    exact R_end (v := some (.inl 1)) rfl (Or.inr ⟨rfl, Or.inr rfl⟩) rfl rfl
  · refine R_st ho 3 (q' := (84, [(0, .inr (.inr (12, 83))), (3, .inl e558.1), (5, .inl e558.2)], [.inl (M 83 6), .inl e558.2], 119, pm_RF, M)) rfl ?_
    refine R_ic ho rfl (tgt := 99) rfl ?_
    refine R_ne ?_ ?_
    · refine R_st ho 3 (q' := (92, [(0, .inr (.inr (12, 83))), (3, .inl e558.1), (5, .inl e558.2)], [.inl (M 83 7), .inl e558.1], 119, pm_RF, M)) rfl ?_
      refine R_ic ho rfl (tgt := 99) rfl ?_
      refine R_ge ?_ ?_
      · refine R_st ho 1 (q' := (100, [(0, .inr (.inr (12, 83))), (3, .inl e558.1), (5, .inl e558.2)], [.inl 0], 119, pm_RF, M)) rfl ?_
        exact R_end (v := some (.inl 0)) rfl (Or.inr ⟨rfl, Or.inl rfl⟩) rfl rfl
      · refine R_st ho 2 (q' := (100, [(0, .inr (.inr (12, 83))), (3, .inl e558.1), (5, .inl e558.2)], [.inl 1], 119, pm_RF, M)) rfl ?_
        exact R_end (v := some (.inl 1)) rfl (Or.inr ⟨rfl, Or.inr rfl⟩) rfl rfl
    · refine R_st ho 1 (q' := (100, [(0, .inr (.inr (12, 83))), (3, .inl e558.1), (5, .inl e558.2)], [.inl 0], 119, pm_RF, M)) rfl ?_
      exact R_end (v := some (.inl 0)) rfl (Or.inr ⟨rfl, Or.inl rfl⟩) rfl rfl
theorem ok_Walk_goOn_L98 (G : pm_G) (D : Nat) (hD : 3 ≤ D) (rc : Int → Int → Int → Int → pm_M → Option pm_M) (hr0 : ∀ (a b c e : Int) (M : pm_M), pm_R G mt_Walk_goOn D (0, [(0, .inr (.inr (12, 83))), (1, .inl a), (2, .inl b), (3, .inl c), (4, .inl e)], [], 119, pm_RF, M) (rc a b c e M) (pm_Zr mt_Walk_goOn pm_gV))  : ∀ (n_ : Nat) (y1 : Int) (y2 : Int) (y3 : Int) (y4 : Int) (y5 : Int) (y6 : Int) (M : pm_M), pm_R G mt_Walk_goOn (D + 1) (98, [(0, .inr (.inr (12, 83))), (1, .inl y1), (2, .inl y2), (3, .inl y3), (4, .inl y4), (5, .inl y5), (6, .inl y6)], [], 119, pm_RF, M) (f_Walk_goOn_L98 rc n_ y1 y2 y3 y4 y5 y6 M) (fun e_ q_ => q_ = (183, [], [], 119, pm_RF, e_)) := by
  have ho : pm_oG G mt_Walk_goOn := (oa_Walk_goOn).g G
  intro n_
  induction n_ with
  | zero => intro _ _ _ _ _ _ _; exact R_none
  | succ n_ ih_ =>
    intro y1 y2 y3 y4 y5 y6 M
    rw [f_Walk_goOn_L98]
    refine R_st ho 3 (q' := (104, [(0, .inr (.inr (12, 83))), (1, .inl y1), (2, .inl y2), (3, .inl y3), (4, .inl y4), (5, .inl y5), (6, .inl y6)], [.inr (.inr (11, 24)), .inl y6], 119, pm_RF, M)) rfl ?_
    refine R_callV ho mv_Told_plinths lk_12_38 rfl (As := []) (kd := 11) (a := 24) (st := [.inl y6]) rfl rfl (Nat.le_of_ble_eq_true rfl) rfl (by omega) (Nat.le_of_ble_eq_true rfl) (ok_Told_plinths G  M ) (fun r561 => ?_)
    show pm_R _ _ _ (107, [(0, .inr (.inr (12, 83))), (1, .inl y1), (2, .inl y2), (3, .inl y3), (4, .inl y4), (5, .inl y5), (6, .inl y6)], [.inl r561, .inl y6], 119, pm_RF, M) _ _
    refine R_ic ho rfl (tgt := 183) rfl ?_
    refine R_ge ?_ ?_
    · refine R_pk [] rfl ?_
      exact R_ret rfl
    · refine R_st ho 6 (q' := (120, [(0, .inr (.inr (12, 83))), (1, .inl y1), (2, .inl y2), (3, .inl y3), (4, .inl y4), (5, .inl y5), (6, .inl y6)], [.inl (i_ad y5 y6), .inr (.inr (20, 84)), .inl y3], 119, pm_RF, M)) rfl ?_
      refine R_iald ho rfl rfl ?_
      refine R_st ho 2 (q' := (124, [(7, .inl (i_ad y3 (M 84 ((i_ad y5 y6)).toNat))), (0, .inr (.inr (12, 83))), (1, .inl y1), (2, .inl y2), (3, .inl y3), (4, .inl y4), (5, .inl y5), (6, .inl y6)], [], 119, pm_RF, M)) rfl ?_
      refine R_nx (fun z_ => (124, [(7, .inl z_), (0, .inr (.inr (12, 83))), (1, .inl y1), (2, .inl y2), (3, .inl y3), (4, .inl y4), (5, .inl y5), (6, .inl y6)], [], 119, pm_RF, M)) fun v562 => ?_
      refine R_st ho 5 (q' := (130, [(7, .inl v562), (0, .inr (.inr (12, 83))), (1, .inl y1), (2, .inl y2), (3, .inl y3), (4, .inl y4), (5, .inl y5), (6, .inl y6)], [.inl (i_an y2 (i_sl 1 y6))], 119, pm_RF, M)) rfl ?_
      refine R_if ho rfl (tgt := 177) rfl ?_
      refine R_ne ?_ ?_
      · refine R_st ho 3 (q' := (139, [(7, .inl v562), (0, .inr (.inr (12, 83))), (1, .inl y1), (2, .inl y2), (3, .inl y3), (4, .inl y4), (5, .inl y5), (6, .inl y6)], [.inl (M 83 4), .inl v562], 119, pm_RF, M)) rfl ?_
        refine R_ic ho rfl (tgt := 177) rfl ?_
        refine R_gt ?_ ?_
        · refine R_st ho 2 (q' := (98, [(6, .inl (i_ad y6 1)), (7, .inl v562), (0, .inr (.inr (12, 83))), (1, .inl y1), (2, .inl y2), (3, .inl y3), (4, .inl y4), (5, .inl y5)], [], 119, pm_RF, M)) rfl ?_
          refine R_pk [0, 1, 2, 3, 4, 5, 6] rfl ?_
          exact ih_ y1 y2 y3 y4 y5 (i_ad y6 1) M
        · refine R_st ho 4 (q' := (149, [(7, .inl v562), (0, .inr (.inr (12, 83))), (1, .inl y1), (2, .inl y2), (3, .inl y3), (4, .inl y4), (5, .inl y5), (6, .inl y6)], [.inl y6, .inl y1, .inr (.inr (20, 85))], 119, pm_RF, M)) rfl ?_
          refine R_iast ho rfl rfl ?_
          refine R_nm fun M563 => ?_
          refine R_st ho 14 (q' := (170, [(7, .inl v562), (0, .inr (.inr (12, 83))), (1, .inl y1), (2, .inl y2), (3, .inl y3), (4, .inl y4), (5, .inl y5), (6, .inl y6)], [.inl y6, .inr (.inr (11, 24)), .inl y4, .inl v562, .inl (i_or y2 (i_sl 1 y6)), .inl (i_ad y1 1), .inr (.inr (12, 83))], 119, pm_RF, M563)) rfl ?_
          refine R_callV ho mv_Told_viewOf lk_12_48 rfl (As := [.inl y6]) (kd := 11) (a := 24) (st := [.inl y4, .inl v562, .inl (i_or y2 (i_sl 1 y6)), .inl (i_ad y1 1), .inr (.inr (12, 83))]) rfl rfl (Nat.le_of_ble_eq_true rfl) rfl (by omega) (Nat.le_of_ble_eq_true rfl) (ok_Told_viewOf G y6 M563 ) (fun r564 => ?_)
          show pm_R _ _ _ (173, [(7, .inl v562), (0, .inr (.inr (12, 83))), (1, .inl y1), (2, .inl y2), (3, .inl y3), (4, .inl y4), (5, .inl y5), (6, .inl y6)], [.inl r564, .inl y4, .inl v562, .inl (i_or y2 (i_sl 1 y6)), .inl (i_ad y1 1), .inr (.inr (12, 83))], 119, pm_RF, M563) _ _
          refine R_st ho 1 (q' := (174, [(7, .inl v562), (0, .inr (.inr (12, 83))), (1, .inl y1), (2, .inl y2), (3, .inl y3), (4, .inl y4), (5, .inl y5), (6, .inl y6)], [.inl (i_ad y4 r564), .inl v562, .inl (i_or y2 (i_sl 1 y6)), .inl (i_ad y1 1), .inr (.inr (12, 83))], 119, pm_RF, M563)) rfl ?_
          refine R_callV ho mv_Walk_goOn lk_12_52 rfl (As := [.inl (i_ad y1 1), .inl (i_or y2 (i_sl 1 y6)), .inl v562, .inl (i_ad y4 r564)]) (kd := 12) (a := 83) (st := []) rfl rfl (Nat.le_of_ble_eq_true rfl) rfl (by omega) (Nat.le_of_ble_eq_true rfl) (hr0 (i_ad y1 1) (i_or y2 (i_sl 1 y6)) v562 (i_ad y4 r564) M563) (fun M565 => ?_)
          show pm_R _ _ _ (177, [(7, .inl v562), (0, .inr (.inr (12, 83))), (1, .inl y1), (2, .inl y2), (3, .inl y3), (4, .inl y4), (5, .inl y5), (6, .inl y6)], [], 119, pm_RF, M565) _ _
          refine R_st ho 2 (q' := (98, [(6, .inl (i_ad y6 1)), (7, .inl v562), (0, .inr (.inr (12, 83))), (1, .inl y1), (2, .inl y2), (3, .inl y3), (4, .inl y4), (5, .inl y5)], [], 119, pm_RF, M565)) rfl ?_
          refine R_pk [0, 1, 2, 3, 4, 5, 6] rfl ?_
          exact ih_ y1 y2 y3 y4 y5 (i_ad y6 1) M565
      · refine R_st ho 2 (q' := (98, [(6, .inl (i_ad y6 1)), (7, .inl v562), (0, .inr (.inr (12, 83))), (1, .inl y1), (2, .inl y2), (3, .inl y3), (4, .inl y4), (5, .inl y5)], [], 119, pm_RF, M)) rfl ?_
        refine R_pk [0, 1, 2, 3, 4, 5, 6] rfl ?_
        exact ih_ y1 y2 y3 y4 y5 (i_ad y6 1) M
theorem ok_Walk_goOn (G : pm_G) (D : Nat) (hD : 3 ≤ D) (rc : Int → Int → Int → Int → pm_M → Option pm_M) (x1 : Int) (x2 : Int) (x3 : Int) (x4 : Int) (M : pm_M) (hr0 : ∀ (a b c e : Int) (M : pm_M), pm_R G mt_Walk_goOn D (0, [(0, .inr (.inr (12, 83))), (1, .inl a), (2, .inl b), (3, .inl c), (4, .inl e)], [], 119, pm_RF, M) (rc a b c e M) (pm_Zr mt_Walk_goOn pm_gV)) : pm_R G mt_Walk_goOn (D + 1) (0, [(0, .inr (.inr (12, 83))), (1, .inl x1), (2, .inl x2), (3, .inl x3), (4, .inl x4)], [], 119, pm_RF, M) (f_Walk_goOn rc x1 x2 x3 x4 M) (pm_Zr mt_Walk_goOn pm_gV) := by
  have ho : pm_oG G mt_Walk_goOn := (oa_Walk_goOn).g G
  unfold f_Walk_goOn
  refine R_st ho 3 (q' := (6, [(0, .inr (.inr (12, 83))), (1, .inl x1), (2, .inl x2), (3, .inl x3), (4, .inl x4)], [.inl (M 83 6), .inl x4], 119, pm_RF, M)) rfl ?_
  refine R_ic ho rfl (tgt := 26) rfl ?_
  refine R_gt ?_ ?_
  · refine R_st ho 7 (q' := (37, [(0, .inr (.inr (12, 83))), (1, .inl x1), (2, .inl x2), (3, .inl x3), (4, .inl x4)], [.inl x1, .inl 0, .inr (.inr (20, 86)), .inl 0, .inr (.inr (20, 85))], 119, pm_RF, M)) rfl ?_
    refine R_copy ho (k := 56) (st := []) rfl rfl (Nat.le_of_ble_eq_true rfl) rfl rfl ?_
    refine R_nm fun M552 => ?_
    refine R_st ho 3 (q' := (45, [(0, .inr (.inr (12, 83))), (1, .inl x1), (2, .inl x2), (3, .inl x3), (4, .inl x4)], [], 119, pm_RF, (pm_ms M552 83 5 x1))) rfl ?_
    refine R_nm fun M553 => ?_
    refine R_st ho 3 (q' := (51, [(0, .inr (.inr (12, 83))), (1, .inl x1), (2, .inl x2), (3, .inl x3), (4, .inl x4)], [], 119, pm_RF, (pm_ms M553 83 6 x4))) rfl ?_
    refine R_nm fun M554 => ?_
    refine R_st ho 3 (q' := (56, [(0, .inr (.inr (12, 83))), (1, .inl x1), (2, .inl x2), (3, .inl x3), (4, .inl x4)], [], 119, pm_RF, (pm_ms M554 83 7 x3))) rfl ?_
    refine R_nm fun M555 => ?_
    refine R_st ho 2 (q' := (59, [(0, .inr (.inr (12, 83))), (1, .inl x1), (2, .inl x2), (3, .inl x3), (4, .inl x4)], [.inl 8, .inl x1], 119, pm_RF, M555)) rfl ?_
    refine R_ic ho rfl (tgt := 81) rfl ?_
    refine R_ge ?_ ?_
    · exact R_end (v := none) rfl rfl rfl rfl
    · refine R_st ho 6 (q' := (70, [(0, .inr (.inr (12, 83))), (1, .inl x1), (2, .inl x2), (3, .inl x3), (4, .inl x4)], [.inl (i_sb x1 1), .inr (.inr (20, 85)), .inr (.inr (12, 83))], 119, pm_RF, M555)) rfl ?_
      refine R_iald ho rfl rfl ?_
      refine R_st ho 3 (q' := (75, [(0, .inr (.inr (12, 83))), (1, .inl x1), (2, .inl x2), (3, .inl x3), (4, .inl x4)], [.inl x4, .inl x3, .inl x2, .inl (M555 85 ((i_sb x1 1)).toNat), .inr (.inr (12, 83))], 119, pm_RF, M555)) rfl ?_
      refine R_callV ho mv_Walk_canBeBetter lk_12_62 rfl (As := [.inl (M555 85 ((i_sb x1 1)).toNat), .inl x2, .inl x3, .inl x4]) (kd := 12) (a := 83) (st := []) rfl rfl (Nat.le_of_ble_eq_true rfl) rfl (by omega) (Nat.le_of_ble_eq_true rfl) (ok_Walk_canBeBetter G (M555 85 ((i_sb x1 1)).toNat) x2 x3 x4 M555 ) (fun r559 => ?_)
      show pm_R _ _ _ (78, [(0, .inr (.inr (12, 83))), (1, .inl x1), (2, .inl x2), (3, .inl x3), (4, .inl x4)], [.inl r559], 119, pm_RF, M555) _ _
      refine R_if ho rfl (tgt := 82) rfl ?_
      refine R_ne ?_ ?_
      · exact R_end (v := none) rfl rfl rfl rfl
      · refine R_st ho 5 (q' := (89, [(0, .inr (.inr (12, 83))), (1, .inl x1), (2, .inl x2), (3, .inl x3), (4, .inl x4)], [.inl (i_sb x1 1), .inr (.inr (20, 85))], 119, pm_RF, M555)) rfl ?_
        refine R_iald ho rfl rfl ?_
        refine R_st ho 3 (q' := (95, [(5, .inl (i_ml (M555 85 ((i_sb x1 1)).toNat) 8)), (0, .inr (.inr (12, 83))), (1, .inl x1), (2, .inl x2), (3, .inl x3), (4, .inl x4)], [], 119, pm_RF, M555)) rfl ?_
        refine R_nx (fun z_ => (95, [(5, .inl z_), (0, .inr (.inr (12, 83))), (1, .inl x1), (2, .inl x2), (3, .inl x3), (4, .inl x4)], [], 119, pm_RF, M555)) fun v560 => ?_
        refine R_st ho 2 (q' := (98, [(6, .inl 0), (5, .inl v560), (0, .inr (.inr (12, 83))), (1, .inl x1), (2, .inl x2), (3, .inl x3), (4, .inl x4)], [], 119, pm_RF, M555)) rfl ?_
        refine R_pk [0, 1, 2, 3, 4, 5, 6] rfl ?_
        refine R_bind (ok_Walk_goOn_L98 G D hD rc hr0 pm_F x1 x2 x3 x4 v560 0 M555) ?_
        intro e566 q_ hq_
        obtain rfl : q_ = (183, [], [], 119, pm_RF, e566) := hq_
        exact R_end (v := none) rfl rfl rfl rfl
  · refine R_st ho 3 (q' := (15, [(0, .inr (.inr (12, 83))), (1, .inl x1), (2, .inl x2), (3, .inl x3), (4, .inl x4)], [.inl (M 83 6), .inl x4], 119, pm_RF, M)) rfl ?_
    refine R_ic ho rfl (tgt := 56) rfl ?_
    refine R_ne ?_ ?_
    · refine R_st ho 3 (q' := (23, [(0, .inr (.inr (12, 83))), (1, .inl x1), (2, .inl x2), (3, .inl x3), (4, .inl x4)], [.inl (M 83 7), .inl x3], 119, pm_RF, M)) rfl ?_
      refine R_ic ho rfl (tgt := 56) rfl ?_
      refine R_ge ?_ ?_
      · refine R_st ho 2 (q' := (59, [(0, .inr (.inr (12, 83))), (1, .inl x1), (2, .inl x2), (3, .inl x3), (4, .inl x4)], [.inl 8, .inl x1], 119, pm_RF, M)) rfl ?_
        refine R_ic ho rfl (tgt := 81) rfl ?_
        refine R_ge ?_ ?_
        · exact R_end (v := none) rfl rfl rfl rfl
        · refine R_st ho 6 (q' := (70, [(0, .inr (.inr (12, 83))), (1, .inl x1), (2, .inl x2), (3, .inl x3), (4, .inl x4)], [.inl (i_sb x1 1), .inr (.inr (20, 85)), .inr (.inr (12, 83))], 119, pm_RF, M)) rfl ?_
          refine R_iald ho rfl rfl ?_
          refine R_st ho 3 (q' := (75, [(0, .inr (.inr (12, 83))), (1, .inl x1), (2, .inl x2), (3, .inl x3), (4, .inl x4)], [.inl x4, .inl x3, .inl x2, .inl (M 85 ((i_sb x1 1)).toNat), .inr (.inr (12, 83))], 119, pm_RF, M)) rfl ?_
          refine R_callV ho mv_Walk_canBeBetter lk_12_62 rfl (As := [.inl (M 85 ((i_sb x1 1)).toNat), .inl x2, .inl x3, .inl x4]) (kd := 12) (a := 83) (st := []) rfl rfl (Nat.le_of_ble_eq_true rfl) rfl (by omega) (Nat.le_of_ble_eq_true rfl) (ok_Walk_canBeBetter G (M 85 ((i_sb x1 1)).toNat) x2 x3 x4 M ) (fun r567 => ?_)
          show pm_R _ _ _ (78, [(0, .inr (.inr (12, 83))), (1, .inl x1), (2, .inl x2), (3, .inl x3), (4, .inl x4)], [.inl r567], 119, pm_RF, M) _ _
          refine R_if ho rfl (tgt := 82) rfl ?_
          refine R_ne ?_ ?_
          · exact R_end (v := none) rfl rfl rfl rfl
          · refine R_st ho 5 (q' := (89, [(0, .inr (.inr (12, 83))), (1, .inl x1), (2, .inl x2), (3, .inl x3), (4, .inl x4)], [.inl (i_sb x1 1), .inr (.inr (20, 85))], 119, pm_RF, M)) rfl ?_
            refine R_iald ho rfl rfl ?_
            refine R_st ho 3 (q' := (95, [(5, .inl (i_ml (M 85 ((i_sb x1 1)).toNat) 8)), (0, .inr (.inr (12, 83))), (1, .inl x1), (2, .inl x2), (3, .inl x3), (4, .inl x4)], [], 119, pm_RF, M)) rfl ?_
            refine R_nx (fun z_ => (95, [(5, .inl z_), (0, .inr (.inr (12, 83))), (1, .inl x1), (2, .inl x2), (3, .inl x3), (4, .inl x4)], [], 119, pm_RF, M)) fun v568 => ?_
            refine R_st ho 2 (q' := (98, [(6, .inl 0), (5, .inl v568), (0, .inr (.inr (12, 83))), (1, .inl x1), (2, .inl x2), (3, .inl x3), (4, .inl x4)], [], 119, pm_RF, M)) rfl ?_
            refine R_pk [0, 1, 2, 3, 4, 5, 6] rfl ?_
            refine R_bind (ok_Walk_goOn_L98 G D hD rc hr0 pm_F x1 x2 x3 x4 v568 0 M) ?_
            intro e569 q_ hq_
            obtain rfl : q_ = (183, [], [], 119, pm_RF, e569) := hq_
            exact R_end (v := none) rfl rfl rfl rfl
      · refine R_st ho 7 (q' := (37, [(0, .inr (.inr (12, 83))), (1, .inl x1), (2, .inl x2), (3, .inl x3), (4, .inl x4)], [.inl x1, .inl 0, .inr (.inr (20, 86)), .inl 0, .inr (.inr (20, 85))], 119, pm_RF, M)) rfl ?_
        refine R_copy ho (k := 56) (st := []) rfl rfl (Nat.le_of_ble_eq_true rfl) rfl rfl ?_
        refine R_nm fun M570 => ?_
        refine R_st ho 3 (q' := (45, [(0, .inr (.inr (12, 83))), (1, .inl x1), (2, .inl x2), (3, .inl x3), (4, .inl x4)], [], 119, pm_RF, (pm_ms M570 83 5 x1))) rfl ?_
        refine R_nm fun M571 => ?_
        refine R_st ho 3 (q' := (51, [(0, .inr (.inr (12, 83))), (1, .inl x1), (2, .inl x2), (3, .inl x3), (4, .inl x4)], [], 119, pm_RF, (pm_ms M571 83 6 x4))) rfl ?_
        refine R_nm fun M572 => ?_
        refine R_st ho 3 (q' := (56, [(0, .inr (.inr (12, 83))), (1, .inl x1), (2, .inl x2), (3, .inl x3), (4, .inl x4)], [], 119, pm_RF, (pm_ms M572 83 7 x3))) rfl ?_
        refine R_nm fun M573 => ?_
        refine R_st ho 2 (q' := (59, [(0, .inr (.inr (12, 83))), (1, .inl x1), (2, .inl x2), (3, .inl x3), (4, .inl x4)], [.inl 8, .inl x1], 119, pm_RF, M573)) rfl ?_
        refine R_ic ho rfl (tgt := 81) rfl ?_
        refine R_ge ?_ ?_
        · exact R_end (v := none) rfl rfl rfl rfl
        · refine R_st ho 6 (q' := (70, [(0, .inr (.inr (12, 83))), (1, .inl x1), (2, .inl x2), (3, .inl x3), (4, .inl x4)], [.inl (i_sb x1 1), .inr (.inr (20, 85)), .inr (.inr (12, 83))], 119, pm_RF, M573)) rfl ?_
          refine R_iald ho rfl rfl ?_
          refine R_st ho 3 (q' := (75, [(0, .inr (.inr (12, 83))), (1, .inl x1), (2, .inl x2), (3, .inl x3), (4, .inl x4)], [.inl x4, .inl x3, .inl x2, .inl (M573 85 ((i_sb x1 1)).toNat), .inr (.inr (12, 83))], 119, pm_RF, M573)) rfl ?_
          refine R_callV ho mv_Walk_canBeBetter lk_12_62 rfl (As := [.inl (M573 85 ((i_sb x1 1)).toNat), .inl x2, .inl x3, .inl x4]) (kd := 12) (a := 83) (st := []) rfl rfl (Nat.le_of_ble_eq_true rfl) rfl (by omega) (Nat.le_of_ble_eq_true rfl) (ok_Walk_canBeBetter G (M573 85 ((i_sb x1 1)).toNat) x2 x3 x4 M573 ) (fun r574 => ?_)
          show pm_R _ _ _ (78, [(0, .inr (.inr (12, 83))), (1, .inl x1), (2, .inl x2), (3, .inl x3), (4, .inl x4)], [.inl r574], 119, pm_RF, M573) _ _
          refine R_if ho rfl (tgt := 82) rfl ?_
          refine R_ne ?_ ?_
          · exact R_end (v := none) rfl rfl rfl rfl
          · refine R_st ho 5 (q' := (89, [(0, .inr (.inr (12, 83))), (1, .inl x1), (2, .inl x2), (3, .inl x3), (4, .inl x4)], [.inl (i_sb x1 1), .inr (.inr (20, 85))], 119, pm_RF, M573)) rfl ?_
            refine R_iald ho rfl rfl ?_
            refine R_st ho 3 (q' := (95, [(5, .inl (i_ml (M573 85 ((i_sb x1 1)).toNat) 8)), (0, .inr (.inr (12, 83))), (1, .inl x1), (2, .inl x2), (3, .inl x3), (4, .inl x4)], [], 119, pm_RF, M573)) rfl ?_
            refine R_nx (fun z_ => (95, [(5, .inl z_), (0, .inr (.inr (12, 83))), (1, .inl x1), (2, .inl x2), (3, .inl x3), (4, .inl x4)], [], 119, pm_RF, M573)) fun v575 => ?_
            refine R_st ho 2 (q' := (98, [(6, .inl 0), (5, .inl v575), (0, .inr (.inr (12, 83))), (1, .inl x1), (2, .inl x2), (3, .inl x3), (4, .inl x4)], [], 119, pm_RF, M573)) rfl ?_
            refine R_pk [0, 1, 2, 3, 4, 5, 6] rfl ?_
            refine R_bind (ok_Walk_goOn_L98 G D hD rc hr0 pm_F x1 x2 x3 x4 v575 0 M573) ?_
            intro e576 q_ hq_
            obtain rfl : q_ = (183, [], [], 119, pm_RF, e576) := hq_
            exact R_end (v := none) rfl rfl rfl rfl
    · refine R_st ho 2 (q' := (59, [(0, .inr (.inr (12, 83))), (1, .inl x1), (2, .inl x2), (3, .inl x3), (4, .inl x4)], [.inl 8, .inl x1], 119, pm_RF, M)) rfl ?_
      refine R_ic ho rfl (tgt := 81) rfl ?_
      refine R_ge ?_ ?_
      · exact R_end (v := none) rfl rfl rfl rfl
      · refine R_st ho 6 (q' := (70, [(0, .inr (.inr (12, 83))), (1, .inl x1), (2, .inl x2), (3, .inl x3), (4, .inl x4)], [.inl (i_sb x1 1), .inr (.inr (20, 85)), .inr (.inr (12, 83))], 119, pm_RF, M)) rfl ?_
        refine R_iald ho rfl rfl ?_
        refine R_st ho 3 (q' := (75, [(0, .inr (.inr (12, 83))), (1, .inl x1), (2, .inl x2), (3, .inl x3), (4, .inl x4)], [.inl x4, .inl x3, .inl x2, .inl (M 85 ((i_sb x1 1)).toNat), .inr (.inr (12, 83))], 119, pm_RF, M)) rfl ?_
        refine R_callV ho mv_Walk_canBeBetter lk_12_62 rfl (As := [.inl (M 85 ((i_sb x1 1)).toNat), .inl x2, .inl x3, .inl x4]) (kd := 12) (a := 83) (st := []) rfl rfl (Nat.le_of_ble_eq_true rfl) rfl (by omega) (Nat.le_of_ble_eq_true rfl) (ok_Walk_canBeBetter G (M 85 ((i_sb x1 1)).toNat) x2 x3 x4 M ) (fun r577 => ?_)
        show pm_R _ _ _ (78, [(0, .inr (.inr (12, 83))), (1, .inl x1), (2, .inl x2), (3, .inl x3), (4, .inl x4)], [.inl r577], 119, pm_RF, M) _ _
        refine R_if ho rfl (tgt := 82) rfl ?_
        refine R_ne ?_ ?_
        · exact R_end (v := none) rfl rfl rfl rfl
        · refine R_st ho 5 (q' := (89, [(0, .inr (.inr (12, 83))), (1, .inl x1), (2, .inl x2), (3, .inl x3), (4, .inl x4)], [.inl (i_sb x1 1), .inr (.inr (20, 85))], 119, pm_RF, M)) rfl ?_
          refine R_iald ho rfl rfl ?_
          refine R_st ho 3 (q' := (95, [(5, .inl (i_ml (M 85 ((i_sb x1 1)).toNat) 8)), (0, .inr (.inr (12, 83))), (1, .inl x1), (2, .inl x2), (3, .inl x3), (4, .inl x4)], [], 119, pm_RF, M)) rfl ?_
          refine R_nx (fun z_ => (95, [(5, .inl z_), (0, .inr (.inr (12, 83))), (1, .inl x1), (2, .inl x2), (3, .inl x3), (4, .inl x4)], [], 119, pm_RF, M)) fun v578 => ?_
          refine R_st ho 2 (q' := (98, [(6, .inl 0), (5, .inl v578), (0, .inr (.inr (12, 83))), (1, .inl x1), (2, .inl x2), (3, .inl x3), (4, .inl x4)], [], 119, pm_RF, M)) rfl ?_
          refine R_pk [0, 1, 2, 3, 4, 5, 6] rfl ?_
          refine R_bind (ok_Walk_goOn_L98 G D hD rc hr0 pm_F x1 x2 x3 x4 v578 0 M) ?_
          intro e579 q_ hq_
          obtain rfl : q_ = (183, [], [], 119, pm_RF, e579) := hq_
          exact R_end (v := none) rfl rfl rfl rfl
theorem ok_Walk_goOn_r (G : pm_G) : ∀ (k_ : Nat) (x1 : Int) (x2 : Int) (x3 : Int) (x4 : Int) (M : pm_M), pm_R G mt_Walk_goOn (3 + k_) (0, [(0, .inr (.inr (12, 83))), (1, .inl x1), (2, .inl x2), (3, .inl x3), (4, .inl x4)], [], 119, pm_RF, M) (f_Walk_goOn_r k_ x1 x2 x3 x4 M) (pm_Zr mt_Walk_goOn pm_gV)
  | 0, _, _, _, _, _ => R_none
  | k_ + 1, x1, x2, x3, x4, M => by
    rw [f_Walk_goOn_r]
    exact ok_Walk_goOn G (3 + k_) (Nat.le_add_right _ _) (f_Walk_goOn_r k_) x1 x2 x3 x4 M (ok_Walk_goOn_r G k_)
theorem ok_Walk_find_L36 (G : pm_G)    : ∀ (n_ : Nat) (y1 : Int) (y3 : Int) (y4 : Int) (M : pm_M), pm_R G mt_Walk_find 24 (36, [(0, .inr (.inr (12, 83))), (1, .inl y1), (3, .inl y3), (4, .inl y4)], [], 119, pm_RF, M) (f_Walk_find_L36 n_ y1 y3 y4 M) (fun e_ q_ => q_ = (76, [(0, .inr (.inr (12, 83))), (1, .inl e_.1), (3, .inl e_.2.1)], [], 119, pm_RF, e_.2.2)) := by
  have ho : pm_oG G mt_Walk_find := (oa_Walk_find).g G
  intro n_
  induction n_ with
  | zero => intro _ _ _ _; exact R_none
  | succ n_ ih_ =>
    intro y1 y3 y4 M
    rw [f_Walk_find_L36]
    refine R_st ho 3 (q' := (42, [(0, .inr (.inr (12, 83))), (1, .inl y1), (3, .inl y3), (4, .inl y4)], [.inr (.inr (11, 24)), .inl y4], 119, pm_RF, M)) rfl ?_
    refine R_callV ho mv_Told_plinths lk_12_38 rfl (As := []) (kd := 11) (a := 24) (st := [.inl y4]) rfl rfl (Nat.le_of_ble_eq_true rfl) rfl (by decide) (Nat.le_of_ble_eq_true rfl) (ok_Told_plinths G  M ) (fun r545 => ?_)
    show pm_R _ _ _ (45, [(0, .inr (.inr (12, 83))), (1, .inl y1), (3, .inl y3), (4, .inl y4)], [.inl r545, .inl y4], 119, pm_RF, M) _ _
    refine R_ic ho rfl (tgt := 76) rfl ?_
    refine R_ge ?_ ?_
    · refine R_pk [0, 1, 3] rfl ?_
      exact R_ret rfl
    · refine R_st ho 11 (q' := (66, [(0, .inr (.inr (12, 83))), (1, .inl y1), (3, .inl y3), (4, .inl y4)], [.inl y4, .inl y3, .inr (.inr (11, 24)), .inl (i_ad (i_ml y3 8) y4), .inr (.inr (20, 84))], 119, pm_RF, M)) rfl ?_
      refine R_callV ho mv_Told_milesApart lk_12_44 rfl (As := [.inl y3, .inl y4]) (kd := 11) (a := 24) (st := [.inl (i_ad (i_ml y3 8) y4), .inr (.inr (20, 84))]) rfl rfl (Nat.le_of_ble_eq_true rfl) rfl (by decide) (Nat.le_of_ble_eq_true rfl) (ok_Told_milesApart G y3 y4 M ) (fun r546 => ?_)
      show pm_R _ _ _ (69, [(0, .inr (.inr (12, 83))), (1, .inl y1), (3, .inl y3), (4, .inl y4)], [.inl r546, .inl (i_ad (i_ml y3 8) y4), .inr (.inr (20, 84))], 119, pm_RF, M) _ _
      refine R_iast ho rfl rfl ?_
      refine R_nm fun M547 => ?_
      refine R_st ho 2 (q' := (36, [(4, .inl (i_ad y4 1)), (0, .inr (.inr (12, 83))), (1, .inl y1), (3, .inl y3)], [], 119, pm_RF, M547)) rfl ?_
      refine R_pk [0, 1, 3, 4] rfl ?_
      exact ih_ y1 y3 (i_ad y4 1) M547
theorem ok_Walk_find_L22 (G : pm_G)    : ∀ (n_ : Nat) (y1 : Int) (y3 : Int) (M : pm_M), pm_R G mt_Walk_find 24 (22, [(0, .inr (.inr (12, 83))), (1, .inl y1), (3, .inl y3)], [], 119, pm_RF, M) (f_Walk_find_L22 n_ y1 y3 M) (fun e_ q_ => q_ = (82, [(0, .inr (.inr (12, 83))), (1, .inl e_.1)], [], 119, pm_RF, e_.2)) := by
  have ho : pm_oG G mt_Walk_find := (oa_Walk_find).g G
  intro n_
  induction n_ with
  | zero => intro _ _ _; exact R_none
  | succ n_ ih_ =>
    intro y1 y3 M
    rw [f_Walk_find_L22]
    refine R_st ho 3 (q' := (27, [(0, .inr (.inr (12, 83))), (1, .inl y1), (3, .inl y3)], [.inr (.inr (11, 24)), .inl y3], 119, pm_RF, M)) rfl ?_
    refine R_callV ho mv_Told_plinths lk_12_38 rfl (As := []) (kd := 11) (a := 24) (st := [.inl y3]) rfl rfl (Nat.le_of_ble_eq_true rfl) rfl (by decide) (Nat.le_of_ble_eq_true rfl) (ok_Told_plinths G  M ) (fun r544 => ?_)
    show pm_R _ _ _ (30, [(0, .inr (.inr (12, 83))), (1, .inl y1), (3, .inl y3)], [.inl r544, .inl y3], 119, pm_RF, M) _ _
    refine R_ic ho rfl (tgt := 82) rfl ?_
    refine R_ge ?_ ?_
    · refine R_pk [0, 1] rfl ?_
      exact R_ret rfl
    · refine R_st ho 2 (q' := (36, [(4, .inl 0), (0, .inr (.inr (12, 83))), (1, .inl y1), (3, .inl y3)], [], 119, pm_RF, M)) rfl ?_
      refine R_pk [0, 1, 3, 4] rfl ?_
      refine R_bind (ok_Walk_find_L36 G pm_F y1 y3 0 M) ?_
      intro e548 q_ hq_
      obtain rfl : q_ = (76, [(0, .inr (.inr (12, 83))), (1, .inl e548.1), (3, .inl e548.2.1)], [], 119, pm_RF, e548.2.2) := hq_
      refine R_st ho 2 (q' := (22, [(3, .inl (i_ad e548.2.1 1)), (0, .inr (.inr (12, 83))), (1, .inl e548.1)], [], 119, pm_RF, e548.2.2)) rfl ?_
      refine R_pk [0, 1, 3] rfl ?_
      exact ih_ e548.1 (i_ad e548.2.1 1) e548.2.2
theorem ok_Walk_find (G : pm_G) (x1 : Int) (x2 : Int) (M : pm_M)  : pm_R G mt_Walk_find 24 (0, [(0, .inr (.inr (12, 83))), (1, .inl x1), (2, .inl x2)], [], 119, pm_RF, M) (f_Walk_find x1 x2 M) (pm_Zr mt_Walk_find pm_gV) := by
  have ho : pm_oG G mt_Walk_find := (oa_Walk_find).g G
  unfold f_Walk_find
  refine R_st ho 3 (q' := (5, [(0, .inr (.inr (12, 83))), (1, .inl x1), (2, .inl x2)], [], 119, pm_RF, (pm_ms M 83 4 x2))) rfl ?_
  refine R_nm fun M540 => ?_
  refine R_st ho 3 (q' := (10, [(0, .inr (.inr (12, 83))), (1, .inl x1), (2, .inl x2)], [], 119, pm_RF, (pm_ms M540 83 5 0))) rfl ?_
  refine R_nm fun M541 => ?_
  refine R_st ho 3 (q' := (15, [(0, .inr (.inr (12, 83))), (1, .inl x1), (2, .inl x2)], [], 119, pm_RF, (pm_ms M541 83 6 (-1)))) rfl ?_
  refine R_nm fun M542 => ?_
  refine R_st ho 3 (q' := (20, [(0, .inr (.inr (12, 83))), (1, .inl x1), (2, .inl x2)], [], 119, pm_RF, (pm_ms M542 83 7 0))) rfl ?_
  refine R_nm fun M543 => ?_
  refine R_st ho 2 (q' := (22, [(3, .inl 0), (0, .inr (.inr (12, 83))), (1, .inl x1), (2, .inl x2)], [], 119, pm_RF, M543)) rfl ?_
  refine R_pk [0, 1, 3] rfl ?_
  refine R_bind (ok_Walk_find_L22 G pm_F x1 0 M543) ?_
  intro e549 q_ hq_
  obtain rfl : q_ = (82, [(0, .inr (.inr (12, 83))), (1, .inl e549.1)], [], 119, pm_RF, e549.2) := hq_
  refine R_st ho 5 (q' := (89, [(0, .inr (.inr (12, 83))), (1, .inl e549.1)], [], 119, pm_RF, (pm_ms e549.2 85 0 e549.1))) rfl ?_
  refine R_nm fun M550 => ?_
  refine R_st ho 9 (q' := (100, [(0, .inr (.inr (12, 83))), (1, .inl e549.1)], [.inl e549.1, .inr (.inr (11, 24)), .inl 0, .inl (i_sl 1 e549.1), .inl 1, .inr (.inr (12, 83))], 119, pm_RF, M550)) rfl ?_
  refine R_callV ho mv_Told_viewOf lk_12_48 rfl (As := [.inl e549.1]) (kd := 11) (a := 24) (st := [.inl 0, .inl (i_sl 1 e549.1), .inl 1, .inr (.inr (12, 83))]) rfl rfl (Nat.le_of_ble_eq_true rfl) rfl (by decide) (Nat.le_of_ble_eq_true rfl) (ok_Told_viewOf G e549.1 M550 ) (fun r551 => ?_)
  show pm_R _ _ _ (103, [(0, .inr (.inr (12, 83))), (1, .inl e549.1)], [.inl r551, .inl 0, .inl (i_sl 1 e549.1), .inl 1, .inr (.inr (12, 83))], 119, pm_RF, M550) _ _
  refine R_callV ho mv_Walk_goOn lk_12_52 rfl (As := [.inl 1, .inl (i_sl 1 e549.1), .inl 0, .inl r551]) (kd := 12) (a := 83) (st := []) rfl rfl (Nat.le_of_ble_eq_true rfl) rfl (by decide) (Nat.le_of_ble_eq_true rfl) (ok_Walk_goOn_r G 20 1 (i_sl 1 e549.1) 0 r551 M550) (fun M580 => ?_)
  show pm_R _ _ _ (106, [(0, .inr (.inr (12, 83))), (1, .inl e549.1)], [], 119, pm_RF, M580) _ _
  exact R_end (v := none) rfl rfl rfl rfl
theorem ok_Walk_foundView (G : pm_G)  (M : pm_M)  : pm_R G mt_Walk_foundView 1 (0, [(0, .inr (.inr (12, 83)))], [], 119, pm_RF, M) (f_Walk_foundView M) (pm_Zr mt_Walk_foundView (pm_gi M)) := by
  have ho : pm_oG G mt_Walk_foundView := (oa_Walk_foundView).g G
  unfold f_Walk_foundView
  refine R_st ho 2 (q' := (4, [(0, .inr (.inr (12, 83)))], [.inl (M 83 6)], 119, pm_RF, M)) rfl ?_
  exact R_end (v := some (.inl (M 83 6))) rfl (Or.inl rfl) rfl rfl
theorem ok_Walk_foundMiles (G : pm_G)  (M : pm_M)  : pm_R G mt_Walk_foundMiles 1 (0, [(0, .inr (.inr (12, 83)))], [], 119, pm_RF, M) (f_Walk_foundMiles M) (pm_Zr mt_Walk_foundMiles (pm_gi M)) := by
  have ho : pm_oG G mt_Walk_foundMiles := (oa_Walk_foundMiles).g G
  unfold f_Walk_foundMiles
  refine R_st ho 2 (q' := (4, [(0, .inr (.inr (12, 83)))], [.inl (M 83 7)], 119, pm_RF, M)) rfl ?_
  exact R_end (v := some (.inl (M 83 7))) rfl (Or.inl rfl) rfl rfl
theorem ok_Walk_foundPlinth (G : pm_G) (x1 : Int) (M : pm_M)  : pm_R G mt_Walk_foundPlinth 1 (0, [(0, .inr (.inr (12, 83))), (1, .inl x1)], [], 119, pm_RF, M) (f_Walk_foundPlinth x1 M) (pm_Zr mt_Walk_foundPlinth (pm_gi M)) := by
  have ho : pm_oG G mt_Walk_foundPlinth := (oa_Walk_foundPlinth).g G
  unfold f_Walk_foundPlinth
  refine R_st ho 1 (q' := (1, [(0, .inr (.inr (12, 83))), (1, .inl x1)], [.inl x1], 119, pm_RF, M)) rfl ?_
  refine R_if ho rfl (tgt := 21) rfl ?_
  refine R_lt ?_ ?_
  · refine R_st ho 1 (q' := (22, [(0, .inr (.inr (12, 83))), (1, .inl x1)], [.inl (-1)], 119, pm_RF, M)) rfl ?_
    exact R_end (v := some (.inl (-1))) rfl (Or.inl rfl) rfl rfl
  · refine R_st ho 3 (q' := (9, [(0, .inr (.inr (12, 83))), (1, .inl x1)], [.inl (M 83 5), .inl x1], 119, pm_RF, M)) rfl ?_
    refine R_ic ho rfl (tgt := 21) rfl ?_
    refine R_ge ?_ ?_
    · refine R_st ho 1 (q' := (22, [(0, .inr (.inr (12, 83))), (1, .inl x1)], [.inl (-1)], 119, pm_RF, M)) rfl ?_
      exact R_end (v := some (.inl (-1))) rfl (Or.inl rfl) rfl rfl
    · refine R_st ho 3 (q' := (17, [(0, .inr (.inr (12, 83))), (1, .inl x1)], [.inl x1, .inr (.inr (20, 86))], 119, pm_RF, M)) rfl ?_
      refine R_iald ho rfl rfl ?_
      refine R_st ho 1 (q' := (22, [(0, .inr (.inr (12, 83))), (1, .inl x1)], [.inl (M 86 (x1).toNat)], 119, pm_RF, M)) rfl ?_
      exact R_end (v := some (.inl (M 86 (x1).toNat))) rfl (Or.inl rfl) rfl rfl
theorem ok_X_tour (G : pm_G) (x1 : Int) (x2 : Int) (x3 : Int) (M : pm_M)  : pm_R G mt_X_tour 25 (0, [(0, .inr (.inr (0, 0))), (1, .inl x1), (2, .inl x2), (3, .inl x3)], [], 119, pm_RF, M) (f_X_tour x1 x2 x3 M) (pm_Zr mt_X_tour pm_gI) := by
  have ho : pm_oG G mt_X_tour := (oa_X_tour).g G
  unfold f_X_tour
  refine R_st ho 3 (q' := (5, [(0, .inr (.inr (0, 0))), (1, .inl x1), (2, .inl x2), (3, .inl x3)], [.inl x1, .inr (.inr (11, 24))], 119, pm_RF, M)) rfl ?_
  refine R_callV ho mv_Told_isPlinth lk_0_139 rfl (As := [.inl x1]) (kd := 11) (a := 24) (st := []) rfl rfl (Nat.le_of_ble_eq_true rfl) rfl (by decide) (Nat.le_of_ble_eq_true rfl) (ok_Told_isPlinth G x1 M ) (fun r539 => ?_)
  show pm_R _ _ _ (8, [(0, .inr (.inr (0, 0))), (1, .inl x1), (2, .inl x2), (3, .inl x3)], [.inl r539], 119, pm_RF, M) _ _
  refine R_if ho rfl (tgt := 26) rfl ?_
  refine R_eq ?_ ?_
  · refine R_st ho 1 (q' := (27, [(0, .inr (.inr (0, 0))), (1, .inl x1), (2, .inl x2), (3, .inl x3)], [.inl (-1)], 119, pm_RF, M)) rfl ?_
    exact R_end (v := some (.inl (-1))) rfl (Or.inl rfl) rfl rfl
  · refine R_st ho 1 (q' := (12, [(0, .inr (.inr (0, 0))), (1, .inl x1), (2, .inl x2), (3, .inl x3)], [.inl x2], 119, pm_RF, M)) rfl ?_
    refine R_if ho rfl (tgt := 26) rfl ?_
    refine R_lt ?_ ?_
    · refine R_st ho 1 (q' := (27, [(0, .inr (.inr (0, 0))), (1, .inl x1), (2, .inl x2), (3, .inl x3)], [.inl (-1)], 119, pm_RF, M)) rfl ?_
      exact R_end (v := some (.inl (-1))) rfl (Or.inl rfl) rfl rfl
    · refine R_st ho 2 (q' := (19, [(0, .inr (.inr (0, 0))), (1, .inl x1), (2, .inl x2), (3, .inl x3)], [.inl 999, .inl x2], 119, pm_RF, M)) rfl ?_
      refine R_ic ho rfl (tgt := 26) rfl ?_
      refine R_gt ?_ ?_
      · refine R_st ho 1 (q' := (27, [(0, .inr (.inr (0, 0))), (1, .inl x1), (2, .inl x2), (3, .inl x3)], [.inl (-1)], 119, pm_RF, M)) rfl ?_
        exact R_end (v := some (.inl (-1))) rfl (Or.inl rfl) rfl rfl
      · refine R_st ho 1 (q' := (23, [(0, .inr (.inr (0, 0))), (1, .inl x1), (2, .inl x2), (3, .inl x3)], [.inl x3], 119, pm_RF, M)) rfl ?_
        refine R_if ho rfl (tgt := 28) rfl ?_
        refine R_ge ?_ ?_
        · refine R_st ho 4 (q' := (34, [(0, .inr (.inr (0, 0))), (1, .inl x1), (2, .inl x2), (3, .inl x3)], [.inl x2, .inl x1, .inr (.inr (12, 83))], 119, pm_RF, M)) rfl ?_
          refine R_callV ho mv_Walk_find lk_0_280 rfl (As := [.inl x1, .inl x2]) (kd := 12) (a := 83) (st := []) rfl rfl (Nat.le_of_ble_eq_true rfl) rfl (by decide) (Nat.le_of_ble_eq_true rfl) (ok_Walk_find G x1 x2 M ) (fun M581 => ?_)
          show pm_R _ _ _ (37, [(0, .inr (.inr (0, 0))), (1, .inl x1), (2, .inl x2), (3, .inl x3)], [], 119, pm_RF, M581) _ _
          refine R_st ho 1 (q' := (38, [(0, .inr (.inr (0, 0))), (1, .inl x1), (2, .inl x2), (3, .inl x3)], [.inl x3], 119, pm_RF, M581)) rfl ?_
          refine R_if ho rfl (tgt := 49) rfl ?_
          refine R_ne ?_ ?_
          · refine R_st ho 2 (q' := (45, [(0, .inr (.inr (0, 0))), (1, .inl x1), (2, .inl x2), (3, .inl x3)], [.inr (.inr (12, 83))], 119, pm_RF, M581)) rfl ?_
            refine R_callV ho mv_Walk_foundView lk_0_283 rfl (As := []) (kd := 12) (a := 83) (st := []) rfl rfl (Nat.le_of_ble_eq_true rfl) rfl (by decide) (Nat.le_of_ble_eq_true rfl) (ok_Walk_foundView G  M581 ) (fun r582 => ?_)
            show pm_R _ _ _ (48, [(0, .inr (.inr (0, 0))), (1, .inl x1), (2, .inl x2), (3, .inl x3)], [.inl r582], 119, pm_RF, M581) _ _
            exact R_end (v := some (.inl r582)) rfl (Or.inl rfl) rfl rfl
          · refine R_st ho 2 (q' := (51, [(0, .inr (.inr (0, 0))), (1, .inl x1), (2, .inl x2), (3, .inl x3)], [.inl 1, .inl x3], 119, pm_RF, M581)) rfl ?_
            refine R_ic ho rfl (tgt := 64) rfl ?_
            refine R_ne ?_ ?_
            · refine R_st ho 2 (q' := (58, [(0, .inr (.inr (0, 0))), (1, .inl x1), (2, .inl x2), (3, .inl x3)], [.inr (.inr (12, 83))], 119, pm_RF, M581)) rfl ?_
              refine R_callV ho mv_Walk_foundMiles lk_0_286 rfl (As := []) (kd := 12) (a := 83) (st := []) rfl rfl (Nat.le_of_ble_eq_true rfl) rfl (by decide) (Nat.le_of_ble_eq_true rfl) (ok_Walk_foundMiles G  M581 ) (fun r583 => ?_)
              show pm_R _ _ _ (61, [(0, .inr (.inr (0, 0))), (1, .inl x1), (2, .inl x2), (3, .inl x3)], [.inl r583], 119, pm_RF, M581) _ _
              refine R_st ho 1 (q' := (74, [(0, .inr (.inr (0, 0))), (1, .inl x1), (2, .inl x2), (3, .inl x3)], [.inl r583], 119, pm_RF, M581)) rfl ?_
              exact R_end (v := some (.inl r583)) rfl (Or.inl rfl) rfl rfl
            · refine R_st ho 5 (q' := (71, [(0, .inr (.inr (0, 0))), (1, .inl x1), (2, .inl x2), (3, .inl x3)], [.inl (i_sb x3 2), .inr (.inr (12, 83))], 119, pm_RF, M581)) rfl ?_
              refine R_callV ho mv_Walk_foundPlinth lk_0_289 rfl (As := [.inl (i_sb x3 2)]) (kd := 12) (a := 83) (st := []) rfl rfl (Nat.le_of_ble_eq_true rfl) rfl (by decide) (Nat.le_of_ble_eq_true rfl) (ok_Walk_foundPlinth G (i_sb x3 2) M581 ) (fun r584 => ?_)
              show pm_R _ _ _ (74, [(0, .inr (.inr (0, 0))), (1, .inl x1), (2, .inl x2), (3, .inl x3)], [.inl r584], 119, pm_RF, M581) _ _
              exact R_end (v := some (.inl r584)) rfl (Or.inl rfl) rfl rfl
        · refine R_st ho 1 (q' := (27, [(0, .inr (.inr (0, 0))), (1, .inl x1), (2, .inl x2), (3, .inl x3)], [.inl (-1)], 119, pm_RF, M)) rfl ?_
          exact R_end (v := some (.inl (-1))) rfl (Or.inl rfl) rfl rfl
theorem ok_Keeper_start (G : pm_G) (x1 : Int) (M : pm_M)  : pm_R G mt_Keeper_start 1 (0, [(0, .inr (.inr (3, 18))), (1, .inl x1)], [], 119, pm_RF, M) (f_Keeper_start x1 M) (pm_Zr mt_Keeper_start pm_gV) := by
  have ho : pm_oG G mt_Keeper_start := (oa_Keeper_start).g G
  unfold f_Keeper_start
  refine R_st ho 3 (q' := (5, [(0, .inr (.inr (3, 18))), (1, .inl x1)], [], 119, pm_RF, (pm_ms M 18 5 x1))) rfl ?_
  refine R_nm fun M587 => ?_
  exact R_end (v := none) rfl rfl rfl rfl
theorem ok_Keeper_expect (G : pm_G) (x1 : Int) (x2 : Int) (M : pm_M)  : pm_R G mt_Keeper_expect 1 (0, [(0, .inr (.inr (3, 18))), (1, .inl x1), (2, .inl x2)], [], 119, pm_RF, M) (f_Keeper_expect x1 x2 M) (pm_Zr mt_Keeper_expect pm_gV) := by
  have ho : pm_oG G mt_Keeper_expect := (oa_Keeper_expect).g G
  unfold f_Keeper_expect
  refine R_st ho 4 (q' := (6, [(0, .inr (.inr (3, 18))), (1, .inl x1), (2, .inl x2)], [.inl x2, .inl x1, .inr (.inr (20, 19))], 119, pm_RF, M)) rfl ?_
  refine R_iast ho rfl rfl ?_
  refine R_nm fun M591 => ?_
  exact R_end (v := none) rfl rfl rfl rfl
theorem ok_Keeper_clean_L49 (G : pm_G) (D : Nat) (hD : 1 ≤ D) (rc : Int → Int → pm_M → Option pm_M) (hr0 : ∀ (a b : Int) (M : pm_M), pm_R G mt_Keeper_clean D (0, [(0, .inr (.inr (3, 18))), (1, .inl a), (2, .inl b)], [], 119, pm_RF, M) (rc a b M) (pm_Zr mt_Keeper_clean pm_gV))  : ∀ (n_ : Nat) (y1 : Int) (y2 : Int) (y3 : Int) (M : pm_M), pm_R G mt_Keeper_clean (D + 1) (49, [(0, .inr (.inr (3, 18))), (1, .inl y1), (2, .inl y2), (3, .inl y3)], [], 119, pm_RF, M) (f_Keeper_clean_L49 rc n_ y1 y2 y3 M) (fun e_ q_ => q_ = (120, [], [], 119, pm_RF, e_)) := by
  have ho : pm_oG G mt_Keeper_clean := (oa_Keeper_clean).g G
  intro n_
  induction n_ with
  | zero => intro _ _ _ _; exact R_none
  | succ n_ ih_ =>
    intro y1 y2 y3 M
    rw [f_Keeper_clean_L49]
    refine R_st ho 3 (q' := (54, [(0, .inr (.inr (3, 18))), (1, .inl y1), (2, .inl y2), (3, .inl y3)], [.inl (M 18 5), .inl y3], 119, pm_RF, M)) rfl ?_
    refine R_ic ho rfl (tgt := 120) rfl ?_
    refine R_ge ?_ ?_
    · refine R_pk [] rfl ?_
      exact R_ret rfl
    · refine R_st ho 3 (q' := (62, [(0, .inr (.inr (3, 18))), (1, .inl y1), (2, .inl y2), (3, .inl y3)], [.inl y3, .inr (.inr (20, 20))], 119, pm_RF, M)) rfl ?_
      refine R_iald ho rfl rfl ?_
      refine R_st ho 5 (q' := (71, [(4, .inl (M 20 (y3).toNat)), (0, .inr (.inr (3, 18))), (1, .inl y1), (2, .inl y2), (3, .inl y3)], [.inl y3, .inl y1, .inr (.inr (20, 21))], 119, pm_RF, M)) rfl ?_
      refine R_iast ho rfl rfl ?_
      refine R_nm fun M604 => ?_
      refine R_st ho 4 (q' := (78, [(4, .inl (M 20 (y3).toNat)), (0, .inr (.inr (3, 18))), (1, .inl y1), (2, .inl y2), (3, .inl y3)], [.inl y1, .inl y3, .inr (.inr (20, 20))], 119, pm_RF, M604)) rfl ?_
      refine R_iast ho rfl rfl ?_
      refine R_nm fun M605 => ?_
      refine R_st ho 8 (q' := (89, [(4, .inl (M 20 (y3).toNat)), (0, .inr (.inr (3, 18))), (1, .inl y1), (2, .inl y2), (3, .inl y3)], [.inl y3, .inr (.inr (20, 19)), .inl y2, .inl (i_ad y1 1), .inr (.inr (3, 18))], 119, pm_RF, M605)) rfl ?_
      refine R_iald ho rfl rfl ?_
      refine R_st ho 10 (q' := (103, [(4, .inl (M 20 (y3).toNat)), (0, .inr (.inr (3, 18))), (1, .inl y1), (2, .inl y2), (3, .inl y3)], [.inl (i_ad y2 (i_ml (i_ml (M605 19 (y3).toNat) (i_sb y1 (M 20 (y3).toNat))) (i_sb (M605 18 6) y1))), .inl (i_ad y1 1), .inr (.inr (3, 18))], 119, pm_RF, M605)) rfl ?_
      refine R_callV ho mv_Keeper_clean lk_3_43 rfl (As := [.inl (i_ad y1 1), .inl (i_ad y2 (i_ml (i_ml (M605 19 (y3).toNat) (i_sb y1 (M 20 (y3).toNat))) (i_sb (M605 18 6) y1)))]) (kd := 3) (a := 18) (st := []) rfl rfl (Nat.le_of_ble_eq_true rfl) rfl (by omega) (Nat.le_of_ble_eq_true rfl) (hr0 (i_ad y1 1) (i_ad y2 (i_ml (i_ml (M605 19 (y3).toNat) (i_sb y1 (M 20 (y3).toNat))) (i_sb (M605 18 6) y1))) M605) (fun M606 => ?_)
      show pm_R _ _ _ (106, [(4, .inl (M 20 (y3).toNat)), (0, .inr (.inr (3, 18))), (1, .inl y1), (2, .inl y2), (3, .inl y3)], [], 119, pm_RF, M606) _ _
      refine R_st ho 4 (q' := (113, [(4, .inl (M 20 (y3).toNat)), (0, .inr (.inr (3, 18))), (1, .inl y1), (2, .inl y2), (3, .inl y3)], [.inl (M 20 (y3).toNat), .inl y3, .inr (.inr (20, 20))], 119, pm_RF, M606)) rfl ?_
      refine R_iast ho rfl rfl ?_
      refine R_nm fun M607 => ?_
      refine R_st ho 2 (q' := (49, [(3, .inl (i_ad y3 1)), (4, .inl (M 20 (y3).toNat)), (0, .inr (.inr (3, 18))), (1, .inl y1), (2, .inl y2)], [], 119, pm_RF, M607)) rfl ?_
      refine R_pk [0, 1, 2, 3] rfl ?_
      exact ih_ y1 y2 (i_ad y3 1) M607
theorem ok_Keeper_clean (G : pm_G) (D : Nat) (hD : 1 ≤ D) (rc : Int → Int → pm_M → Option pm_M) (x1 : Int) (x2 : Int) (M : pm_M) (hr0 : ∀ (a b : Int) (M : pm_M), pm_R G mt_Keeper_clean D (0, [(0, .inr (.inr (3, 18))), (1, .inl a), (2, .inl b)], [], 119, pm_RF, M) (rc a b M) (pm_Zr mt_Keeper_clean pm_gV)) : pm_R G mt_Keeper_clean (D + 1) (0, [(0, .inr (.inr (3, 18))), (1, .inl x1), (2, .inl x2)], [], 119, pm_RF, M) (f_Keeper_clean rc x1 x2 M) (pm_Zr mt_Keeper_clean pm_gV) := by
  have ho : pm_oG G mt_Keeper_clean := (oa_Keeper_clean).g G
  unfold f_Keeper_clean
  refine R_st ho 4 (q' := (6, [(0, .inr (.inr (3, 18))), (1, .inl x1), (2, .inl x2)], [.inl x1, .inr (.inr (20, 23)), .inl x2], 119, pm_RF, M)) rfl ?_
  refine R_iald ho rfl rfl ?_
  refine R_st ho 3 (q' := (12, [(0, .inr (.inr (3, 18))), (1, .inl x1), (2, .inl x2)], [.inl (M 18 7), .inl (i_ad x2 (M 23 (x1).toNat))], 119, pm_RF, M)) rfl ?_
  refine R_ic ho rfl (tgt := 16) rfl ?_
  refine R_gt ?_ ?_
  · refine R_st ho 3 (q' := (21, [(0, .inr (.inr (3, 18))), (1, .inl x1), (2, .inl x2)], [.inl (M 18 6), .inl x1], 119, pm_RF, M)) rfl ?_
    refine R_ic ho rfl (tgt := 47) rfl ?_
    refine R_lt ?_ ?_
    · refine R_st ho 2 (q' := (49, [(3, .inl 0), (0, .inr (.inr (3, 18))), (1, .inl x1), (2, .inl x2)], [], 119, pm_RF, M)) rfl ?_
      refine R_pk [0, 1, 2, 3] rfl ?_
      refine R_bind (ok_Keeper_clean_L49 G D hD rc hr0 pm_F x1 x2 0 M) ?_
      intro e608 q_ hq_
      obtain rfl : q_ = (120, [], [], 119, pm_RF, e608) := hq_
      exact R_end (v := none) rfl rfl rfl rfl
    · refine R_st ho 3 (q' := (29, [(0, .inr (.inr (3, 18))), (1, .inl x1), (2, .inl x2)], [], 119, pm_RF, (pm_ms M 18 7 x2))) rfl ?_
      refine R_nm fun M609 => ?_
      refine R_st ho 8 (q' := (43, [(0, .inr (.inr (3, 18))), (1, .inl x1), (2, .inl x2)], [.inl (M609 18 6), .inl 0, .inr (.inr (20, 22)), .inl 0, .inr (.inr (20, 21))], 119, pm_RF, M609)) rfl ?_
      refine R_copy ho (k := 47) (st := []) rfl rfl (Nat.le_of_ble_eq_true rfl) rfl rfl ?_
      refine R_nm fun M610 => ?_
      exact R_end (v := none) rfl rfl rfl rfl
  · exact R_end (v := none) rfl rfl rfl rfl
theorem ok_Keeper_clean_r (G : pm_G) : ∀ (k_ : Nat) (x1 : Int) (x2 : Int) (M : pm_M), pm_R G mt_Keeper_clean (1 + k_) (0, [(0, .inr (.inr (3, 18))), (1, .inl x1), (2, .inl x2)], [], 119, pm_RF, M) (f_Keeper_clean_r k_ x1 x2 M) (pm_Zr mt_Keeper_clean pm_gV)
  | 0, _, _, _ => R_none
  | k_ + 1, x1, x2, M => by
    rw [f_Keeper_clean_r]
    exact ok_Keeper_clean G (1 + k_) (Nat.le_add_right _ _) (f_Keeper_clean_r k_) x1 x2 M (ok_Keeper_clean_r G k_)
theorem ok_Keeper_plan_L14 (G : pm_G)    : ∀ (n_ : Nat) (y2 : Int) (y3 : Int) (M : pm_M), pm_R G mt_Keeper_plan 22 (14, [(0, .inr (.inr (3, 18))), (2, .inl y2), (3, .inl y3)], [], 119, pm_RF, M) (f_Keeper_plan_L14 n_ y2 y3 M) (fun e_ q_ => q_ = (46, [(0, .inr (.inr (3, 18))), (2, .inl e_.1)], [], 119, pm_RF, e_.2)) := by
  have ho : pm_oG G mt_Keeper_plan := (oa_Keeper_plan).g G
  intro n_
  induction n_ with
  | zero => intro _ _ _; exact R_none
  | succ n_ ih_ =>
    intro y2 y3 M
    rw [f_Keeper_plan_L14]
    refine R_st ho 3 (q' := (19, [(0, .inr (.inr (3, 18))), (2, .inl y2), (3, .inl y3)], [.inl (M 18 5), .inl y3], 119, pm_RF, M)) rfl ?_
    refine R_ic ho rfl (tgt := 46) rfl ?_
    refine R_ge ?_ ?_
    · refine R_pk [0, 2] rfl ?_
      exact R_ret rfl
    · refine R_st ho 4 (q' := (28, [(0, .inr (.inr (3, 18))), (2, .inl y2), (3, .inl y3)], [.inl y3, .inr (.inr (20, 19)), .inl y2], 119, pm_RF, M)) rfl ?_
      refine R_iald ho rfl rfl ?_
      refine R_i_mx ho lk_3_37 rfl (Nat.le_of_ble_eq_true rfl) ?_
      refine R_st ho 1 (q' := (33, [(2, .inl (i_mx y2 (M 19 (y3).toNat))), (0, .inr (.inr (3, 18))), (3, .inl y3)], [], 119, pm_RF, M)) rfl ?_
      refine R_nx (fun z_ => (33, [(2, .inl z_), (0, .inr (.inr (3, 18))), (3, .inl y3)], [], 119, pm_RF, M)) fun v598 => ?_
      refine R_st ho 4 (q' := (39, [(2, .inl v598), (0, .inr (.inr (3, 18))), (3, .inl y3)], [.inl (-1), .inl y3, .inr (.inr (20, 20))], 119, pm_RF, M)) rfl ?_
      refine R_iast ho rfl rfl ?_
      refine R_nm fun M599 => ?_
      refine R_st ho 2 (q' := (14, [(3, .inl (i_ad y3 1)), (2, .inl v598), (0, .inr (.inr (3, 18)))], [], 119, pm_RF, M599)) rfl ?_
      refine R_pk [0, 2, 3] rfl ?_
      exact ih_ v598 (i_ad y3 1) M599
theorem ok_Keeper_plan_L63 (G : pm_G)    : ∀ (n_ : Nat) (y2 : Int) (y3 : Int) (M : pm_M), pm_R G mt_Keeper_plan 22 (63, [(0, .inr (.inr (3, 18))), (2, .inl y2), (3, .inl y3)], [], 119, pm_RF, M) (f_Keeper_plan_L63 n_ y2 y3 M) (fun e_ q_ => q_ = (100, [(0, .inr (.inr (3, 18)))], [], 119, pm_RF, e_)) := by
  have ho : pm_oG G mt_Keeper_plan := (oa_Keeper_plan).g G
  intro n_
  induction n_ with
  | zero => intro _ _ _; exact R_none
  | succ n_ ih_ =>
    intro y2 y3 M
    rw [f_Keeper_plan_L63]
    refine R_st ho 1 (q' := (64, [(0, .inr (.inr (3, 18))), (2, .inl y2), (3, .inl y3)], [.inl y3], 119, pm_RF, M)) rfl ?_
    refine R_if ho rfl (tgt := 100) rfl ?_
    refine R_lt ?_ ?_
    · refine R_pk [0] rfl ?_
      exact R_ret rfl
    · refine R_st ho 8 (q' := (79, [(0, .inr (.inr (3, 18))), (2, .inl y2), (3, .inl y3)], [.inl (i_ad y3 1), .inr (.inr (20, 23)), .inl y3, .inr (.inr (20, 23))], 119, pm_RF, M)) rfl ?_
      refine R_iald ho rfl rfl ?_
      refine R_st ho 11 (q' := (93, [(0, .inr (.inr (3, 18))), (2, .inl y2), (3, .inl y3)], [.inl (i_ad (M 23 ((i_ad y3 1)).toNat) (i_ml (i_ml y2 (i_ad y3 1)) (i_sb (M 18 6) y3))), .inl y3, .inr (.inr (20, 23))], 119, pm_RF, M)) rfl ?_
      refine R_iast ho rfl rfl ?_
      refine R_nm fun M602 => ?_
      refine R_st ho 2 (q' := (63, [(3, .inl (i_ad y3 (-1))), (0, .inr (.inr (3, 18))), (2, .inl y2)], [], 119, pm_RF, M602)) rfl ?_
      refine R_pk [0, 2, 3] rfl ?_
      exact ih_ y2 (i_ad y3 (-1)) M602
theorem ok_Keeper_plan (G : pm_G) (x1 : Int) (M : pm_M)  : pm_R G mt_Keeper_plan 22 (0, [(0, .inr (.inr (3, 18))), (1, .inl x1)], [], 119, pm_RF, M) (f_Keeper_plan x1 M) (pm_Zr mt_Keeper_plan pm_gV) := by
  have ho : pm_oG G mt_Keeper_plan := (oa_Keeper_plan).g G
  unfold f_Keeper_plan
  refine R_st ho 3 (q' := (5, [(0, .inr (.inr (3, 18))), (1, .inl x1)], [], 119, pm_RF, (pm_ms M 18 6 x1))) rfl ?_
  refine R_nm fun M596 => ?_
  refine R_st ho 3 (q' := (10, [(0, .inr (.inr (3, 18))), (1, .inl x1)], [], 119, pm_RF, (pm_ms M596 18 7 (-1)))) rfl ?_
  refine R_nm fun M597 => ?_
  refine R_st ho 4 (q' := (14, [(3, .inl 0), (2, .inl 0), (0, .inr (.inr (3, 18))), (1, .inl x1)], [], 119, pm_RF, M597)) rfl ?_
  refine R_pk [0, 2, 3] rfl ?_
  refine R_bind (ok_Keeper_plan_L14 G pm_F 0 0 M597) ?_
  intro e600 q_ hq_
  obtain rfl : q_ = (46, [(0, .inr (.inr (3, 18))), (2, .inl e600.1)], [], 119, pm_RF, e600.2) := hq_
  refine R_st ho 5 (q' := (55, [(0, .inr (.inr (3, 18))), (2, .inl e600.1)], [.inl 0, .inl (e600.2 18 6), .inr (.inr (20, 23))], 119, pm_RF, e600.2)) rfl ?_
  refine R_iast ho rfl rfl ?_
  refine R_nm fun M601 => ?_
  refine R_st ho 5 (q' := (63, [(3, .inl (i_sb (M601 18 6) 1)), (0, .inr (.inr (3, 18))), (2, .inl e600.1)], [], 119, pm_RF, M601)) rfl ?_
  refine R_pk [0, 2, 3] rfl ?_
  refine R_bind (ok_Keeper_plan_L63 G pm_F e600.1 (i_sb (M601 18 6) 1) M601) ?_
  intro e603 q_ hq_
  obtain rfl : q_ = (100, [(0, .inr (.inr (3, 18)))], [], 119, pm_RF, e603) := hq_
  refine R_st ho 3 (q' := (103, [(0, .inr (.inr (3, 18)))], [.inl 0, .inl 0, .inr (.inr (3, 18))], 119, pm_RF, e603)) rfl ?_
  refine R_callV ho mv_Keeper_clean lk_3_43 rfl (As := [.inl 0, .inl 0]) (kd := 3) (a := 18) (st := []) rfl rfl (Nat.le_of_ble_eq_true rfl) rfl (by decide) (Nat.le_of_ble_eq_true rfl) (ok_Keeper_clean_r G 20 0 0 e603) (fun M611 => ?_)
  show pm_R _ _ _ (106, [(0, .inr (.inr (3, 18)))], [], 119, pm_RF, M611) _ _
  exact R_end (v := none) rfl rfl rfl rfl
theorem ok_Keeper_leastDirt_L4 (G : pm_G)   (M : pm_M) : ∀ (n_ : Nat) (y1 : Int) (y2 : Int), pm_R G mt_Keeper_leastDirt 1 (4, [(0, .inr (.inr (3, 18))), (1, .inl y1), (2, .inl y2)], [], 119, pm_RF, M) (f_Keeper_leastDirt_L4 M n_ y1 y2) (fun e_ q_ => q_ = (27, [(0, .inr (.inr (3, 18))), (1, .inl e_)], [], 119, pm_RF, M)) := by
  have ho : pm_oG G mt_Keeper_leastDirt := (oa_Keeper_leastDirt).g G
  intro n_
  induction n_ with
  | zero => intro _ _; exact R_none
  | succ n_ ih_ =>
    intro y1 y2
    rw [f_Keeper_leastDirt_L4]
    refine R_st ho 3 (q' := (9, [(0, .inr (.inr (3, 18))), (1, .inl y1), (2, .inl y2)], [.inl (M 18 5), .inl y2], 119, pm_RF, M)) rfl ?_
    refine R_ic ho rfl (tgt := 27) rfl ?_
    refine R_ge ?_ ?_
    · refine R_pk [0, 1] rfl ?_
      exact R_ret rfl
    · refine R_st ho 4 (q' := (18, [(0, .inr (.inr (3, 18))), (1, .inl y1), (2, .inl y2)], [.inl y2, .inr (.inr (20, 19)), .inl y1], 119, pm_RF, M)) rfl ?_
      refine R_iald ho rfl rfl ?_
      refine R_st ho 2 (q' := (21, [(1, .inl (i_ad y1 (M 19 (y2).toNat))), (0, .inr (.inr (3, 18))), (2, .inl y2)], [], 119, pm_RF, M)) rfl ?_
      refine R_nx (fun z_ => (21, [(1, .inl z_), (0, .inr (.inr (3, 18))), (2, .inl y2)], [], 119, pm_RF, M)) fun v613 => ?_
      refine R_st ho 2 (q' := (4, [(2, .inl (i_ad y2 1)), (1, .inl v613), (0, .inr (.inr (3, 18)))], [], 119, pm_RF, M)) rfl ?_
      refine R_pk [0, 1, 2] rfl ?_
      exact ih_ v613 (i_ad y2 1)
theorem ok_Keeper_leastDirt (G : pm_G)  (M : pm_M)  : pm_R G mt_Keeper_leastDirt 1 (0, [(0, .inr (.inr (3, 18)))], [], 119, pm_RF, M) (f_Keeper_leastDirt M) (pm_Zr mt_Keeper_leastDirt (pm_gi M)) := by
  have ho : pm_oG G mt_Keeper_leastDirt := (oa_Keeper_leastDirt).g G
  unfold f_Keeper_leastDirt
  refine R_st ho 4 (q' := (4, [(2, .inl 0), (1, .inl 0), (0, .inr (.inr (3, 18)))], [], 119, pm_RF, M)) rfl ?_
  refine R_pk [0, 1, 2] rfl ?_
  refine R_bind (ok_Keeper_leastDirt_L4 G M pm_F 0 0) ?_
  intro e614 q_ hq_
  obtain rfl : q_ = (27, [(0, .inr (.inr (3, 18))), (1, .inl e614)], [], 119, pm_RF, M) := hq_
  refine R_st ho 14 (q' := (47, [(0, .inr (.inr (3, 18))), (1, .inl e614)], [.inl (i_sb (i_dv (i_ml (i_ml e614 (M 18 6)) (i_ad (M 18 6) 1)) 2) (M 18 7))], 119, pm_RF, M)) rfl ?_
  exact R_end (v := some (.inl (i_sb (i_dv (i_ml (i_ml e614 (M 18 6)) (i_ad (M 18 6) 1)) 2) (M 18 7)))) rfl (Or.inl rfl) rfl rfl
theorem ok_Keeper_cleanedOn (G : pm_G) (x1 : Int) (M : pm_M)  : pm_R G mt_Keeper_cleanedOn 1 (0, [(0, .inr (.inr (3, 18))), (1, .inl x1)], [], 119, pm_RF, M) (f_Keeper_cleanedOn x1 M) (pm_Zr mt_Keeper_cleanedOn (pm_gi M)) := by
  have ho : pm_oG G mt_Keeper_cleanedOn := (oa_Keeper_cleanedOn).g G
  unfold f_Keeper_cleanedOn
  refine R_st ho 3 (q' := (5, [(0, .inr (.inr (3, 18))), (1, .inl x1)], [.inl x1, .inr (.inr (20, 22))], 119, pm_RF, M)) rfl ?_
  refine R_iald ho rfl rfl ?_
  exact R_end (v := some (.inl (M 22 (x1).toNat))) rfl (Or.inl rfl) rfl rfl
theorem ok_X_rounds_L48 (G : pm_G)    : ∀ (n_ : Nat) (y1 : Int) (y2 : Int) (y3 : Int) (M : pm_M), pm_R G mt_X_rounds 23 (48, [(0, .inr (.inr (0, 0))), (1, .inl y1), (2, .inl y2), (3, .inl y3)], [], 119, pm_RF, M) (f_X_rounds_L48 n_ y1 y2 y3 M) (fun e_ q_ => q_ = (104, [(0, .inr (.inr (0, 0))), (1, .inl e_.1), (2, .inl e_.2.1)], [], 119, pm_RF, e_.2.2)) := by
  have ho : pm_oG G mt_X_rounds := (oa_X_rounds).g G
  intro n_
  induction n_ with
  | zero => intro _ _ _ _; exact R_none
  | succ n_ ih_ =>
    intro y1 y2 y3 M
    rw [f_X_rounds_L48]
    refine R_st ho 3 (q' := (53, [(0, .inr (.inr (0, 0))), (1, .inl y1), (2, .inl y2), (3, .inl y3)], [.inr (.inr (11, 24)), .inl y3], 119, pm_RF, M)) rfl ?_
    refine R_callV ho mv_Told_plinths lk_0_292 rfl (As := []) (kd := 11) (a := 24) (st := [.inl y3]) rfl rfl (Nat.le_of_ble_eq_true rfl) rfl (by decide) (Nat.le_of_ble_eq_true rfl) (ok_Told_plinths G  M ) (fun r589 => ?_)
    show pm_R _ _ _ (56, [(0, .inr (.inr (0, 0))), (1, .inl y1), (2, .inl y2), (3, .inl y3)], [.inl r589, .inl y3], 119, pm_RF, M) _ _
    refine R_ic ho rfl (tgt := 104) rfl ?_
    refine R_ge ?_ ?_
    · refine R_pk [0, 1, 2] rfl ?_
      exact R_ret rfl
    · refine R_st ho 3 (q' := (64, [(0, .inr (.inr (0, 0))), (1, .inl y1), (2, .inl y2), (3, .inl y3)], [.inl y3, .inr (.inr (4, 35))], 119, pm_RF, M)) rfl ?_
      refine R_callV ho mv_Moment_headAt lk_0_129 rfl (As := [.inl y3]) (kd := 4) (a := 35) (st := []) rfl rfl (Nat.le_of_ble_eq_true rfl) rfl (by decide) (Nat.le_of_ble_eq_true rfl) (ok_Moment_headAt G y3 M ) (fun r590 => ?_)
      show pm_R _ _ _ (67, [(0, .inr (.inr (0, 0))), (1, .inl y1), (2, .inl y2), (3, .inl y3)], [.inl r590], 119, pm_RF, M) _ _
      refine R_st ho 6 (q' := (77, [(4, .inl r590), (0, .inr (.inr (0, 0))), (1, .inl y1), (2, .inl y2), (3, .inl y3)], [.inl (-1), .inl r590, .inl y3, .inr (.inr (3, 18))], 119, pm_RF, M)) rfl ?_
      refine R_ic ho rfl (tgt := 84) rfl ?_
      refine R_ne ?_ ?_
      · refine R_st ho 2 (q' := (95, [(4, .inl r590), (0, .inr (.inr (0, 0))), (1, .inl y1), (2, .inl y2), (3, .inl y3)], [.inl 0, .inl y3, .inr (.inr (3, 18))], 119, pm_RF, M)) rfl ?_
        refine R_callV ho mv_Keeper_expect lk_0_298 rfl (As := [.inl y3, .inl 0]) (kd := 3) (a := 18) (st := []) rfl rfl (Nat.le_of_ble_eq_true rfl) rfl (by decide) (Nat.le_of_ble_eq_true rfl) (ok_Keeper_expect G y3 0 M ) (fun M592 => ?_)
        show pm_R _ _ _ (98, [(4, .inl r590), (0, .inr (.inr (0, 0))), (1, .inl y1), (2, .inl y2), (3, .inl y3)], [], 119, pm_RF, M592) _ _
        refine R_st ho 2 (q' := (48, [(3, .inl (i_ad y3 1)), (4, .inl r590), (0, .inr (.inr (0, 0))), (1, .inl y1), (2, .inl y2)], [], 119, pm_RF, M592)) rfl ?_
        refine R_pk [0, 1, 2, 3] rfl ?_
        exact ih_ y1 y2 (i_ad y3 1) M592
      · refine R_st ho 5 (q' := (92, [(4, .inl r590), (0, .inr (.inr (0, 0))), (1, .inl y1), (2, .inl y2), (3, .inl y3)], [.inl r590, .inl y3, .inl 2, .inr (.inr (2, 64)), .inl y3, .inr (.inr (3, 18))], 119, pm_RF, M)) rfl ?_
        refine R_callV ho mv_Judge_amount lk_0_239 rfl (As := [.inl 2, .inl y3, .inl r590]) (kd := 2) (a := 64) (st := [.inl y3, .inr (.inr (3, 18))]) rfl rfl (Nat.le_of_ble_eq_true rfl) rfl (by decide) (Nat.le_of_ble_eq_true rfl) (ok_Judge_amount G 2 y3 r590 M ) (fun r593 => ?_)
        show pm_R _ _ _ (95, [(4, .inl r590), (0, .inr (.inr (0, 0))), (1, .inl y1), (2, .inl y2), (3, .inl y3)], [.inl r593.1, .inl y3, .inr (.inr (3, 18))], 119, pm_RF, r593.2) _ _
        refine R_callV ho mv_Keeper_expect lk_0_298 rfl (As := [.inl y3, .inl r593.1]) (kd := 3) (a := 18) (st := []) rfl rfl (Nat.le_of_ble_eq_true rfl) rfl (by decide) (Nat.le_of_ble_eq_true rfl) (ok_Keeper_expect G y3 r593.1 r593.2 ) (fun M594 => ?_)
        show pm_R _ _ _ (98, [(4, .inl r590), (0, .inr (.inr (0, 0))), (1, .inl y1), (2, .inl y2), (3, .inl y3)], [], 119, pm_RF, M594) _ _
        refine R_st ho 2 (q' := (48, [(3, .inl (i_ad y3 1)), (4, .inl r590), (0, .inr (.inr (0, 0))), (1, .inl y1), (2, .inl y2)], [], 119, pm_RF, M594)) rfl ?_
        refine R_pk [0, 1, 2, 3] rfl ?_
        exact ih_ y1 y2 (i_ad y3 1) M594
theorem ok_X_rounds (G : pm_G) (x1 : Int) (x2 : Int) (M : pm_M)  : pm_R G mt_X_rounds 23 (0, [(0, .inr (.inr (0, 0))), (1, .inl x1), (2, .inl x2)], [], 119, pm_RF, M) (f_X_rounds x1 x2 M) (pm_Zr mt_X_rounds pm_gI) := by
  have ho : pm_oG G mt_X_rounds := (oa_X_rounds).g G
  unfold f_X_rounds
  refine R_st ho 2 (q' := (2, [(0, .inr (.inr (0, 0))), (1, .inl x1), (2, .inl x2)], [.inl 1, .inl x1], 119, pm_RF, M)) rfl ?_
  refine R_ic ho rfl (tgt := 30) rfl ?_
  refine R_lt ?_ ?_
  · refine R_st ho 1 (q' := (31, [(0, .inr (.inr (0, 0))), (1, .inl x1), (2, .inl x2)], [.inl (-1)], 119, pm_RF, M)) rfl ?_
    exact R_end (v := some (.inl (-1))) rfl (Or.inl rfl) rfl rfl
  · refine R_st ho 2 (q' := (7, [(0, .inr (.inr (0, 0))), (1, .inl x1), (2, .inl x2)], [.inl 5, .inl x1], 119, pm_RF, M)) rfl ?_
    refine R_ic ho rfl (tgt := 30) rfl ?_
    refine R_gt ?_ ?_
    · refine R_st ho 1 (q' := (31, [(0, .inr (.inr (0, 0))), (1, .inl x1), (2, .inl x2)], [.inl (-1)], 119, pm_RF, M)) rfl ?_
      exact R_end (v := some (.inl (-1))) rfl (Or.inl rfl) rfl rfl
    · refine R_st ho 2 (q' := (12, [(0, .inr (.inr (0, 0))), (1, .inl x1), (2, .inl x2)], [.inl (-1), .inl x2], 119, pm_RF, M)) rfl ?_
      refine R_ic ho rfl (tgt := 30) rfl ?_
      refine R_lt ?_ ?_
      · refine R_st ho 1 (q' := (31, [(0, .inr (.inr (0, 0))), (1, .inl x1), (2, .inl x2)], [.inl (-1)], 119, pm_RF, M)) rfl ?_
        exact R_end (v := some (.inl (-1))) rfl (Or.inl rfl) rfl rfl
      · refine R_st ho 2 (q' := (17, [(0, .inr (.inr (0, 0))), (1, .inl x1), (2, .inl x2)], [.inl x1, .inl x2], 119, pm_RF, M)) rfl ?_
        refine R_ic ho rfl (tgt := 30) rfl ?_
        refine R_ge ?_ ?_
        · refine R_st ho 1 (q' := (31, [(0, .inr (.inr (0, 0))), (1, .inl x1), (2, .inl x2)], [.inl (-1)], 119, pm_RF, M)) rfl ?_
          exact R_end (v := some (.inl (-1))) rfl (Or.inl rfl) rfl rfl
        · refine R_st ho 2 (q' := (24, [(0, .inr (.inr (0, 0))), (1, .inl x1), (2, .inl x2)], [.inr (.inr (11, 24))], 119, pm_RF, M)) rfl ?_
          refine R_callV ho mv_Told_plinths lk_0_292 rfl (As := []) (kd := 11) (a := 24) (st := []) rfl rfl (Nat.le_of_ble_eq_true rfl) rfl (by decide) (Nat.le_of_ble_eq_true rfl) (ok_Told_plinths G  M ) (fun r585 => ?_)
          show pm_R _ _ _ (27, [(0, .inr (.inr (0, 0))), (1, .inl x1), (2, .inl x2)], [.inl r585], 119, pm_RF, M) _ _
          refine R_if ho rfl (tgt := 32) rfl ?_
          refine R_ne ?_ ?_
          · refine R_st ho 1 (q' := (31, [(0, .inr (.inr (0, 0))), (1, .inl x1), (2, .inl x2)], [.inl (-1)], 119, pm_RF, M)) rfl ?_
            exact R_end (v := some (.inl (-1))) rfl (Or.inl rfl) rfl rfl
          · refine R_st ho 4 (q' := (40, [(0, .inr (.inr (0, 0))), (1, .inl x1), (2, .inl x2)], [.inr (.inr (11, 24)), .inr (.inr (3, 18))], 119, pm_RF, M)) rfl ?_
            refine R_callV ho mv_Told_plinths lk_0_292 rfl (As := []) (kd := 11) (a := 24) (st := [.inr (.inr (3, 18))]) rfl rfl (Nat.le_of_ble_eq_true rfl) rfl (by decide) (Nat.le_of_ble_eq_true rfl) (ok_Told_plinths G  M ) (fun r586 => ?_)
            show pm_R _ _ _ (43, [(0, .inr (.inr (0, 0))), (1, .inl x1), (2, .inl x2)], [.inl r586, .inr (.inr (3, 18))], 119, pm_RF, M) _ _
            refine R_callV ho mv_Keeper_start lk_0_295 rfl (As := [.inl r586]) (kd := 3) (a := 18) (st := []) rfl rfl (Nat.le_of_ble_eq_true rfl) rfl (by decide) (Nat.le_of_ble_eq_true rfl) (ok_Keeper_start G r586 M ) (fun M588 => ?_)
            show pm_R _ _ _ (46, [(0, .inr (.inr (0, 0))), (1, .inl x1), (2, .inl x2)], [], 119, pm_RF, M588) _ _
            refine R_st ho 2 (q' := (48, [(3, .inl 0), (0, .inr (.inr (0, 0))), (1, .inl x1), (2, .inl x2)], [], 119, pm_RF, M588)) rfl ?_
            refine R_pk [0, 1, 2, 3] rfl ?_
            refine R_bind (ok_X_rounds_L48 G pm_F x1 x2 0 M588) ?_
            intro e595 q_ hq_
            obtain rfl : q_ = (104, [(0, .inr (.inr (0, 0))), (1, .inl e595.1), (2, .inl e595.2.1)], [], 119, pm_RF, e595.2.2) := hq_
            refine R_st ho 3 (q' := (109, [(0, .inr (.inr (0, 0))), (1, .inl e595.1), (2, .inl e595.2.1)], [.inl e595.1, .inr (.inr (3, 18))], 119, pm_RF, e595.2.2)) rfl ?_
            refine R_callV ho mv_Keeper_plan lk_0_301 rfl (As := [.inl e595.1]) (kd := 3) (a := 18) (st := []) rfl rfl (Nat.le_of_ble_eq_true rfl) rfl (by decide) (Nat.le_of_ble_eq_true rfl) (ok_Keeper_plan G e595.1 e595.2.2 ) (fun M612 => ?_)
            show pm_R _ _ _ (112, [(0, .inr (.inr (0, 0))), (1, .inl e595.1), (2, .inl e595.2.1)], [], 119, pm_RF, M612) _ _
            refine R_st ho 2 (q' := (114, [(0, .inr (.inr (0, 0))), (1, .inl e595.1), (2, .inl e595.2.1)], [.inl (-1), .inl e595.2.1], 119, pm_RF, M612)) rfl ?_
            refine R_ic ho rfl (tgt := 127) rfl ?_
            refine R_ne ?_ ?_
            · refine R_st ho 2 (q' := (121, [(0, .inr (.inr (0, 0))), (1, .inl e595.1), (2, .inl e595.2.1)], [.inr (.inr (3, 18))], 119, pm_RF, M612)) rfl ?_
              refine R_callV ho mv_Keeper_leastDirt lk_0_304 rfl (As := []) (kd := 3) (a := 18) (st := []) rfl rfl (Nat.le_of_ble_eq_true rfl) rfl (by decide) (Nat.le_of_ble_eq_true rfl) (ok_Keeper_leastDirt G  M612 ) (fun r615 => ?_)
              show pm_R _ _ _ (124, [(0, .inr (.inr (0, 0))), (1, .inl e595.1), (2, .inl e595.2.1)], [.inl r615], 119, pm_RF, M612) _ _
              refine R_st ho 1 (q' := (135, [(0, .inr (.inr (0, 0))), (1, .inl e595.1), (2, .inl e595.2.1)], [.inl r615], 119, pm_RF, M612)) rfl ?_
              exact R_end (v := some (.inl r615)) rfl (Or.inl rfl) rfl rfl
            · refine R_st ho 3 (q' := (132, [(0, .inr (.inr (0, 0))), (1, .inl e595.1), (2, .inl e595.2.1)], [.inl e595.2.1, .inr (.inr (3, 18))], 119, pm_RF, M612)) rfl ?_
              refine R_callV ho mv_Keeper_cleanedOn lk_0_307 rfl (As := [.inl e595.2.1]) (kd := 3) (a := 18) (st := []) rfl rfl (Nat.le_of_ble_eq_true rfl) rfl (by decide) (Nat.le_of_ble_eq_true rfl) (ok_Keeper_cleanedOn G e595.2.1 M612 ) (fun r616 => ?_)
              show pm_R _ _ _ (135, [(0, .inr (.inr (0, 0))), (1, .inl e595.1), (2, .inl e595.2.1)], [.inl r616], 119, pm_RF, M612) _ _
              exact R_end (v := some (.inl r616)) rfl (Or.inl rfl) rfl rfl
