/-! printed by my own program: functions of the pure memory, and that the code follows them -/
theorem ok_Q_pass_L33 (G : pm_G)    : ∀ (n_ : Nat) (y1 : Int) (y2 : Int) (M : pm_M), pm_R G mt_Q_pass 6 (33, [(0, .inr (.inr (1, 87))), (1, .inl y1), (2, .inl y2)], [], 119, pm_RF, M) (f_Q_pass_L33 n_ y1 y2 M) (fun e_ q_ => q_ = (48, [(0, .inr (.inr (1, 87)))], [], 119, pm_RF, e_)) := by
  have ho : pm_oG G mt_Q_pass := (oa_Q_pass).g G
  intro n_
  induction n_ with
  | zero => intro _ _ _; exact R_none
  | succ n_ ih_ =>
    intro y1 y2 M
    rw [f_Q_pass_L33]
    refine R_st ho 2 (q' := (35, [(0, .inr (.inr (1, 87))), (1, .inl y1), (2, .inl y2)], [.inl y1, .inl y2], 119, pm_RF, M)) rfl ?_
    refine R_ic ho rfl (tgt := 48) rfl ?_
    refine R_ge ?_ ?_
    · refine R_pk [0] rfl ?_
      exact R_ret rfl
    · refine R_st ho 1 (q' := (39, [(0, .inr (.inr (1, 87))), (1, .inl y1), (2, .inl y2)], [.inr (.inr (1, 87))], 119, pm_RF, M)) rfl ?_
      refine R_callV ho mv_Q_dayPasses lk_1_359 rfl (As := []) (kd := 1) (a := 87) (st := []) rfl rfl (Nat.le_of_ble_eq_true rfl) rfl (by decide) (Nat.le_of_ble_eq_true rfl) (ok_Q_dayPasses G  M ) (fun M1108 => ?_)
      show pm_R _ _ _ (42, [(0, .inr (.inr (1, 87))), (1, .inl y1), (2, .inl y2)], [], 119, pm_RF, M1108) _ _
      refine R_st ho 2 (q' := (33, [(2, .inl (i_ad y2 1)), (0, .inr (.inr (1, 87))), (1, .inl y1)], [], 119, pm_RF, M1108)) rfl ?_
      refine R_pk [0, 1, 2] rfl ?_
      exact ih_ y1 (i_ad y2 1) M1108
theorem ok_Q_pass (G : pm_G) (x1 : Int) (M : pm_M)  : pm_R G mt_Q_pass 6 (0, [(0, .inr (.inr (1, 87))), (1, .inl x1)], [], 119, pm_RF, M) (f_Q_pass x1 M) (pm_Zr mt_Q_pass pm_gI) := by
  have ho : pm_oG G mt_Q_pass := (oa_Q_pass).g G
  unfold f_Q_pass
  refine R_st ho 3 (q' := (4, [(0, .inr (.inr (1, 87))), (1, .inl x1)], [.inl 99, .inl 1, .inl x1], 119, pm_RF, M)) rfl ?_
  refine R_callS ho ms_Q_in lk_1_118 rfl (As := [.inl x1, .inl 1, .inl 99]) (st := []) rfl (Nat.le_of_ble_eq_true rfl) rfl (by decide) (Nat.le_of_ble_eq_true rfl) (ok_Q_in G x1 1 99 M ) (fun r1044 => ?_)
  show pm_R _ _ _ (7, [(0, .inr (.inr (1, 87))), (1, .inl x1)], [.inl r1044], 119, pm_RF, M) _ _
  refine R_if ho rfl (tgt := 25) rfl ?_
  refine R_eq ?_ ?_
  · refine R_st ho 1 (q' := (26, [(0, .inr (.inr (1, 87))), (1, .inl x1)], [.inl (-1)], 119, pm_RF, M)) rfl ?_
    exact R_end (v := some (.inl (-1))) rfl (Or.inl rfl) rfl rfl
  · refine R_st ho 7 (q' := (22, [(0, .inr (.inr (1, 87))), (1, .inl x1)], [.inl 999, .inl (i_ad (M 88 99) x1)], 119, pm_RF, M)) rfl ?_
    refine R_ic ho rfl (tgt := 27) rfl ?_
    refine R_le ?_ ?_
    · refine R_st ho 1 (q' := (28, [(0, .inr (.inr (1, 87))), (1, .inl x1)], [.inr (.inr (1, 87))], 119, pm_RF, M)) rfl ?_
      refine R_callV ho mv_Q_keepsStep lk_1_137 rfl (As := []) (kd := 1) (a := 87) (st := []) rfl rfl (Nat.le_of_ble_eq_true rfl) rfl (by decide) (Nat.le_of_ble_eq_true rfl) (ok_Q_keepsStep G  M ) (fun M1045 => ?_)
      show pm_R _ _ _ (31, [(0, .inr (.inr (1, 87))), (1, .inl x1)], [], 119, pm_RF, M1045) _ _
      refine R_st ho 2 (q' := (33, [(2, .inl 0), (0, .inr (.inr (1, 87))), (1, .inl x1)], [], 119, pm_RF, M1045)) rfl ?_
      refine R_pk [0, 1, 2] rfl ?_
      refine R_bind (ok_Q_pass_L33 G pm_F x1 0 M1045) ?_
      intro e1109 q_ hq_
      obtain rfl : q_ = (48, [(0, .inr (.inr (1, 87)))], [], 119, pm_RF, e1109) := hq_
      refine R_st ho 4 (q' := (55, [(0, .inr (.inr (1, 87)))], [.inl (e1109 88 99)], 119, pm_RF, e1109)) rfl ?_
      exact R_end (v := some (.inl (e1109 88 99))) rfl (Or.inl rfl) rfl rfl
    · refine R_st ho 1 (q' := (26, [(0, .inr (.inr (1, 87))), (1, .inl x1)], [.inl (-1)], 119, pm_RF, M)) rfl ?_
      exact R_end (v := some (.inl (-1))) rfl (Or.inl rfl) rfl rfl
theorem ok_Q_played_L21 (G : pm_G)    : ∀ (n_ : Nat) (y1 : Int) (y2 : Int) (M : pm_M), pm_R G mt_Q_played 7 (21, [(0, .inr (.inr (1, 87))), (1, .inl y1), (2, .inl y2)], [], 119, pm_RF, M) (f_Q_played_L21 n_ y1 y2 M) (fun e_ q_ => match e_ with | .inl e_ => q_ = (171, [(2, .inl e_.1)], [], 119, pm_RF, e_.2) | .inr e_ => q_ = (179, [], [], 119, pm_RF, e_)) := by
  have ho : pm_oG G mt_Q_played := (oa_Q_played).g G
  intro n_
  induction n_ with
  | zero => intro _ _ _; exact R_none
  | succ n_ ih_ =>
    intro y1 y2 M
    rw [f_Q_played_L21]
    refine R_st ho 4 (q' := (27, [(0, .inr (.inr (1, 87))), (1, .inl y1), (2, .inl y2)], [.inl y1, .inr (.inr (20, 91)), .inl y2], 119, pm_RF, M)) rfl ?_
    refine R_iald ho rfl rfl ?_
    refine R_ic ho rfl (tgt := 179) rfl ?_
    refine R_ge ?_ ?_
    · refine R_pk [] rfl ?_
      exact R_ret rfl
    · refine R_st ho 11 (q' := (46, [(4, .inl 1), (3, .inl (i_ad (i_ml 24 y1) y2)), (0, .inr (.inr (1, 87))), (1, .inl y1), (2, .inl y2)], [.inl (i_ad (i_ml 24 y1) y2), .inr (.inr (20, 92))], 119, pm_RF, M)) rfl ?_
      refine R_iald ho rfl rfl ?_
      refine R_cs (fun z_ => (47, [(4, .inl 1), (3, .inl (i_ad (i_ml 24 y1) y2)), (0, .inr (.inr (1, 87))), (1, .inl y1), (2, .inl y2)], [.inl z_], 119, pm_RF, M)) ?_ (fun h1115 => ?_)
      · refine R_swk ho rfl (by decide) rfl (tgt := 76) rfl (by decide +kernel) ?_
        refine R_st ho 4 (q' := (82, [(4, .inl 1), (3, .inl (i_ad (i_ml 24 y1) y2)), (0, .inr (.inr (1, 87))), (1, .inl y1), (2, .inl y2)], [.inl (i_ad (i_ml 24 y1) y2), .inr (.inr (20, 94)), .inr (.inr (1, 87))], 119, pm_RF, M)) rfl ?_
        refine R_iald ho rfl rfl ?_
        refine R_st ho 3 (q' := (88, [(4, .inl 1), (3, .inl (i_ad (i_ml 24 y1) y2)), (0, .inr (.inr (1, 87))), (1, .inl y1), (2, .inl y2)], [.inl (i_ad (i_ml 24 y1) y2), .inr (.inr (20, 95)), .inl (M 94 ((i_ad (i_ml 24 y1) y2)).toNat), .inr (.inr (1, 87))], 119, pm_RF, M)) rfl ?_
        refine R_iald ho rfl rfl ?_
        refine R_callV ho mv_Q_put lk_1_362 rfl (As := [.inl (M 94 ((i_ad (i_ml 24 y1) y2)).toNat), .inl (M 95 ((i_ad (i_ml 24 y1) y2)).toNat)]) (kd := 1) (a := 87) (st := []) rfl rfl (Nat.le_of_ble_eq_true rfl) rfl (by decide) (Nat.le_of_ble_eq_true rfl) (ok_Q_put G (M 94 ((i_ad (i_ml 24 y1) y2)).toNat) (M 95 ((i_ad (i_ml 24 y1) y2)).toNat) M ) (fun r1111 => ?_)
        show pm_R _ _ _ (92, [(4, .inl 1), (3, .inl (i_ad (i_ml 24 y1) y2)), (0, .inr (.inr (1, 87))), (1, .inl y1), (2, .inl y2)], [.inl r1111.1], 119, pm_RF, r1111.2) _ _
        refine R_st ho 3 (q' := (168, [(4, .inl r1111.1), (3, .inl (i_ad (i_ml 24 y1) y2)), (0, .inr (.inr (1, 87))), (1, .inl y1), (2, .inl y2)], [.inl r1111.1], 119, pm_RF, r1111.2)) rfl ?_
        refine R_if ho rfl (tgt := 173) rfl ?_
        refine R_ne ?_ ?_
        · refine R_pk [2] rfl ?_
          exact R_ret rfl
        · refine R_st ho 2 (q' := (21, [(2, .inl (i_ad y2 1)), (4, .inl r1111.1), (3, .inl (i_ad (i_ml 24 y1) y2)), (0, .inr (.inr (1, 87))), (1, .inl y1)], [], 119, pm_RF, r1111.2)) rfl ?_
          refine R_pk [0, 1, 2] rfl ?_
          exact ih_ y1 (i_ad y2 1) r1111.2
      refine R_cs (fun z_ => (47, [(4, .inl 1), (3, .inl (i_ad (i_ml 24 y1) y2)), (0, .inr (.inr (1, 87))), (1, .inl y1), (2, .inl y2)], [.inl z_], 119, pm_RF, M)) ?_ (fun h1116 => ?_)
      · refine R_swk ho rfl (by decide) rfl (tgt := 97) rfl (by decide +kernel) ?_
        refine R_st ho 4 (q' := (103, [(4, .inl 1), (3, .inl (i_ad (i_ml 24 y1) y2)), (0, .inr (.inr (1, 87))), (1, .inl y1), (2, .inl y2)], [.inl (i_ad (i_ml 24 y1) y2), .inr (.inr (20, 94)), .inr (.inr (1, 87))], 119, pm_RF, M)) rfl ?_
        refine R_iald ho rfl rfl ?_
        refine R_callV ho mv_Q_off lk_1_365 rfl (As := [.inl (M 94 ((i_ad (i_ml 24 y1) y2)).toNat)]) (kd := 1) (a := 87) (st := []) rfl rfl (Nat.le_of_ble_eq_true rfl) rfl (by decide) (Nat.le_of_ble_eq_true rfl) (ok_Q_off G (M 94 ((i_ad (i_ml 24 y1) y2)).toNat) M ) (fun r1112 => ?_)
        show pm_R _ _ _ (107, [(4, .inl 1), (3, .inl (i_ad (i_ml 24 y1) y2)), (0, .inr (.inr (1, 87))), (1, .inl y1), (2, .inl y2)], [.inl r1112.1], 119, pm_RF, r1112.2) _ _
        refine R_st ho 1 (q' := (108, [(4, .inl 1), (3, .inl (i_ad (i_ml 24 y1) y2)), (0, .inr (.inr (1, 87))), (1, .inl y1), (2, .inl y2)], [.inl (-1), .inl r1112.1], 119, pm_RF, r1112.2)) rfl ?_
        refine R_ic ho rfl (tgt := 115) rfl ?_
        refine R_eq ?_ ?_
        · refine R_st ho 5 (q' := (171, [(4, .inl 0), (3, .inl (i_ad (i_ml 24 y1) y2)), (0, .inr (.inr (1, 87))), (1, .inl y1), (2, .inl y2)], [], 119, pm_RF, r1112.2)) rfl ?_
          refine R_pk [2] rfl ?_
          exact R_ret rfl
        · refine R_st ho 8 (q' := (21, [(2, .inl (i_ad y2 1)), (4, .inl 1), (3, .inl (i_ad (i_ml 24 y1) y2)), (0, .inr (.inr (1, 87))), (1, .inl y1)], [], 119, pm_RF, r1112.2)) rfl ?_
          refine R_pk [0, 1, 2] rfl ?_
          exact ih_ y1 (i_ad y2 1) r1112.2
      refine R_cs (fun z_ => (47, [(4, .inl 1), (3, .inl (i_ad (i_ml 24 y1) y2)), (0, .inr (.inr (1, 87))), (1, .inl y1), (2, .inl y2)], [.inl z_], 119, pm_RF, M)) ?_ (fun h1117 => ?_)
      · refine R_swk ho rfl (by decide) rfl (tgt := 121) rfl (by decide +kernel) ?_
        refine R_st ho 4 (q' := (127, [(4, .inl 1), (3, .inl (i_ad (i_ml 24 y1) y2)), (0, .inr (.inr (1, 87))), (1, .inl y1), (2, .inl y2)], [.inl (i_ad (i_ml 24 y1) y2), .inr (.inr (20, 94)), .inr (.inr (1, 87))], 119, pm_RF, M)) rfl ?_
        refine R_iald ho rfl rfl ?_
        refine R_st ho 3 (q' := (133, [(4, .inl 1), (3, .inl (i_ad (i_ml 24 y1) y2)), (0, .inr (.inr (1, 87))), (1, .inl y1), (2, .inl y2)], [.inl (i_ad (i_ml 24 y1) y2), .inr (.inr (20, 95)), .inl (M 94 ((i_ad (i_ml 24 y1) y2)).toNat), .inr (.inr (1, 87))], 119, pm_RF, M)) rfl ?_
        refine R_iald ho rfl rfl ?_
        refine R_callV ho mv_Q_change lk_1_368 rfl (As := [.inl (M 94 ((i_ad (i_ml 24 y1) y2)).toNat), .inl (M 95 ((i_ad (i_ml 24 y1) y2)).toNat)]) (kd := 1) (a := 87) (st := []) rfl rfl (Nat.le_of_ble_eq_true rfl) rfl (by decide) (Nat.le_of_ble_eq_true rfl) (ok_Q_change G (M 94 ((i_ad (i_ml 24 y1) y2)).toNat) (M 95 ((i_ad (i_ml 24 y1) y2)).toNat) M ) (fun r1113 => ?_)
        show pm_R _ _ _ (137, [(4, .inl 1), (3, .inl (i_ad (i_ml 24 y1) y2)), (0, .inr (.inr (1, 87))), (1, .inl y1), (2, .inl y2)], [.inl r1113.1], 119, pm_RF, r1113.2) _ _
        refine R_st ho 3 (q' := (168, [(4, .inl r1113.1), (3, .inl (i_ad (i_ml 24 y1) y2)), (0, .inr (.inr (1, 87))), (1, .inl y1), (2, .inl y2)], [.inl r1113.1], 119, pm_RF, r1113.2)) rfl ?_
        refine R_if ho rfl (tgt := 173) rfl ?_
        refine R_ne ?_ ?_
        · refine R_pk [2] rfl ?_
          exact R_ret rfl
        · refine R_st ho 2 (q' := (21, [(2, .inl (i_ad y2 1)), (4, .inl r1113.1), (3, .inl (i_ad (i_ml 24 y1) y2)), (0, .inr (.inr (1, 87))), (1, .inl y1)], [], 119, pm_RF, r1113.2)) rfl ?_
          refine R_pk [0, 1, 2] rfl ?_
          exact ih_ y1 (i_ad y2 1) r1113.2
      refine R_cs (fun z_ => (47, [(4, .inl 1), (3, .inl (i_ad (i_ml 24 y1) y2)), (0, .inr (.inr (1, 87))), (1, .inl y1), (2, .inl y2)], [.inl z_], 119, pm_RF, M)) ?_ (fun h1118 => ?_)
      · refine R_swk ho rfl (by decide) rfl (tgt := 142) rfl (by decide +kernel) ?_
        refine R_st ho 4 (q' := (148, [(4, .inl 1), (3, .inl (i_ad (i_ml 24 y1) y2)), (0, .inr (.inr (1, 87))), (1, .inl y1), (2, .inl y2)], [.inl (i_ad (i_ml 24 y1) y2), .inr (.inr (20, 94)), .inr (.inr (1, 87))], 119, pm_RF, M)) rfl ?_
        refine R_iald ho rfl rfl ?_
        refine R_callV ho mv_Q_pass lk_1_371 rfl (As := [.inl (M 94 ((i_ad (i_ml 24 y1) y2)).toNat)]) (kd := 1) (a := 87) (st := []) rfl rfl (Nat.le_of_ble_eq_true rfl) rfl (by decide) (Nat.le_of_ble_eq_true rfl) (ok_Q_pass G (M 94 ((i_ad (i_ml 24 y1) y2)).toNat) M ) (fun r1114 => ?_)
        show pm_R _ _ _ (152, [(4, .inl 1), (3, .inl (i_ad (i_ml 24 y1) y2)), (0, .inr (.inr (1, 87))), (1, .inl y1), (2, .inl y2)], [.inl r1114.1], 119, pm_RF, r1114.2) _ _
        refine R_st ho 1 (q' := (153, [(4, .inl 1), (3, .inl (i_ad (i_ml 24 y1) y2)), (0, .inr (.inr (1, 87))), (1, .inl y1), (2, .inl y2)], [.inl (-1), .inl r1114.1], 119, pm_RF, r1114.2)) rfl ?_
        refine R_ic ho rfl (tgt := 160) rfl ?_
        refine R_eq ?_ ?_
        · refine R_st ho 5 (q' := (171, [(4, .inl 0), (3, .inl (i_ad (i_ml 24 y1) y2)), (0, .inr (.inr (1, 87))), (1, .inl y1), (2, .inl y2)], [], 119, pm_RF, r1114.2)) rfl ?_
          refine R_pk [2] rfl ?_
          exact R_ret rfl
        · refine R_st ho 8 (q' := (21, [(2, .inl (i_ad y2 1)), (4, .inl 1), (3, .inl (i_ad (i_ml 24 y1) y2)), (0, .inr (.inr (1, 87))), (1, .inl y1)], [], 119, pm_RF, r1114.2)) rfl ?_
          refine R_pk [0, 1, 2] rfl ?_
          exact ih_ y1 (i_ad y2 1) r1114.2
      refine R_swd ho rfl (by omega) rfl (by decide +kernel) ?_
      refine R_st ho 4 (q' := (21, [(2, .inl (i_ad y2 1)), (4, .inl 1), (3, .inl (i_ad (i_ml 24 y1) y2)), (0, .inr (.inr (1, 87))), (1, .inl y1)], [], 119, pm_RF, M)) rfl ?_
      refine R_pk [0, 1, 2] rfl ?_
      exact ih_ y1 (i_ad y2 1) M
theorem ok_Q_played (G : pm_G) (x1 : Int) (M : pm_M)  : pm_R G mt_Q_played 7 (0, [(0, .inr (.inr (1, 87))), (1, .inl x1)], [], 119, pm_RF, M) (f_Q_played x1 M) (pm_Zr mt_Q_played pm_gI) := by
  have ho : pm_oG G mt_Q_played := (oa_Q_played).g G
  unfold f_Q_played
  refine R_st ho 8 (q' := (10, [(0, .inr (.inr (1, 87))), (1, .inl x1)], [.inl (i_sb (M 88 2) 1), .inl 0, .inl x1], 119, pm_RF, M)) rfl ?_
  refine R_callS ho ms_Q_in lk_1_118 rfl (As := [.inl x1, .inl 0, .inl (i_sb (M 88 2) 1)]) (st := []) rfl (Nat.le_of_ble_eq_true rfl) rfl (by decide) (Nat.le_of_ble_eq_true rfl) (ok_Q_in G x1 0 (i_sb (M 88 2) 1) M ) (fun r1110 => ?_)
  show pm_R _ _ _ (13, [(0, .inr (.inr (1, 87))), (1, .inl x1)], [.inl r1110], 119, pm_RF, M) _ _
  refine R_if ho rfl (tgt := 19) rfl ?_
  refine R_ne ?_ ?_
  · refine R_st ho 1 (q' := (18, [(0, .inr (.inr (1, 87))), (1, .inl x1)], [.inl (-2)], 119, pm_RF, M)) rfl ?_
    exact R_end (v := some (.inl (-2))) rfl (Or.inl rfl) rfl rfl
  · refine R_st ho 2 (q' := (21, [(2, .inl 0), (0, .inr (.inr (1, 87))), (1, .inl x1)], [], 119, pm_RF, M)) rfl ?_
    refine R_pk [0, 1, 2] rfl ?_
    refine R_bind (ok_Q_played_L21 G pm_F x1 0 M) ?_
    intro e1119 q_ hq_
    cases e1119 with
    | inl e1119 =>
      obtain rfl : q_ = (171, [(2, .inl e1119.1)], [], 119, pm_RF, e1119.2) := hq_
      refine R_st ho 1 (q' := (172, [(2, .inl e1119.1)], [.inl e1119.1], 119, pm_RF, e1119.2)) rfl ?_
      exact R_end (v := some (.inl e1119.1)) rfl (Or.inl rfl) rfl rfl
    | inr e1119 =>
      obtain rfl : q_ = (179, [], [], 119, pm_RF, e1119) := hq_
      refine R_st ho 1 (q' := (180, [], [.inl (-1)], 119, pm_RF, e1119)) rfl ?_
      exact R_end (v := some (.inl (-1))) rfl (Or.inl rfl) rfl rfl
theorem ok_Q_of (G : pm_G) (x1 : Int) (x2 : Int) (M : pm_M)  : pm_R G mt_Q_of 5 (0, [(0, .inr (.inr (1, 87))), (1, .inl x1), (2, .inl x2)], [], 119, pm_RF, M) (f_Q_of x1 x2 M) (pm_Zr mt_Q_of pm_gI) := by
  have ho : pm_oG G mt_Q_of := (oa_Q_of).g G
  unfold f_Q_of
  refine R_st ho 2 (q' := (2, [(0, .inr (.inr (1, 87))), (1, .inl x1), (2, .inl x2)], [.inl x1, .inr (.inr (1, 87))], 119, pm_RF, M)) rfl ?_
  refine R_callV ho mv_Q_isPlinth lk_1_126 rfl (As := [.inl x1]) (kd := 1) (a := 87) (st := []) rfl rfl (Nat.le_of_ble_eq_true rfl) rfl (by decide) (Nat.le_of_ble_eq_true rfl) (ok_Q_isPlinth G x1 M ) (fun r1120 => ?_)
  show pm_R _ _ _ (5, [(0, .inr (.inr (1, 87))), (1, .inl x1), (2, .inl x2)], [.inl r1120], 119, pm_RF, M) _ _
  refine R_if ho rfl (tgt := 18) rfl ?_
  refine R_eq ?_ ?_
  · refine R_st ho 1 (q' := (20, [(0, .inr (.inr (1, 87))), (1, .inl x1), (2, .inl x2)], [.inl (-2)], 119, pm_RF, M)) rfl ?_
    exact R_end (v := some (.inl (-2))) rfl (Or.inl rfl) rfl rfl
  · refine R_st ho 3 (q' := (12, [(0, .inr (.inr (1, 87))), (1, .inl x1), (2, .inl x2)], [.inl 6, .inl 0, .inl x2], 119, pm_RF, M)) rfl ?_
    refine R_callS ho ms_Q_in lk_1_118 rfl (As := [.inl x2, .inl 0, .inl 6]) (st := []) rfl (Nat.le_of_ble_eq_true rfl) rfl (by decide) (Nat.le_of_ble_eq_true rfl) (ok_Q_in G x2 0 6 M ) (fun r1121 => ?_)
    show pm_R _ _ _ (15, [(0, .inr (.inr (1, 87))), (1, .inl x1), (2, .inl x2)], [.inl r1121], 119, pm_RF, M) _ _
    refine R_if ho rfl (tgt := 21) rfl ?_
    refine R_ne ?_ ?_
    · refine R_st ho 1 (q' := (20, [(0, .inr (.inr (1, 87))), (1, .inl x1), (2, .inl x2)], [.inl (-2)], 119, pm_RF, M)) rfl ?_
      exact R_end (v := some (.inl (-2))) rfl (Or.inl rfl) rfl rfl
    · refine R_st ho 5 (q' := (29, [(0, .inr (.inr (1, 87))), (1, .inl x1), (2, .inl x2)], [.inl (i_ad 70 x1), .inr (.inr (20, 88))], 119, pm_RF, M)) rfl ?_
      refine R_iald ho rfl rfl ?_
      refine R_st ho 1 (q' := (31, [(3, .inl (M 88 ((i_ad 70 x1)).toNat)), (0, .inr (.inr (1, 87))), (1, .inl x1), (2, .inl x2)], [], 119, pm_RF, M)) rfl ?_
      refine R_nx (fun z_ => (31, [(3, .inl z_), (0, .inr (.inr (1, 87))), (1, .inl x1), (2, .inl x2)], [], 119, pm_RF, M)) fun v1122 => ?_
      refine R_st ho 1 (q' := (32, [(3, .inl v1122), (0, .inr (.inr (1, 87))), (1, .inl x1), (2, .inl x2)], [.inl x2], 119, pm_RF, M)) rfl ?_
      refine R_cs (fun z_ => (32, [(3, .inl v1122), (0, .inr (.inr (1, 87))), (1, .inl x1), (2, .inl x2)], [.inl z_], 119, pm_RF, M)) ?_ (fun h1128 => ?_)
      · refine R_swk ho rfl (by decide) rfl (tgt := 72) rfl (by decide +kernel) ?_
        refine R_st ho 1 (q' := (73, [(3, .inl v1122), (0, .inr (.inr (1, 87))), (1, .inl x1), (2, .inl x2)], [.inl v1122], 119, pm_RF, M)) rfl ?_
        exact R_end (v := some (.inl v1122)) rfl (Or.inl rfl) rfl rfl
      refine R_cs (fun z_ => (32, [(3, .inl v1122), (0, .inr (.inr (1, 87))), (1, .inl x1), (2, .inl x2)], [.inl z_], 119, pm_RF, M)) ?_ (fun h1129 => ?_)
      · refine R_swk ho rfl (by decide) rfl (tgt := 74) rfl (by decide +kernel) ?_
        refine R_st ho 5 (q' := (82, [(3, .inl v1122), (0, .inr (.inr (1, 87))), (1, .inl x1), (2, .inl x2)], [.inl (i_ad 78 x1), .inr (.inr (20, 88))], 119, pm_RF, M)) rfl ?_
        refine R_iald ho rfl rfl ?_
        exact R_end (v := some (.inl (M 88 ((i_ad 78 x1)).toNat))) rfl (Or.inl rfl) rfl rfl
      refine R_cs (fun z_ => (32, [(3, .inl v1122), (0, .inr (.inr (1, 87))), (1, .inl x1), (2, .inl x2)], [.inl z_], 119, pm_RF, M)) ?_ (fun h1130 => ?_)
      · refine R_swk ho rfl (by decide) rfl (tgt := 84) rfl (by decide +kernel) ?_
        refine R_st ho 2 (q' := (86, [(3, .inl v1122), (0, .inr (.inr (1, 87))), (1, .inl x1), (2, .inl x2)], [.inl (-1), .inl v1122], 119, pm_RF, M)) rfl ?_
        refine R_ic ho rfl (tgt := 93) rfl ?_
        refine R_ne ?_ ?_
        · refine R_st ho 2 (q' := (100, [(3, .inl v1122), (0, .inr (.inr (1, 87))), (1, .inl x1), (2, .inl x2)], [.inl 0], 119, pm_RF, M)) rfl ?_
          exact R_end (v := some (.inl 0)) rfl (Or.inl rfl) rfl rfl
        · refine R_st ho 4 (q' := (97, [(3, .inl v1122), (0, .inr (.inr (1, 87))), (1, .inl x1), (2, .inl x2)], [.inl v1122, .inl x1, .inl 0, .inr (.inr (1, 87))], 119, pm_RF, M)) rfl ?_
          refine R_callV ho mv_Q_tellsOf lk_1_352 rfl (As := [.inl 0, .inl x1, .inl v1122]) (kd := 1) (a := 87) (st := []) rfl rfl (Nat.le_of_ble_eq_true rfl) rfl (by decide) (Nat.le_of_ble_eq_true rfl) (ok_Q_tellsOf G 0 x1 v1122 M ) (fun r1123 => ?_)
          show pm_R _ _ _ (100, [(3, .inl v1122), (0, .inr (.inr (1, 87))), (1, .inl x1), (2, .inl x2)], [.inl r1123.1], 119, pm_RF, r1123.2) _ _
          exact R_end (v := some (.inl r1123.1)) rfl (Or.inl rfl) rfl rfl
      refine R_cs (fun z_ => (32, [(3, .inl v1122), (0, .inr (.inr (1, 87))), (1, .inl x1), (2, .inl x2)], [.inl z_], 119, pm_RF, M)) ?_ (fun h1131 => ?_)
      · refine R_swk ho rfl (by decide) rfl (tgt := 101) rfl (by decide +kernel) ?_
        refine R_st ho 2 (q' := (103, [(3, .inl v1122), (0, .inr (.inr (1, 87))), (1, .inl x1), (2, .inl x2)], [.inl (-1), .inl v1122], 119, pm_RF, M)) rfl ?_
        refine R_ic ho rfl (tgt := 110) rfl ?_
        refine R_ne ?_ ?_
        · refine R_st ho 2 (q' := (117, [(3, .inl v1122), (0, .inr (.inr (1, 87))), (1, .inl x1), (2, .inl x2)], [.inl 0], 119, pm_RF, M)) rfl ?_
          exact R_end (v := some (.inl 0)) rfl (Or.inl rfl) rfl rfl
        · refine R_st ho 4 (q' := (114, [(3, .inl v1122), (0, .inr (.inr (1, 87))), (1, .inl x1), (2, .inl x2)], [.inl v1122, .inl x1, .inl 1, .inr (.inr (1, 87))], 119, pm_RF, M)) rfl ?_
          refine R_callV ho mv_Q_tellsOf lk_1_352 rfl (As := [.inl 1, .inl x1, .inl v1122]) (kd := 1) (a := 87) (st := []) rfl rfl (Nat.le_of_ble_eq_true rfl) rfl (by decide) (Nat.le_of_ble_eq_true rfl) (ok_Q_tellsOf G 1 x1 v1122 M ) (fun r1124 => ?_)
          show pm_R _ _ _ (117, [(3, .inl v1122), (0, .inr (.inr (1, 87))), (1, .inl x1), (2, .inl x2)], [.inl r1124.1], 119, pm_RF, r1124.2) _ _
          exact R_end (v := some (.inl r1124.1)) rfl (Or.inl rfl) rfl rfl
      refine R_cs (fun z_ => (32, [(3, .inl v1122), (0, .inr (.inr (1, 87))), (1, .inl x1), (2, .inl x2)], [.inl z_], 119, pm_RF, M)) ?_ (fun h1132 => ?_)
      · refine R_swk ho rfl (by decide) rfl (tgt := 118) rfl (by decide +kernel) ?_
        refine R_st ho 2 (q' := (120, [(3, .inl v1122), (0, .inr (.inr (1, 87))), (1, .inl x1), (2, .inl x2)], [.inl (-1), .inl v1122], 119, pm_RF, M)) rfl ?_
        refine R_ic ho rfl (tgt := 127) rfl ?_
        refine R_ne ?_ ?_
        · refine R_st ho 2 (q' := (134, [(3, .inl v1122), (0, .inr (.inr (1, 87))), (1, .inl x1), (2, .inl x2)], [.inl 0], 119, pm_RF, M)) rfl ?_
          exact R_end (v := some (.inl 0)) rfl (Or.inl rfl) rfl rfl
        · refine R_st ho 4 (q' := (131, [(3, .inl v1122), (0, .inr (.inr (1, 87))), (1, .inl x1), (2, .inl x2)], [.inl v1122, .inl x1, .inl 2, .inr (.inr (1, 87))], 119, pm_RF, M)) rfl ?_
          refine R_callV ho mv_Q_tellsOf lk_1_352 rfl (As := [.inl 2, .inl x1, .inl v1122]) (kd := 1) (a := 87) (st := []) rfl rfl (Nat.le_of_ble_eq_true rfl) rfl (by decide) (Nat.le_of_ble_eq_true rfl) (ok_Q_tellsOf G 2 x1 v1122 M ) (fun r1125 => ?_)
          show pm_R _ _ _ (134, [(3, .inl v1122), (0, .inr (.inr (1, 87))), (1, .inl x1), (2, .inl x2)], [.inl r1125.1], 119, pm_RF, r1125.2) _ _
          exact R_end (v := some (.inl r1125.1)) rfl (Or.inl rfl) rfl rfl
      refine R_cs (fun z_ => (32, [(3, .inl v1122), (0, .inr (.inr (1, 87))), (1, .inl x1), (2, .inl x2)], [.inl z_], 119, pm_RF, M)) ?_ (fun h1133 => ?_)
      · refine R_swk ho rfl (by decide) rfl (tgt := 135) rfl (by decide +kernel) ?_
        refine R_st ho 2 (q' := (137, [(3, .inl v1122), (0, .inr (.inr (1, 87))), (1, .inl x1), (2, .inl x2)], [.inl (-1), .inl v1122], 119, pm_RF, M)) rfl ?_
        refine R_ic ho rfl (tgt := 150) rfl ?_
        refine R_ne ?_ ?_
        · refine R_st ho 4 (q' := (144, [(3, .inl v1122), (0, .inr (.inr (1, 87))), (1, .inl x1), (2, .inl x2)], [.inl (-1), .inl x1, .inl 3, .inr (.inr (1, 87))], 119, pm_RF, M)) rfl ?_
          refine R_callV ho mv_Q_tellsOf lk_1_352 rfl (As := [.inl 3, .inl x1, .inl (-1)]) (kd := 1) (a := 87) (st := []) rfl rfl (Nat.le_of_ble_eq_true rfl) rfl (by decide) (Nat.le_of_ble_eq_true rfl) (ok_Q_tellsOf G 3 x1 (-1) M ) (fun r1126 => ?_)
          show pm_R _ _ _ (147, [(3, .inl v1122), (0, .inr (.inr (1, 87))), (1, .inl x1), (2, .inl x2)], [.inl r1126.1], 119, pm_RF, r1126.2) _ _
          refine R_st ho 1 (q' := (151, [(3, .inl v1122), (0, .inr (.inr (1, 87))), (1, .inl x1), (2, .inl x2)], [.inl r1126.1], 119, pm_RF, r1126.2)) rfl ?_
          exact R_end (v := some (.inl r1126.1)) rfl (Or.inl rfl) rfl rfl
        · refine R_st ho 1 (q' := (151, [(3, .inl v1122), (0, .inr (.inr (1, 87))), (1, .inl x1), (2, .inl x2)], [.inl 0], 119, pm_RF, M)) rfl ?_
          exact R_end (v := some (.inl 0)) rfl (Or.inl rfl) rfl rfl
      refine R_swd ho rfl (by omega) rfl (by decide +kernel) ?_
      refine R_st ho 2 (q' := (154, [(3, .inl v1122), (0, .inr (.inr (1, 87))), (1, .inl x1), (2, .inl x2)], [.inl x1, .inr (.inr (1, 87))], 119, pm_RF, M)) rfl ?_
      refine R_callV ho mv_Q_falls lk_1_356 rfl (As := [.inl x1]) (kd := 1) (a := 87) (st := []) rfl rfl (Nat.le_of_ble_eq_true rfl) rfl (by decide) (Nat.le_of_ble_eq_true rfl) (ok_Q_falls G x1 M ) (fun r1127 => ?_)
      show pm_R _ _ _ (157, [(3, .inl v1122), (0, .inr (.inr (1, 87))), (1, .inl x1), (2, .inl x2)], [.inl r1127.1], 119, pm_RF, r1127.2) _ _
      refine R_if ho rfl (tgt := 164) rfl ?_
      refine R_eq ?_ ?_
      · refine R_st ho 1 (q' := (165, [(3, .inl v1122), (0, .inr (.inr (1, 87))), (1, .inl x1), (2, .inl x2)], [.inl 0], 119, pm_RF, r1127.2)) rfl ?_
        exact R_end (v := some (.inl 0)) rfl (Or.inl rfl) rfl rfl
      · refine R_st ho 2 (q' := (165, [(3, .inl v1122), (0, .inr (.inr (1, 87))), (1, .inl x1), (2, .inl x2)], [.inl 1], 119, pm_RF, r1127.2)) rfl ?_
        exact R_end (v := some (.inl 1)) rfl (Or.inl rfl) rfl rfl
theorem ok_Q_headOf (G : pm_G) (x1 : Int) (x2 : Int) (M : pm_M)  : pm_R G mt_Q_headOf 3 (0, [(0, .inr (.inr (1, 87))), (1, .inl x1), (2, .inl x2)], [], 119, pm_RF, M) (f_Q_headOf x1 x2 M) (pm_Zr mt_Q_headOf (pm_gi M)) := by
  have ho : pm_oG G mt_Q_headOf := (oa_Q_headOf).g G
  unfold f_Q_headOf
  refine R_st ho 2 (q' := (2, [(0, .inr (.inr (1, 87))), (1, .inl x1), (2, .inl x2)], [.inl x1, .inr (.inr (1, 87))], 119, pm_RF, M)) rfl ?_
  refine R_callV ho mv_Q_isHead lk_1_122 rfl (As := [.inl x1]) (kd := 1) (a := 87) (st := []) rfl rfl (Nat.le_of_ble_eq_true rfl) rfl (by decide) (Nat.le_of_ble_eq_true rfl) (ok_Q_isHead G x1 M ) (fun r1134 => ?_)
  show pm_R _ _ _ (5, [(0, .inr (.inr (1, 87))), (1, .inl x1), (2, .inl x2)], [.inl r1134], 119, pm_RF, M) _ _
  refine R_if ho rfl (tgt := 11) rfl ?_
  refine R_ne ?_ ?_
  · refine R_st ho 1 (q' := (10, [(0, .inr (.inr (1, 87))), (1, .inl x1), (2, .inl x2)], [.inl (-2)], 119, pm_RF, M)) rfl ?_
    exact R_end (v := some (.inl (-2))) rfl (Or.inl rfl) rfl rfl
  · refine R_st ho 1 (q' := (12, [(0, .inr (.inr (1, 87))), (1, .inl x1), (2, .inl x2)], [.inl x2], 119, pm_RF, M)) rfl ?_
    refine R_cs (fun z_ => (12, [(0, .inr (.inr (1, 87))), (1, .inl x1), (2, .inl x2)], [.inl z_], 119, pm_RF, M)) ?_ (fun h1136 => ?_)
    · refine R_swk ho rfl (by decide) rfl (tgt := 44) rfl (by decide +kernel) ?_
      refine R_st ho 2 (q' := (46, [(0, .inr (.inr (1, 87))), (1, .inl x1), (2, .inl x2)], [.inl x1, .inr (.inr (1, 87))], 119, pm_RF, M)) rfl ?_
      refine R_callV ho mv_Q_plinthOf lk_1_129 rfl (As := [.inl x1]) (kd := 1) (a := 87) (st := []) rfl rfl (Nat.le_of_ble_eq_true rfl) rfl (by decide) (Nat.le_of_ble_eq_true rfl) (ok_Q_plinthOf G x1 M ) (fun r1135 => ?_)
      show pm_R _ _ _ (49, [(0, .inr (.inr (1, 87))), (1, .inl x1), (2, .inl x2)], [.inl r1135], 119, pm_RF, M) _ _
      exact R_end (v := some (.inl r1135)) rfl (Or.inl rfl) rfl rfl
    refine R_cs (fun z_ => (12, [(0, .inr (.inr (1, 87))), (1, .inl x1), (2, .inl x2)], [.inl z_], 119, pm_RF, M)) ?_ (fun h1137 => ?_)
    · refine R_swk ho rfl (by decide) rfl (tgt := 50) rfl (by decide +kernel) ?_
      refine R_st ho 5 (q' := (58, [(0, .inr (.inr (1, 87))), (1, .inl x1), (2, .inl x2)], [.inl (i_ad 86 x1), .inr (.inr (20, 88))], 119, pm_RF, M)) rfl ?_
      refine R_iald ho rfl rfl ?_
      exact R_end (v := some (.inl (M 88 ((i_ad 86 x1)).toNat))) rfl (Or.inl rfl) rfl rfl
    refine R_cs (fun z_ => (12, [(0, .inr (.inr (1, 87))), (1, .inl x1), (2, .inl x2)], [.inl z_], 119, pm_RF, M)) ?_ (fun h1138 => ?_)
    · refine R_swk ho rfl (by decide) rfl (tgt := 60) rfl (by decide +kernel) ?_
      refine R_st ho 7 (q' := (70, [(0, .inr (.inr (1, 87))), (1, .inl x1), (2, .inl x2)], [.inl (i_ad 42 (i_ml 2 x1)), .inr (.inr (20, 88))], 119, pm_RF, M)) rfl ?_
      refine R_iald ho rfl rfl ?_
      exact R_end (v := some (.inl (M 88 ((i_ad 42 (i_ml 2 x1))).toNat))) rfl (Or.inl rfl) rfl rfl
    refine R_cs (fun z_ => (12, [(0, .inr (.inr (1, 87))), (1, .inl x1), (2, .inl x2)], [.inl z_], 119, pm_RF, M)) ?_ (fun h1139 => ?_)
    · refine R_swk ho rfl (by decide) rfl (tgt := 72) rfl (by decide +kernel) ?_
      refine R_st ho 9 (q' := (84, [(0, .inr (.inr (1, 87))), (1, .inl x1), (2, .inl x2)], [.inl (i_ad (i_ad 42 (i_ml 2 x1)) 1), .inr (.inr (20, 88))], 119, pm_RF, M)) rfl ?_
      refine R_iald ho rfl rfl ?_
      exact R_end (v := some (.inl (M 88 ((i_ad (i_ad 42 (i_ml 2 x1)) 1)).toNat))) rfl (Or.inl rfl) rfl rfl
    refine R_swd ho rfl (by omega) rfl (by decide +kernel) ?_
    refine R_st ho 1 (q' := (88, [(0, .inr (.inr (1, 87))), (1, .inl x1), (2, .inl x2)], [.inl (-2)], 119, pm_RF, M)) rfl ?_
    exact R_end (v := some (.inl (-2))) rfl (Or.inl rfl) rfl rfl
theorem ok_Q_laysBest_L14 (G : pm_G)    : ∀ (n_ : Nat) (y1 : Int) (y2 : Int) (M : pm_M), pm_R G mt_Q_laysBest 5 (14, [(0, .inr (.inr (1, 87))), (1, .inl y1), (2, .inl y2)], [], 119, pm_RF, M) (f_Q_laysBest_L14 n_ y1 y2 M) (fun e_ q_ => q_ = (58, [(0, .inr (.inr (1, 87))), (1, .inl e_.1)], [], 119, pm_RF, e_.2)) := by
  have ho : pm_oG G mt_Q_laysBest := (oa_Q_laysBest).g G
  intro n_
  induction n_ with
  | zero => intro _ _ _; exact R_none
  | succ n_ ih_ =>
    intro y1 y2 M
    rw [f_Q_laysBest_L14]
    refine R_st ho 5 (q' := (21, [(0, .inr (.inr (1, 87))), (1, .inl y1), (2, .inl y2)], [.inl (M 88 1), .inl y2], 119, pm_RF, M)) rfl ?_
    refine R_ic ho rfl (tgt := 58) rfl ?_
    refine R_ge ?_ ?_
    · refine R_pk [0, 1] rfl ?_
      exact R_ret rfl
    · refine R_st ho 4 (q' := (28, [(0, .inr (.inr (1, 87))), (1, .inl y1), (2, .inl y2)], [.inl y2, .inl y1, .inl 1, .inr (.inr (1, 87))], 119, pm_RF, M)) rfl ?_
      refine R_callV ho mv_Q_tellsOf lk_1_352 rfl (As := [.inl 1, .inl y1, .inl y2]) (kd := 1) (a := 87) (st := []) rfl rfl (Nat.le_of_ble_eq_true rfl) rfl (by decide) (Nat.le_of_ble_eq_true rfl) (ok_Q_tellsOf G 1 y1 y2 M ) (fun r1140 => ?_)
      show pm_R _ _ _ (31, [(0, .inr (.inr (1, 87))), (1, .inl y1), (2, .inl y2)], [.inl r1140.1], 119, pm_RF, r1140.2) _ _
      refine R_st ho 13 (q' := (47, [(3, .inl r1140.1), (0, .inr (.inr (1, 87))), (1, .inl y1), (2, .inl y2)], [.inl y2, .inl y1, .inl 0, .inr (.inr (1, 87)), .inl r1140.1, .inl (i_ad (i_ml 13 y1) y2), .inr (.inr (20, 110))], 119, pm_RF, r1140.2)) rfl ?_
      refine R_callV ho mv_Q_tellsOf lk_1_352 rfl (As := [.inl 0, .inl y1, .inl y2]) (kd := 1) (a := 87) (st := [.inl r1140.1, .inl (i_ad (i_ml 13 y1) y2), .inr (.inr (20, 110))]) rfl rfl (Nat.le_of_ble_eq_true rfl) rfl (by decide) (Nat.le_of_ble_eq_true rfl) (ok_Q_tellsOf G 0 y1 y2 r1140.2 ) (fun r1141 => ?_)
      show pm_R _ _ _ (50, [(3, .inl r1140.1), (0, .inr (.inr (1, 87))), (1, .inl y1), (2, .inl y2)], [.inl r1141.1, .inl r1140.1, .inl (i_ad (i_ml 13 y1) y2), .inr (.inr (20, 110))], 119, pm_RF, r1141.2) _ _
      refine R_st ho 1 (q' := (51, [(3, .inl r1140.1), (0, .inr (.inr (1, 87))), (1, .inl y1), (2, .inl y2)], [.inl (i_sb r1140.1 r1141.1), .inl (i_ad (i_ml 13 y1) y2), .inr (.inr (20, 110))], 119, pm_RF, r1141.2)) rfl ?_
      refine R_iast ho rfl rfl ?_
      refine R_nm fun M1142 => ?_
      refine R_st ho 2 (q' := (14, [(2, .inl (i_ad y2 1)), (3, .inl r1140.1), (0, .inr (.inr (1, 87))), (1, .inl y1)], [], 119, pm_RF, M1142)) rfl ?_
      refine R_pk [0, 1, 2] rfl ?_
      exact ih_ y1 (i_ad y2 1) M1142
theorem ok_Q_laysBest_L2 (G : pm_G)    : ∀ (n_ : Nat) (y1 : Int) (M : pm_M), pm_R G mt_Q_laysBest 5 (2, [(0, .inr (.inr (1, 87))), (1, .inl y1)], [], 119, pm_RF, M) (f_Q_laysBest_L2 n_ y1 M) (fun e_ q_ => q_ = (83, [(0, .inr (.inr (1, 87)))], [], 119, pm_RF, e_)) := by
  have ho : pm_oG G mt_Q_laysBest := (oa_Q_laysBest).g G
  intro n_
  induction n_ with
  | zero => intro _ _; exact R_none
  | succ n_ ih_ =>
    intro y1 M
    rw [f_Q_laysBest_L2]
    refine R_st ho 5 (q' := (9, [(0, .inr (.inr (1, 87))), (1, .inl y1)], [.inl (M 88 0), .inl y1], 119, pm_RF, M)) rfl ?_
    refine R_ic ho rfl (tgt := 83) rfl ?_
    refine R_ge ?_ ?_
    · refine R_pk [0] rfl ?_
      exact R_ret rfl
    · refine R_st ho 2 (q' := (14, [(2, .inl 0), (0, .inr (.inr (1, 87))), (1, .inl y1)], [], 119, pm_RF, M)) rfl ?_
      refine R_pk [0, 1, 2] rfl ?_
      refine R_bind (ok_Q_laysBest_L14 G pm_F y1 0 M) ?_
      intro e1143 q_ hq_
      obtain rfl : q_ = (58, [(0, .inr (.inr (1, 87))), (1, .inl e1143.1)], [], 119, pm_RF, e1143.2) := hq_
      refine R_st ho 11 (q' := (73, [(0, .inr (.inr (1, 87))), (1, .inl e1143.1)], [.inl (-1), .inl e1143.1, .inl 3, .inr (.inr (1, 87)), .inl (i_ad (i_ml 13 e1143.1) 12), .inr (.inr (20, 110))], 119, pm_RF, e1143.2)) rfl ?_
      refine R_callV ho mv_Q_tellsOf lk_1_352 rfl (As := [.inl 3, .inl e1143.1, .inl (-1)]) (kd := 1) (a := 87) (st := [.inl (i_ad (i_ml 13 e1143.1) 12), .inr (.inr (20, 110))]) rfl rfl (Nat.le_of_ble_eq_true rfl) rfl (by decide) (Nat.le_of_ble_eq_true rfl) (ok_Q_tellsOf G 3 e1143.1 (-1) e1143.2 ) (fun r1144 => ?_)
      show pm_R _ _ _ (76, [(0, .inr (.inr (1, 87))), (1, .inl e1143.1)], [.inl r1144.1, .inl (i_ad (i_ml 13 e1143.1) 12), .inr (.inr (20, 110))], 119, pm_RF, r1144.2) _ _
      refine R_iast ho rfl rfl ?_
      refine R_nm fun M1145 => ?_
      refine R_st ho 2 (q' := (2, [(1, .inl (i_ad e1143.1 1)), (0, .inr (.inr (1, 87)))], [], 119, pm_RF, M1145)) rfl ?_
      refine R_pk [0, 1] rfl ?_
      exact ih_ (i_ad e1143.1 1) M1145
theorem ok_Q_laysBest_L85 (G : pm_G)    : ∀ (n_ : Nat) (y1 : Int) (M : pm_M), pm_R G mt_Q_laysBest 5 (85, [(0, .inr (.inr (1, 87))), (1, .inl y1)], [], 119, pm_RF, M) (f_Q_laysBest_L85 n_ y1 M) (fun e_ q_ => q_ = (121, [(0, .inr (.inr (1, 87)))], [], 119, pm_RF, e_)) := by
  have ho : pm_oG G mt_Q_laysBest := (oa_Q_laysBest).g G
  intro n_
  induction n_ with
  | zero => intro _ _; exact R_none
  | succ n_ ih_ =>
    intro y1 M
    rw [f_Q_laysBest_L85]
    refine R_st ho 7 (q' := (94, [(0, .inr (.inr (1, 87))), (1, .inl y1)], [.inl (i_sl 1 (M 88 1)), .inl y1], 119, pm_RF, M)) rfl ?_
    refine R_ic ho rfl (tgt := 121) rfl ?_
    refine R_ge ?_ ?_
    · refine R_pk [0] rfl ?_
      exact R_ret rfl
    · refine R_st ho 11 (q' := (114, [(0, .inr (.inr (1, 87))), (1, .inl y1)], [.inl 0, .inl (i_ad (i_ml 4096 (M 88 0)) y1), .inr (.inr (20, 111))], 119, pm_RF, M)) rfl ?_
      refine R_iast ho rfl rfl ?_
      refine R_nm fun M1147 => ?_
      refine R_st ho 2 (q' := (85, [(1, .inl (i_ad y1 1)), (0, .inr (.inr (1, 87)))], [], 119, pm_RF, M1147)) rfl ?_
      refine R_pk [0, 1] rfl ?_
      exact ih_ (i_ad y1 1) M1147
theorem ok_Q_laysBest_L179 (G : pm_G)   (M : pm_M) : ∀ (n_ : Nat) (y1 : Int) (y2 : Int) (y3 : Int) (y4 : Int), pm_R G mt_Q_laysBest 5 (179, [(0, .inr (.inr (1, 87))), (1, .inl y1), (2, .inl y2), (3, .inl y3), (4, .inl y4)], [], 119, pm_RF, M) (f_Q_laysBest_L179 M n_ y1 y2 y3 y4) (fun e_ q_ => q_ = (252, [(0, .inr (.inr (1, 87))), (1, .inl e_.1), (2, .inl e_.2.1), (3, .inl e_.2.2)], [], 119, pm_RF, M)) := by
  have ho : pm_oG G mt_Q_laysBest := (oa_Q_laysBest).g G
  intro n_
  induction n_ with
  | zero => intro _ _ _ _; exact R_none
  | succ n_ ih_ =>
    intro y1 y2 y3 y4
    rw [f_Q_laysBest_L179]
    refine R_st ho 5 (q' := (187, [(0, .inr (.inr (1, 87))), (1, .inl y1), (2, .inl y2), (3, .inl y3), (4, .inl y4)], [.inl (M 88 1), .inl y4], 119, pm_RF, M)) rfl ?_
    refine R_ic ho rfl (tgt := 252) rfl ?_
    refine R_ge ?_ ?_
    · refine R_pk [0, 1, 2, 3] rfl ?_
      exact R_ret rfl
    · refine R_st ho 5 (q' := (196, [(0, .inr (.inr (1, 87))), (1, .inl y1), (2, .inl y2), (3, .inl y3), (4, .inl y4)], [.inl (i_an (i_sr y2 y4) 1)], 119, pm_RF, M)) rfl ?_
      refine R_if ho rfl (tgt := 246) rfl ?_
      refine R_ne ?_ ?_
      · refine R_st ho 7 (q' := (210, [(0, .inr (.inr (1, 87))), (1, .inl y1), (2, .inl y2), (3, .inl y3), (4, .inl y4)], [.inl (i_ad (i_ml 13 y1) y4), .inr (.inr (20, 110))], 119, pm_RF, M)) rfl ?_
        refine R_iald ho rfl rfl ?_
        refine R_st ho 13 (q' := (229, [(0, .inr (.inr (1, 87))), (1, .inl y1), (2, .inl y2), (3, .inl y3), (4, .inl y4)], [.inl (i_ad (i_ml 4096 (i_ad y1 1)) (i_or y2 (i_sl 1 y4))), .inr (.inr (20, 111)), .inl (M 110 ((i_ad (i_ml 13 y1) y4)).toNat)], 119, pm_RF, M)) rfl ?_
        refine R_iald ho rfl rfl ?_
        refine R_st ho 2 (q' := (233, [(5, .inl (i_ad (M 110 ((i_ad (i_ml 13 y1) y4)).toNat) (M 111 ((i_ad (i_ml 4096 (i_ad y1 1)) (i_or y2 (i_sl 1 y4)))).toNat))), (0, .inr (.inr (1, 87))), (1, .inl y1), (2, .inl y2), (3, .inl y3), (4, .inl y4)], [], 119, pm_RF, M)) rfl ?_
        refine R_nx (fun z_ => (233, [(5, .inl z_), (0, .inr (.inr (1, 87))), (1, .inl y1), (2, .inl y2), (3, .inl y3), (4, .inl y4)], [], 119, pm_RF, M)) fun v1150 => ?_
        refine R_st ho 2 (q' := (236, [(5, .inl v1150), (0, .inr (.inr (1, 87))), (1, .inl y1), (2, .inl y2), (3, .inl y3), (4, .inl y4)], [.inl y3, .inl v1150], 119, pm_RF, M)) rfl ?_
        refine R_ic ho rfl (tgt := 244) rfl ?_
        refine R_le ?_ ?_
        · refine R_st ho 4 (q' := (179, [(4, .inl (i_ad y4 1)), (3, .inl y3), (5, .inl v1150), (0, .inr (.inr (1, 87))), (1, .inl y1), (2, .inl y2)], [], 119, pm_RF, M)) rfl ?_
          refine R_pk [0, 1, 2, 3, 4] rfl ?_
          exact ih_ y1 y2 y3 (i_ad y4 1)
        · refine R_st ho 5 (q' := (179, [(4, .inl (i_ad y4 1)), (3, .inl v1150), (5, .inl v1150), (0, .inr (.inr (1, 87))), (1, .inl y1), (2, .inl y2)], [], 119, pm_RF, M)) rfl ?_
          refine R_pk [0, 1, 2, 3, 4] rfl ?_
          exact ih_ y1 y2 v1150 (i_ad y4 1)
      · refine R_st ho 2 (q' := (179, [(4, .inl (i_ad y4 1)), (0, .inr (.inr (1, 87))), (1, .inl y1), (2, .inl y2), (3, .inl y3)], [], 119, pm_RF, M)) rfl ?_
        refine R_pk [0, 1, 2, 3, 4] rfl ?_
        exact ih_ y1 y2 y3 (i_ad y4 1)
theorem ok_Q_laysBest_L136 (G : pm_G)    : ∀ (n_ : Nat) (y1 : Int) (y2 : Int) (M : pm_M), pm_R G mt_Q_laysBest 5 (136, [(0, .inr (.inr (1, 87))), (1, .inl y1), (2, .inl y2)], [], 119, pm_RF, M) (f_Q_laysBest_L136 n_ y1 y2 M) (fun e_ q_ => q_ = (271, [(0, .inr (.inr (1, 87))), (1, .inl e_.1)], [], 119, pm_RF, e_.2)) := by
  have ho : pm_oG G mt_Q_laysBest := (oa_Q_laysBest).g G
  intro n_
  induction n_ with
  | zero => intro _ _ _; exact R_none
  | succ n_ ih_ =>
    intro y1 y2 M
    rw [f_Q_laysBest_L136]
    refine R_st ho 7 (q' := (145, [(0, .inr (.inr (1, 87))), (1, .inl y1), (2, .inl y2)], [.inl (i_sl 1 (M 88 1)), .inl y2], 119, pm_RF, M)) rfl ?_
    refine R_ic ho rfl (tgt := 271) rfl ?_
    refine R_ge ?_ ?_
    · refine R_pk [0, 1] rfl ?_
      exact R_ret rfl
    · refine R_st ho 7 (q' := (159, [(0, .inr (.inr (1, 87))), (1, .inl y1), (2, .inl y2)], [.inl (i_ad (i_ml 13 y1) 12), .inr (.inr (20, 110))], 119, pm_RF, M)) rfl ?_
      refine R_iald ho rfl rfl ?_
      refine R_st ho 9 (q' := (173, [(0, .inr (.inr (1, 87))), (1, .inl y1), (2, .inl y2)], [.inl (i_ad (i_ml 4096 (i_ad y1 1)) y2), .inr (.inr (20, 111)), .inl (M 110 ((i_ad (i_ml 13 y1) 12)).toNat)], 119, pm_RF, M)) rfl ?_
      refine R_iald ho rfl rfl ?_
      refine R_st ho 2 (q' := (176, [(3, .inl (i_ad (M 110 ((i_ad (i_ml 13 y1) 12)).toNat) (M 111 ((i_ad (i_ml 4096 (i_ad y1 1)) y2)).toNat))), (0, .inr (.inr (1, 87))), (1, .inl y1), (2, .inl y2)], [], 119, pm_RF, M)) rfl ?_
      refine R_nx (fun z_ => (176, [(3, .inl z_), (0, .inr (.inr (1, 87))), (1, .inl y1), (2, .inl y2)], [], 119, pm_RF, M)) fun v1149 => ?_
      refine R_st ho 2 (q' := (179, [(4, .inl 0), (3, .inl v1149), (0, .inr (.inr (1, 87))), (1, .inl y1), (2, .inl y2)], [], 119, pm_RF, M)) rfl ?_
      refine R_pk [0, 1, 2, 3, 4] rfl ?_
      refine R_bind (ok_Q_laysBest_L179 G M pm_F y1 y2 v1149 0) ?_
      intro e1151 q_ hq_
      obtain rfl : q_ = (252, [(0, .inr (.inr (1, 87))), (1, .inl e1151.1), (2, .inl e1151.2.1), (3, .inl e1151.2.2)], [], 119, pm_RF, M) := hq_
      refine R_st ho 8 (q' := (264, [(0, .inr (.inr (1, 87))), (1, .inl e1151.1), (2, .inl e1151.2.1), (3, .inl e1151.2.2)], [.inl e1151.2.2, .inl (i_ad (i_ml 4096 e1151.1) e1151.2.1), .inr (.inr (20, 111))], 119, pm_RF, M)) rfl ?_
      refine R_iast ho rfl rfl ?_
      refine R_nm fun M1152 => ?_
      refine R_st ho 2 (q' := (136, [(2, .inl (i_ad e1151.2.1 1)), (0, .inr (.inr (1, 87))), (1, .inl e1151.1), (3, .inl e1151.2.2)], [], 119, pm_RF, M1152)) rfl ?_
      refine R_pk [0, 1, 2] rfl ?_
      exact ih_ e1151.1 (i_ad e1151.2.1 1) M1152
theorem ok_Q_laysBest_L130 (G : pm_G)    : ∀ (n_ : Nat) (y1 : Int) (M : pm_M), pm_R G mt_Q_laysBest 5 (130, [(0, .inr (.inr (1, 87))), (1, .inl y1)], [], 119, pm_RF, M) (f_Q_laysBest_L130 n_ y1 M) (fun e_ q_ => q_ = (277, [], [], 119, pm_RF, e_)) := by
  have ho : pm_oG G mt_Q_laysBest := (oa_Q_laysBest).g G
  intro n_
  induction n_ with
  | zero => intro _ _; exact R_none
  | succ n_ ih_ =>
    intro y1 M
    rw [f_Q_laysBest_L130]
    refine R_st ho 1 (q' := (131, [(0, .inr (.inr (1, 87))), (1, .inl y1)], [.inl y1], 119, pm_RF, M)) rfl ?_
    refine R_if ho rfl (tgt := 277) rfl ?_
    refine R_lt ?_ ?_
    · refine R_pk [] rfl ?_
      exact R_ret rfl
    · refine R_st ho 2 (q' := (136, [(2, .inl 0), (0, .inr (.inr (1, 87))), (1, .inl y1)], [], 119, pm_RF, M)) rfl ?_
      refine R_pk [0, 1, 2] rfl ?_
      refine R_bind (ok_Q_laysBest_L136 G pm_F y1 0 M) ?_
      intro e1153 q_ hq_
      obtain rfl : q_ = (271, [(0, .inr (.inr (1, 87))), (1, .inl e1153.1)], [], 119, pm_RF, e1153.2) := hq_
      refine R_st ho 2 (q' := (130, [(1, .inl (i_ad e1153.1 (-1))), (0, .inr (.inr (1, 87)))], [], 119, pm_RF, e1153.2)) rfl ?_
      refine R_pk [0, 1] rfl ?_
      exact ih_ (i_ad e1153.1 (-1)) e1153.2
theorem ok_Q_laysBest (G : pm_G)  (M : pm_M)  : pm_R G mt_Q_laysBest 5 (0, [(0, .inr (.inr (1, 87)))], [], 119, pm_RF, M) (f_Q_laysBest M) (pm_Zr mt_Q_laysBest pm_gV) := by
  have ho : pm_oG G mt_Q_laysBest := (oa_Q_laysBest).g G
  unfold f_Q_laysBest
  refine R_st ho 2 (q' := (2, [(1, .inl 0), (0, .inr (.inr (1, 87)))], [], 119, pm_RF, M)) rfl ?_
  refine R_pk [0, 1] rfl ?_
  refine R_bind (ok_Q_laysBest_L2 G pm_F 0 M) ?_
  intro e1146 q_ hq_
  obtain rfl : q_ = (83, [(0, .inr (.inr (1, 87)))], [], 119, pm_RF, e1146) := hq_
  refine R_st ho 2 (q' := (85, [(1, .inl 0), (0, .inr (.inr (1, 87)))], [], 119, pm_RF, e1146)) rfl ?_
  refine R_pk [0, 1] rfl ?_
  refine R_bind (ok_Q_laysBest_L85 G pm_F 0 e1146) ?_
  intro e1148 q_ hq_
  obtain rfl : q_ = (121, [(0, .inr (.inr (1, 87)))], [], 119, pm_RF, e1148) := hq_
  refine R_st ho 7 (q' := (130, [(1, .inl (i_sb (e1148 88 0) 1)), (0, .inr (.inr (1, 87)))], [], 119, pm_RF, e1148)) rfl ?_
  refine R_pk [0, 1] rfl ?_
  refine R_bind (ok_Q_laysBest_L130 G pm_F (i_sb (e1148 88 0) 1) e1148) ?_
  intro e1154 q_ hq_
  obtain rfl : q_ = (277, [], [], 119, pm_RF, e1154) := hq_
  exact R_end (v := none) rfl rfl rfl rfl
theorem ok_Q_best_L95 (G : pm_G)   (M : pm_M) : ∀ (n_ : Nat) (y1 : Int) (y2 : Int) (y3 : Int) (y4 : Int), pm_R G mt_Q_best 6 (95, [(0, .inr (.inr (1, 87))), (1, .inl y1), (2, .inl y2), (3, .inl y3), (4, .inl y4)], [], 119, pm_RF, M) (f_Q_best_L95 M n_ y1 y2 y3 y4) (fun e_ q_ => q_ = (158, [(0, .inr (.inr (1, 87))), (1, .inl e_.1), (2, .inl e_.2.1), (3, .inl e_.2.2.1), (4, .inl e_.2.2.2)], [], 119, pm_RF, M)) := by
  have ho : pm_oG G mt_Q_best := (oa_Q_best).g G
  intro n_
  induction n_ with
  | zero => intro _ _ _ _; exact R_none
  | succ n_ ih_ =>
    intro y1 y2 y3 y4
    rw [f_Q_best_L95]
    refine R_st ho 6 (q' := (101, [(0, .inr (.inr (1, 87))), (1, .inl y1), (2, .inl y2), (3, .inl y3), (4, .inl y4)], [.inl 1, .inl (i_an (i_sr y2 y3) 1)], 119, pm_RF, M)) rfl ?_
    refine R_ic ho rfl (tgt := 152) rfl ?_
    refine R_eq ?_ ?_
    · refine R_st ho 2 (q' := (95, [(3, .inl (i_ad y3 1)), (0, .inr (.inr (1, 87))), (1, .inl y1), (2, .inl y2), (4, .inl y4)], [], 119, pm_RF, M)) rfl ?_
      refine R_pk [0, 1, 2, 3, 4] rfl ?_
      exact ih_ y1 y2 (i_ad y3 1) y4
    · refine R_st ho 7 (q' := (115, [(0, .inr (.inr (1, 87))), (1, .inl y1), (2, .inl y2), (3, .inl y3), (4, .inl y4)], [.inl (i_ad (i_ml 13 y4) y3), .inr (.inr (20, 110))], 119, pm_RF, M)) rfl ?_
      refine R_iald ho rfl rfl ?_
      refine R_st ho 13 (q' := (134, [(0, .inr (.inr (1, 87))), (1, .inl y1), (2, .inl y2), (3, .inl y3), (4, .inl y4)], [.inl (i_ad (i_ml 4096 (i_ad y4 1)) (i_or y2 (i_sl 1 y3))), .inr (.inr (20, 111)), .inl (M 110 ((i_ad (i_ml 13 y4) y3)).toNat)], 119, pm_RF, M)) rfl ?_
      refine R_iald ho rfl rfl ?_
      refine R_st ho 8 (q' := (148, [(0, .inr (.inr (1, 87))), (1, .inl y1), (2, .inl y2), (3, .inl y3), (4, .inl y4)], [.inl (i_ad (i_ml 4096 y4) y2), .inr (.inr (20, 111)), .inl (i_ad (M 110 ((i_ad (i_ml 13 y4) y3)).toNat) (M 111 ((i_ad (i_ml 4096 (i_ad y4 1)) (i_or y2 (i_sl 1 y3)))).toNat))], 119, pm_RF, M)) rfl ?_
      refine R_iald ho rfl rfl ?_
      refine R_ic ho rfl (tgt := 158) rfl ?_
      refine R_eq ?_ ?_
      · exact R_ret rfl
      · refine R_st ho 2 (q' := (95, [(3, .inl (i_ad y3 1)), (0, .inr (.inr (1, 87))), (1, .inl y1), (2, .inl y2), (4, .inl y4)], [], 119, pm_RF, M)) rfl ?_
        refine R_pk [0, 1, 2, 3, 4] rfl ?_
        exact ih_ y1 y2 (i_ad y3 1) y4
theorem ok_Q_best_L40 (G : pm_G)   (M : pm_M) : ∀ (n_ : Nat) (y1 : Int) (y2 : Int) (y3 : Int) (y4 : Int), pm_R G mt_Q_best 6 (40, [(0, .inr (.inr (1, 87))), (1, .inl y1), (2, .inl y2), (3, .inl y3), (4, .inl y4)], [], 119, pm_RF, M) (f_Q_best_L40 M n_ y1 y2 y3 y4) (fun e_ q_ => q_ = (170, [(3, .inl e_)], [], 119, pm_RF, M)) := by
  have ho : pm_oG G mt_Q_best := (oa_Q_best).g G
  intro n_
  induction n_ with
  | zero => intro _ _ _ _; exact R_none
  | succ n_ ih_ =>
    intro y1 y2 y3 y4
    rw [f_Q_best_L40]
    refine R_st ho 2 (q' := (43, [(0, .inr (.inr (1, 87))), (1, .inl y1), (2, .inl y2), (3, .inl y3), (4, .inl y4)], [.inl y1, .inl y4], 119, pm_RF, M)) rfl ?_
    refine R_ic ho rfl (tgt := 170) rfl ?_
    refine R_gt ?_ ?_
    · refine R_pk [3] rfl ?_
      exact R_ret rfl
    · refine R_st ho 9 (q' := (60, [(3, .inl (-1)), (0, .inr (.inr (1, 87))), (1, .inl y1), (2, .inl y2), (4, .inl y4)], [.inl (i_ad (i_ml 13 y4) 12), .inr (.inr (20, 110))], 119, pm_RF, M)) rfl ?_
      refine R_iald ho rfl rfl ?_
      refine R_st ho 9 (q' := (75, [(3, .inl (-1)), (0, .inr (.inr (1, 87))), (1, .inl y1), (2, .inl y2), (4, .inl y4)], [.inl (i_ad (i_ml 4096 (i_ad y4 1)) y2), .inr (.inr (20, 111)), .inl (M 110 ((i_ad (i_ml 13 y4) 12)).toNat)], 119, pm_RF, M)) rfl ?_
      refine R_iald ho rfl rfl ?_
      refine R_st ho 8 (q' := (89, [(3, .inl (-1)), (0, .inr (.inr (1, 87))), (1, .inl y1), (2, .inl y2), (4, .inl y4)], [.inl (i_ad (i_ml 4096 y4) y2), .inr (.inr (20, 111)), .inl (i_ad (M 110 ((i_ad (i_ml 13 y4) 12)).toNat) (M 111 ((i_ad (i_ml 4096 (i_ad y4 1)) y2)).toNat))], 119, pm_RF, M)) rfl ?_
      refine R_iald ho rfl rfl ?_
      refine R_ic ho rfl (tgt := 164) rfl ?_
      refine R_eq ?_ ?_
      · refine R_st ho 2 (q' := (40, [(4, .inl (i_ad y4 1)), (3, .inl (-1)), (0, .inr (.inr (1, 87))), (1, .inl y1), (2, .inl y2)], [], 119, pm_RF, M)) rfl ?_
        refine R_pk [0, 1, 2, 3, 4] rfl ?_
        exact ih_ y1 y2 (-1) (i_ad y4 1)
      · refine R_st ho 2 (q' := (95, [(3, .inl 0), (0, .inr (.inr (1, 87))), (1, .inl y1), (2, .inl y2), (4, .inl y4)], [], 119, pm_RF, M)) rfl ?_
        refine R_pk [0, 1, 2, 3, 4] rfl ?_
        refine R_bind (ok_Q_best_L95 G M pm_F y1 y2 0 y4) ?_
        intro e1156 q_ hq_
        obtain rfl : q_ = (158, [(0, .inr (.inr (1, 87))), (1, .inl e1156.1), (2, .inl e1156.2.1), (3, .inl e1156.2.2.1), (4, .inl e1156.2.2.2)], [], 119, pm_RF, M) := hq_
        refine R_st ho 6 (q' := (164, [(2, .inl (i_or e1156.2.1 (i_sl 1 e1156.2.2.1))), (0, .inr (.inr (1, 87))), (1, .inl e1156.1), (3, .inl e1156.2.2.1), (4, .inl e1156.2.2.2)], [], 119, pm_RF, M)) rfl ?_
        refine R_nx (fun z_ => (164, [(2, .inl z_), (0, .inr (.inr (1, 87))), (1, .inl e1156.1), (3, .inl e1156.2.2.1), (4, .inl e1156.2.2.2)], [], 119, pm_RF, M)) fun v1157 => ?_
        refine R_st ho 2 (q' := (40, [(4, .inl (i_ad e1156.2.2.2 1)), (2, .inl v1157), (0, .inr (.inr (1, 87))), (1, .inl e1156.1), (3, .inl e1156.2.2.1)], [], 119, pm_RF, M)) rfl ?_
        refine R_pk [0, 1, 2, 3, 4] rfl ?_
        exact ih_ e1156.1 v1157 e1156.2.2.1 (i_ad e1156.2.2.2 1)
theorem ok_Q_best (G : pm_G) (x1 : Int) (M : pm_M)  : pm_R G mt_Q_best 6 (0, [(0, .inr (.inr (1, 87))), (1, .inl x1)], [], 119, pm_RF, M) (f_Q_best x1 M) (pm_Zr mt_Q_best pm_gI) := by
  have ho : pm_oG G mt_Q_best := (oa_Q_best).g G
  unfold f_Q_best
  refine R_st ho 2 (q' := (2, [(0, .inr (.inr (1, 87))), (1, .inl x1)], [.inl (-1), .inl x1], 119, pm_RF, M)) rfl ?_
  refine R_ic ho rfl (tgt := 17) rfl ?_
  refine R_eq ?_ ?_
  · refine R_st ho 1 (q' := (18, [(0, .inr (.inr (1, 87))), (1, .inl x1)], [.inr (.inr (1, 87))], 119, pm_RF, M)) rfl ?_
    refine R_callV ho mv_Q_laysBest lk_1_375 rfl (As := []) (kd := 1) (a := 87) (st := []) rfl rfl (Nat.le_of_ble_eq_true rfl) rfl (by decide) (Nat.le_of_ble_eq_true rfl) (ok_Q_laysBest G  M ) (fun M1155 => ?_)
    show pm_R _ _ _ (21, [(0, .inr (.inr (1, 87))), (1, .inl x1)], [], 119, pm_RF, M1155) _ _
    refine R_st ho 2 (q' := (23, [(0, .inr (.inr (1, 87))), (1, .inl x1)], [.inl (-1), .inl x1], 119, pm_RF, M1155)) rfl ?_
    refine R_ic ho rfl (tgt := 33) rfl ?_
    refine R_ne ?_ ?_
    · refine R_st ho 4 (q' := (32, [(0, .inr (.inr (1, 87))), (1, .inl x1)], [.inl (M1155 111 0)], 119, pm_RF, M1155)) rfl ?_
      exact R_end (v := some (.inl (M1155 111 0))) rfl (Or.inl rfl) rfl rfl
    · refine R_st ho 6 (q' := (40, [(4, .inl 0), (3, .inl (-1)), (2, .inl 0), (0, .inr (.inr (1, 87))), (1, .inl x1)], [], 119, pm_RF, M1155)) rfl ?_
      refine R_pk [0, 1, 2, 3, 4] rfl ?_
      refine R_bind (ok_Q_best_L40 G M1155 pm_F x1 0 (-1) 0) ?_
      intro e1158 q_ hq_
      obtain rfl : q_ = (170, [(3, .inl e1158)], [], 119, pm_RF, M1155) := hq_
      refine R_st ho 1 (q' := (171, [(3, .inl e1158)], [.inl e1158], 119, pm_RF, M1155)) rfl ?_
      exact R_end (v := some (.inl e1158)) rfl (Or.inl rfl) rfl rfl
  · refine R_st ho 2 (q' := (7, [(0, .inr (.inr (1, 87))), (1, .inl x1)], [.inl x1, .inr (.inr (1, 87))], 119, pm_RF, M)) rfl ?_
    refine R_callV ho mv_Q_isPlinth lk_1_126 rfl (As := [.inl x1]) (kd := 1) (a := 87) (st := []) rfl rfl (Nat.le_of_ble_eq_true rfl) rfl (by decide) (Nat.le_of_ble_eq_true rfl) (ok_Q_isPlinth G x1 M ) (fun r1159 => ?_)
    show pm_R _ _ _ (10, [(0, .inr (.inr (1, 87))), (1, .inl x1)], [.inl r1159], 119, pm_RF, M) _ _
    refine R_if ho rfl (tgt := 17) rfl ?_
    refine R_ne ?_ ?_
    · refine R_st ho 1 (q' := (16, [(0, .inr (.inr (1, 87))), (1, .inl x1)], [.inl (-100000)], 119, pm_RF, M)) rfl ?_
      exact R_end (v := some (.inl (-100000))) rfl (Or.inl rfl) rfl rfl
    · refine R_st ho 1 (q' := (18, [(0, .inr (.inr (1, 87))), (1, .inl x1)], [.inr (.inr (1, 87))], 119, pm_RF, M)) rfl ?_
      refine R_callV ho mv_Q_laysBest lk_1_375 rfl (As := []) (kd := 1) (a := 87) (st := []) rfl rfl (Nat.le_of_ble_eq_true rfl) rfl (by decide) (Nat.le_of_ble_eq_true rfl) (ok_Q_laysBest G  M ) (fun M1160 => ?_)
      show pm_R _ _ _ (21, [(0, .inr (.inr (1, 87))), (1, .inl x1)], [], 119, pm_RF, M1160) _ _
      refine R_st ho 2 (q' := (23, [(0, .inr (.inr (1, 87))), (1, .inl x1)], [.inl (-1), .inl x1], 119, pm_RF, M1160)) rfl ?_
      refine R_ic ho rfl (tgt := 33) rfl ?_
      refine R_ne ?_ ?_
      · refine R_st ho 4 (q' := (32, [(0, .inr (.inr (1, 87))), (1, .inl x1)], [.inl (M1160 111 0)], 119, pm_RF, M1160)) rfl ?_
        exact R_end (v := some (.inl (M1160 111 0))) rfl (Or.inl rfl) rfl rfl
      · refine R_st ho 6 (q' := (40, [(4, .inl 0), (3, .inl (-1)), (2, .inl 0), (0, .inr (.inr (1, 87))), (1, .inl x1)], [], 119, pm_RF, M1160)) rfl ?_
        refine R_pk [0, 1, 2, 3, 4] rfl ?_
        refine R_bind (ok_Q_best_L40 G M1160 pm_F x1 0 (-1) 0) ?_
        intro e1161 q_ hq_
        obtain rfl : q_ = (170, [(3, .inl e1161)], [], 119, pm_RF, M1160) := hq_
        refine R_st ho 1 (q' := (171, [(3, .inl e1161)], [.inl e1161], 119, pm_RF, M1160)) rfl ?_
        exact R_end (v := some (.inl e1161)) rfl (Or.inl rfl) rfl rfl
theorem ok_Q_seen (G : pm_G) (x1 : Int) (x2 : Int) (x3 : Int) (M : pm_M)  : pm_R G mt_Q_seen 3 (0, [(0, .inr (.inr (1, 87))), (1, .inl x1), (2, .inl x2), (3, .inl x3)], [], 119, pm_RF, M) (f_Q_seen x1 x2 x3 M) (pm_Zr mt_Q_seen pm_gI) := by
  have ho : pm_oG G mt_Q_seen := (oa_Q_seen).g G
  unfold f_Q_seen
  refine R_st ho 3 (q' := (4, [(0, .inr (.inr (1, 87))), (1, .inl x1), (2, .inl x2), (3, .inl x3)], [.inl 8, .inl 1, .inl x1], 119, pm_RF, M)) rfl ?_
  refine R_callS ho ms_Q_in lk_1_118 rfl (As := [.inl x1, .inl 1, .inl 8]) (st := []) rfl (Nat.le_of_ble_eq_true rfl) rfl (by decide) (Nat.le_of_ble_eq_true rfl) (ok_Q_in G x1 1 8 M ) (fun r1162 => ?_)
  show pm_R _ _ _ (7, [(0, .inr (.inr (1, 87))), (1, .inl x1), (2, .inl x2), (3, .inl x3)], [.inl r1162], 119, pm_RF, M) _ _
  refine R_if ho rfl (tgt := 38) rfl ?_
  refine R_eq ?_ ?_
  · refine R_st ho 1 (q' := (39, [(0, .inr (.inr (1, 87))), (1, .inl x1), (2, .inl x2), (3, .inl x3)], [.inl (-1)], 119, pm_RF, M)) rfl ?_
    exact R_end (v := some (.inl (-1))) rfl (Or.inl rfl) rfl rfl
  · refine R_st ho 2 (q' := (12, [(0, .inr (.inr (1, 87))), (1, .inl x1), (2, .inl x2), (3, .inl x3)], [.inl x2, .inr (.inr (1, 87))], 119, pm_RF, M)) rfl ?_
    refine R_callV ho mv_Q_isPlinth lk_1_126 rfl (As := [.inl x2]) (kd := 1) (a := 87) (st := []) rfl rfl (Nat.le_of_ble_eq_true rfl) rfl (by decide) (Nat.le_of_ble_eq_true rfl) (ok_Q_isPlinth G x2 M ) (fun r1163 => ?_)
    show pm_R _ _ _ (15, [(0, .inr (.inr (1, 87))), (1, .inl x1), (2, .inl x2), (3, .inl x3)], [.inl r1163], 119, pm_RF, M) _ _
    refine R_if ho rfl (tgt := 38) rfl ?_
    refine R_eq ?_ ?_
    · refine R_st ho 1 (q' := (39, [(0, .inr (.inr (1, 87))), (1, .inl x1), (2, .inl x2), (3, .inl x3)], [.inl (-1)], 119, pm_RF, M)) rfl ?_
      exact R_end (v := some (.inl (-1))) rfl (Or.inl rfl) rfl rfl
    · refine R_st ho 3 (q' := (21, [(0, .inr (.inr (1, 87))), (1, .inl x1), (2, .inl x2), (3, .inl x3)], [.inl 3, .inl (-1), .inl x3], 119, pm_RF, M)) rfl ?_
      refine R_callS ho ms_Q_in lk_1_118 rfl (As := [.inl x3, .inl (-1), .inl 3]) (st := []) rfl (Nat.le_of_ble_eq_true rfl) rfl (by decide) (Nat.le_of_ble_eq_true rfl) (ok_Q_in G x3 (-1) 3 M ) (fun r1164 => ?_)
      show pm_R _ _ _ (24, [(0, .inr (.inr (1, 87))), (1, .inl x1), (2, .inl x2), (3, .inl x3)], [.inl r1164], 119, pm_RF, M) _ _
      refine R_if ho rfl (tgt := 38) rfl ?_
      refine R_eq ?_ ?_
      · refine R_st ho 1 (q' := (39, [(0, .inr (.inr (1, 87))), (1, .inl x1), (2, .inl x2), (3, .inl x3)], [.inl (-1)], 119, pm_RF, M)) rfl ?_
        exact R_end (v := some (.inl (-1))) rfl (Or.inl rfl) rfl rfl
      · refine R_st ho 5 (q' := (35, [(0, .inr (.inr (1, 87))), (1, .inl x1), (2, .inl x2), (3, .inl x3)], [.inl 12, .inl (M 88 5)], 119, pm_RF, M)) rfl ?_
        refine R_ic ho rfl (tgt := 40) rfl ?_
        refine R_ne ?_ ?_
        · refine R_st ho 1 (q' := (39, [(0, .inr (.inr (1, 87))), (1, .inl x1), (2, .inl x2), (3, .inl x3)], [.inl (-1)], 119, pm_RF, M)) rfl ?_
          exact R_end (v := some (.inl (-1))) rfl (Or.inl rfl) rfl rfl
        · refine R_st ho 9 (q' := (54, [(4, .inl (i_ad 256 (i_ml 3 (M 88 5)))), (0, .inr (.inr (1, 87))), (1, .inl x1), (2, .inl x2), (3, .inl x3)], [], 119, pm_RF, M)) rfl ?_
          refine R_nx (fun z_ => (54, [(4, .inl z_), (0, .inr (.inr (1, 87))), (1, .inl x1), (2, .inl x2), (3, .inl x3)], [], 119, pm_RF, M)) fun v1165 => ?_
          refine R_st ho 4 (q' := (61, [(4, .inl v1165), (0, .inr (.inr (1, 87))), (1, .inl x1), (2, .inl x2), (3, .inl x3)], [.inl x1, .inl v1165, .inr (.inr (20, 88))], 119, pm_RF, M)) rfl ?_
          refine R_iast ho rfl rfl ?_
          refine R_nm fun M1166 => ?_
          refine R_st ho 6 (q' := (71, [(4, .inl v1165), (0, .inr (.inr (1, 87))), (1, .inl x1), (2, .inl x2), (3, .inl x3)], [.inl x2, .inl (i_ad v1165 1), .inr (.inr (20, 88))], 119, pm_RF, M1166)) rfl ?_
          refine R_iast ho rfl rfl ?_
          refine R_nm fun M1167 => ?_
          refine R_st ho 6 (q' := (81, [(4, .inl v1165), (0, .inr (.inr (1, 87))), (1, .inl x1), (2, .inl x2), (3, .inl x3)], [.inl x3, .inl (i_ad v1165 2), .inr (.inr (20, 88))], 119, pm_RF, M1167)) rfl ?_
          refine R_iast ho rfl rfl ?_
          refine R_nm fun M1168 => ?_
          refine R_st ho 8 (q' := (92, [(4, .inl v1165), (0, .inr (.inr (1, 87))), (1, .inl x1), (2, .inl x2), (3, .inl x3)], [], 119, pm_RF, (pm_ms M1168 88 5 (i_ad (M1168 88 5) 1)))) rfl ?_
          refine R_nm fun M1169 => ?_
          refine R_st ho 4 (q' := (98, [(4, .inl v1165), (0, .inr (.inr (1, 87))), (1, .inl x1), (2, .inl x2), (3, .inl x3)], [.inl (M1169 88 5)], 119, pm_RF, M1169)) rfl ?_
          exact R_end (v := some (.inl (M1169 88 5))) rfl (Or.inl rfl) rfl rfl
theorem ok_Q_forget (G : pm_G)  (M : pm_M)  : pm_R G mt_Q_forget 1 (0, [(0, .inr (.inr (1, 87)))], [], 119, pm_RF, M) (f_Q_forget M) (pm_Zr mt_Q_forget pm_gI) := by
  have ho : pm_oG G mt_Q_forget := (oa_Q_forget).g G
  unfold f_Q_forget
  refine R_st ho 10 (q' := (14, [(1, .inl (M 88 5)), (0, .inr (.inr (1, 87)))], [], 119, pm_RF, (pm_ms M 88 5 0))) rfl ?_
  refine R_nm fun M1170 => ?_
  refine R_st ho 1 (q' := (15, [(1, .inl (M 88 5)), (0, .inr (.inr (1, 87)))], [.inl (M 88 5)], 119, pm_RF, M1170)) rfl ?_
  exact R_end (v := some (.inl (M 88 5))) rfl (Or.inl rfl) rfl rfl
theorem ok_Q_sixes (G : pm_G) (x0 : Int) (M : pm_M)  : pm_R G mt_Q_sixes 1 (0, [(0, .inl x0)], [], 119, pm_RF, M) (f_Q_sixes x0 M) (pm_Zr mt_Q_sixes (pm_gi M)) := by
  have ho : pm_oG G mt_Q_sixes := (oa_Q_sixes).g G
  unfold f_Q_sixes
  refine R_st ho 1 (q' := (1, [(0, .inl x0)], [.inl x0], 119, pm_RF, M)) rfl ?_
  refine R_cs (fun z_ => (1, [(0, .inl x0)], [.inl z_], 119, pm_RF, M)) ?_ (fun h1174 => ?_)
  · refine R_swk ho rfl (by decide) rfl (tgt := 32) rfl (by decide +kernel) ?_
    refine R_st ho 1 (q' := (33, [(0, .inl x0)], [.inl 1], 119, pm_RF, M)) rfl ?_
    exact R_end (v := some (.inl 1)) rfl (Or.inl rfl) rfl rfl
  refine R_cs (fun z_ => (1, [(0, .inl x0)], [.inl z_], 119, pm_RF, M)) ?_ (fun h1175 => ?_)
  · refine R_swk ho rfl (by decide) rfl (tgt := 34) rfl (by decide +kernel) ?_
    refine R_st ho 1 (q' := (36, [(0, .inl x0)], [.inl 6], 119, pm_RF, M)) rfl ?_
    exact R_end (v := some (.inl 6)) rfl (Or.inl rfl) rfl rfl
  refine R_cs (fun z_ => (1, [(0, .inl x0)], [.inl z_], 119, pm_RF, M)) ?_ (fun h1176 => ?_)
  · refine R_swk ho rfl (by decide) rfl (tgt := 37) rfl (by decide +kernel) ?_
    refine R_st ho 1 (q' := (39, [(0, .inl x0)], [.inl 36], 119, pm_RF, M)) rfl ?_
    exact R_end (v := some (.inl 36)) rfl (Or.inl rfl) rfl rfl
  refine R_cs (fun z_ => (1, [(0, .inl x0)], [.inl z_], 119, pm_RF, M)) ?_ (fun h1177 => ?_)
  · refine R_swk ho rfl (by decide) rfl (tgt := 40) rfl (by decide +kernel) ?_
    refine R_st ho 1 (q' := (43, [(0, .inl x0)], [.inl 216], 119, pm_RF, M)) rfl ?_
    exact R_end (v := some (.inl 216)) rfl (Or.inl rfl) rfl rfl
  refine R_swd ho rfl (by omega) rfl (by decide +kernel) ?_
  refine R_st ho 1 (q' := (47, [(0, .inl x0)], [.inl 1296], 119, pm_RF, M)) rfl ?_
  exact R_end (v := some (.inl 1296)) rfl (Or.inl rfl) rfl rfl
theorem ok_Q_wayNow_L9 (G : pm_G)    : ∀ (n_ : Nat) (y1 : Int) (y2 : Int) (M : pm_M), pm_R G mt_Q_wayNow 2 (9, [(0, .inr (.inr (1, 87))), (1, .inl y1), (2, .inl y2)], [], 119, pm_RF, M) (f_Q_wayNow_L9 n_ y1 y2 M) (fun e_ q_ => q_ = (78, [(1, .inl e_.1)], [], 119, pm_RF, e_.2)) := by
  have ho : pm_oG G mt_Q_wayNow := (oa_Q_wayNow).g G
  intro n_
  induction n_ with
  | zero => intro _ _ _; exact R_none
  | succ n_ ih_ =>
    intro y1 y2 M
    rw [f_Q_wayNow_L9]
    refine R_st ho 5 (q' := (16, [(0, .inr (.inr (1, 87))), (1, .inl y1), (2, .inl y2)], [.inl (M 88 0), .inl y2], 119, pm_RF, M)) rfl ?_
    refine R_ic ho rfl (tgt := 78) rfl ?_
    refine R_ge ?_ ?_
    · refine R_pk [1] rfl ?_
      exact R_ret rfl
    · refine R_st ho 5 (q' := (27, [(0, .inr (.inr (1, 87))), (1, .inl y1), (2, .inl y2)], [.inl (i_ad 70 y2), .inr (.inr (20, 88))], 119, pm_RF, M)) rfl ?_
      refine R_iald ho rfl rfl ?_
      refine R_st ho 1 (q' := (29, [(0, .inr (.inr (1, 87))), (1, .inl y1), (2, .inl y2)], [.inl (-1), .inl (M 88 ((i_ad 70 y2)).toNat)], 119, pm_RF, M)) rfl ?_
      refine R_ic ho rfl (tgt := 72) rfl ?_
      refine R_eq ?_ ?_
      · refine R_st ho 2 (q' := (9, [(2, .inl (i_ad y2 1)), (0, .inr (.inr (1, 87))), (1, .inl y1)], [], 119, pm_RF, M)) rfl ?_
        refine R_pk [0, 1, 2] rfl ?_
        exact ih_ y1 (i_ad y2 1) M
      · refine R_st ho 9 (q' := (48, [(0, .inr (.inr (1, 87))), (1, .inl y1), (2, .inl y2)], [.inl (i_ad 70 y2), .inr (.inr (20, 88)), .inl (M 87 44), .inr (.inr (20, 114))], 119, pm_RF, M)) rfl ?_
        refine R_iald ho rfl rfl ?_
        refine R_iast ho rfl rfl ?_
        refine R_nm fun M1172 => ?_
        refine R_st ho 6 (q' := (60, [(0, .inr (.inr (1, 87))), (1, .inl y1), (2, .inl y2)], [], 119, pm_RF, (pm_ms M1172 87 44 (i_ad (M1172 87 44) 1)))) rfl ?_
        refine R_nm fun M1173 => ?_
        refine R_st ho 4 (q' := (66, [(0, .inr (.inr (1, 87))), (1, .inl y1), (2, .inl y2)], [.inl y2, .inl (M1173 87 44), .inl y1], 119, pm_RF, M1173)) rfl ?_
        refine R_callS ho ms_Q_sixes lk_1_378 rfl (As := [.inl y2]) (st := [.inl (M1173 87 44), .inl y1]) rfl (Nat.le_of_ble_eq_true rfl) rfl (by decide) (Nat.le_of_ble_eq_true rfl) (ok_Q_sixes G y2 M1173 ) (fun r1178 => ?_)
        show pm_R _ _ _ (69, [(0, .inr (.inr (1, 87))), (1, .inl y1), (2, .inl y2)], [.inl r1178, .inl (M1173 87 44), .inl y1], 119, pm_RF, M1173) _ _
        refine R_st ho 3 (q' := (72, [(1, .inl (i_ad y1 (i_ml (M1173 87 44) r1178))), (0, .inr (.inr (1, 87))), (2, .inl y2)], [], 119, pm_RF, M1173)) rfl ?_
        refine R_nx (fun z_ => (72, [(1, .inl z_), (0, .inr (.inr (1, 87))), (2, .inl y2)], [], 119, pm_RF, M1173)) fun v1179 => ?_
        refine R_st ho 2 (q' := (9, [(2, .inl (i_ad y2 1)), (1, .inl v1179), (0, .inr (.inr (1, 87)))], [], 119, pm_RF, M1173)) rfl ?_
        refine R_pk [0, 1, 2] rfl ?_
        exact ih_ v1179 (i_ad y2 1) M1173
theorem ok_Q_wayNow (G : pm_G)  (M : pm_M)  : pm_R G mt_Q_wayNow 2 (0, [(0, .inr (.inr (1, 87)))], [], 119, pm_RF, M) (f_Q_wayNow M) (pm_Zr mt_Q_wayNow pm_gI) := by
  have ho : pm_oG G mt_Q_wayNow := (oa_Q_wayNow).g G
  unfold f_Q_wayNow
  refine R_st ho 3 (q' := (5, [(0, .inr (.inr (1, 87)))], [], 119, pm_RF, (pm_ms M 87 44 0))) rfl ?_
  refine R_nm fun M1171 => ?_
  refine R_st ho 4 (q' := (9, [(2, .inl 0), (1, .inl 0), (0, .inr (.inr (1, 87)))], [], 119, pm_RF, M1171)) rfl ?_
  refine R_pk [0, 1, 2] rfl ?_
  refine R_bind (ok_Q_wayNow_L9 G pm_F 0 0 M1171) ?_
  intro e1180 q_ hq_
  obtain rfl : q_ = (78, [(1, .inl e1180.1)], [], 119, pm_RF, e1180.2) := hq_
  refine R_st ho 1 (q' := (79, [(1, .inl e1180.1)], [.inl e1180.1], 119, pm_RF, e1180.2)) rfl ?_
  exact R_end (v := some (.inl e1180.1)) rfl (Or.inl rfl) rfl rfl
theorem ok_Q_at6 (G : pm_G) (x0 : Int) (x1 : Int) (M : pm_M)  : pm_R G mt_Q_at6 2 (0, [(0, .inl x0), (1, .inl x1)], [], 119, pm_RF, M) (f_Q_at6 x0 x1 M) (pm_Zr mt_Q_at6 (pm_gi M)) := by
  have ho : pm_oG G mt_Q_at6 := (oa_Q_at6).g G
  unfold f_Q_at6
  refine R_st ho 2 (q' := (2, [(0, .inl x0), (1, .inl x1)], [.inl x1, .inl x0], 119, pm_RF, M)) rfl ?_
  refine R_callS ho ms_Q_sixes lk_1_378 rfl (As := [.inl x1]) (st := [.inl x0]) rfl (Nat.le_of_ble_eq_true rfl) rfl (by decide) (Nat.le_of_ble_eq_true rfl) (ok_Q_sixes G x1 M ) (fun r1188 => ?_)
  show pm_R _ _ _ (5, [(0, .inl x0), (1, .inl x1)], [.inl r1188, .inl x0], 119, pm_RF, M) _ _
  refine R_idiv ho rfl ?_
  refine R_st ho 2 (q' := (9, [(0, .inl x0), (1, .inl x1)], [.inl (i_rm (i_dv x0 r1188) 6)], 119, pm_RF, M)) rfl ?_
  exact R_end (v := some (.inl (i_rm (i_dv x0 r1188) 6))) rfl (Or.inl rfl) rfl rfl
theorem ok_Q_changed (G : pm_G) (x0 : Int) (x1 : Int) (x2 : Int) (M : pm_M)  : pm_R G mt_Q_changed 3 (0, [(0, .inl x0), (1, .inl x1), (2, .inl x2)], [], 119, pm_RF, M) (f_Q_changed x0 x1 x2 M) (pm_Zr mt_Q_changed (pm_gi M)) := by
  have ho : pm_oG G mt_Q_changed := (oa_Q_changed).g G
  unfold f_Q_changed
  refine R_st ho 2 (q' := (2, [(0, .inl x0), (1, .inl x1), (2, .inl x2)], [.inl x1, .inl x0], 119, pm_RF, M)) rfl ?_
  refine R_callS ho ms_Q_at6 lk_1_381 rfl (As := [.inl x0, .inl x1]) (st := []) rfl (Nat.le_of_ble_eq_true rfl) rfl (by decide) (Nat.le_of_ble_eq_true rfl) (ok_Q_at6 G x0 x1 M ) (fun r1189 => ?_)
  show pm_R _ _ _ (5, [(0, .inl x0), (1, .inl x1), (2, .inl x2)], [.inl r1189], 119, pm_RF, M) _ _
  refine R_st ho 3 (q' := (8, [(3, .inl r1189), (0, .inl x0), (1, .inl x1), (2, .inl x2)], [.inl x2, .inl x0], 119, pm_RF, M)) rfl ?_
  refine R_callS ho ms_Q_at6 lk_1_381 rfl (As := [.inl x0, .inl x2]) (st := []) rfl (Nat.le_of_ble_eq_true rfl) rfl (by decide) (Nat.le_of_ble_eq_true rfl) (ok_Q_at6 G x0 x2 M ) (fun r1190 => ?_)
  show pm_R _ _ _ (11, [(3, .inl r1189), (0, .inl x0), (1, .inl x1), (2, .inl x2)], [.inl r1190], 119, pm_RF, M) _ _
  refine R_st ho 6 (q' := (19, [(4, .inl r1190), (3, .inl r1189), (0, .inl x0), (1, .inl x1), (2, .inl x2)], [.inl x1, .inl (i_sb r1190 r1189), .inl x0], 119, pm_RF, M)) rfl ?_
  refine R_callS ho ms_Q_sixes lk_1_378 rfl (As := [.inl x1]) (st := [.inl (i_sb r1190 r1189), .inl x0]) rfl (Nat.le_of_ble_eq_true rfl) rfl (by decide) (Nat.le_of_ble_eq_true rfl) (ok_Q_sixes G x1 M ) (fun r1191 => ?_)
  show pm_R _ _ _ (22, [(4, .inl r1190), (3, .inl r1189), (0, .inl x0), (1, .inl x1), (2, .inl x2)], [.inl r1191, .inl (i_sb r1190 r1189), .inl x0], 119, pm_RF, M) _ _
  refine R_st ho 6 (q' := (29, [(4, .inl r1190), (3, .inl r1189), (0, .inl x0), (1, .inl x1), (2, .inl x2)], [.inl x2, .inl (i_sb r1189 r1190), .inl (i_ad x0 (i_ml (i_sb r1190 r1189) r1191))], 119, pm_RF, M)) rfl ?_
  refine R_callS ho ms_Q_sixes lk_1_378 rfl (As := [.inl x2]) (st := [.inl (i_sb r1189 r1190), .inl (i_ad x0 (i_ml (i_sb r1190 r1189) r1191))]) rfl (Nat.le_of_ble_eq_true rfl) rfl (by decide) (Nat.le_of_ble_eq_true rfl) (ok_Q_sixes G x2 M ) (fun r1192 => ?_)
  show pm_R _ _ _ (32, [(4, .inl r1190), (3, .inl r1189), (0, .inl x0), (1, .inl x1), (2, .inl x2)], [.inl r1192, .inl (i_sb r1189 r1190), .inl (i_ad x0 (i_ml (i_sb r1190 r1189) r1191))], 119, pm_RF, M) _ _
  refine R_st ho 2 (q' := (34, [(4, .inl r1190), (3, .inl r1189), (0, .inl x0), (1, .inl x1), (2, .inl x2)], [.inl (i_ad (i_ad x0 (i_ml (i_sb r1190 r1189) r1191)) (i_ml (i_sb r1189 r1190) r1192))], 119, pm_RF, M)) rfl ?_
  exact R_end (v := some (.inl (i_ad (i_ad x0 (i_ml (i_sb r1190 r1189) r1191)) (i_ml (i_sb r1189 r1190) r1192)))) rfl (Or.inl rfl) rfl rfl
theorem ok_Q_spreads_87_112_L54 (G : pm_G)    : ∀ (n_ : Nat) (y2 : Int) (y3 : Int) (y4 : Int) (y5 : Int) (y6 : Int) (y7 : Int) (M : pm_M), pm_R G mt_Q_spreads 4 (54, [(0, .inr (.inr (1, 87))), (1, .inr (.inr (20, 112))), (2, .inl y2), (3, .inl y3), (4, .inl y4), (5, .inl y5), (6, .inl y6), (7, .inl y7)], [], 119, pm_RF, M) (f_Q_spreads_87_112_L54 n_ y2 y3 y4 y5 y6 y7 M) (fun e_ q_ => q_ = (110, [(0, .inr (.inr (1, 87))), (1, .inr (.inr (20, 112))), (2, .inl e_.1), (3, .inl e_.2.1), (4, .inl e_.2.2.1), (5, .inl e_.2.2.2.1), (6, .inl e_.2.2.2.2.1)], [], 119, pm_RF, e_.2.2.2.2.2)) := by
  have ho : pm_oG G mt_Q_spreads := (oa_Q_spreads).g G
  intro n_
  induction n_ with
  | zero => intro _ _ _ _ _ _ _; exact R_none
  | succ n_ ih_ =>
    intro y2 y3 y4 y5 y6 y7 M
    rw [f_Q_spreads_87_112_L54]
    refine R_st ho 5 (q' := (62, [(0, .inr (.inr (1, 87))), (1, .inr (.inr (20, 112))), (2, .inl y2), (3, .inl y3), (4, .inl y4), (5, .inl y5), (6, .inl y6), (7, .inl y7)], [.inl (M 88 0), .inl y7], 119, pm_RF, M)) rfl ?_
    refine R_ic ho rfl (tgt := 110) rfl ?_
    refine R_ge ?_ ?_
    · refine R_pk [0, 1, 2, 3, 4, 5, 6] rfl ?_
      exact R_ret rfl
    · refine R_st ho 4 (q' := (72, [(0, .inr (.inr (1, 87))), (1, .inr (.inr (20, 112))), (2, .inl y2), (3, .inl y3), (4, .inl y4), (5, .inl y5), (6, .inl y6), (7, .inl y7)], [.inl y7, .inl y6, .inl y4, .inl y2], 119, pm_RF, M)) rfl ?_
      refine R_callS ho ms_Q_changed lk_1_385 rfl (As := [.inl y4, .inl y6, .inl y7]) (st := [.inl y2]) rfl (Nat.le_of_ble_eq_true rfl) rfl (by decide) (Nat.le_of_ble_eq_true rfl) (ok_Q_changed G y4 y6 y7 M ) (fun r1193 => ?_)
      show pm_R _ _ _ (75, [(0, .inr (.inr (1, 87))), (1, .inr (.inr (20, 112))), (2, .inl y2), (3, .inl y3), (4, .inl y4), (5, .inl y5), (6, .inl y6), (7, .inl y7)], [.inl r1193, .inl y2], 119, pm_RF, M) _ _
      refine R_st ho 9 (q' := (88, [(8, .inl (i_ad y2 r1193)), (0, .inr (.inr (1, 87))), (1, .inr (.inr (20, 112))), (2, .inl y2), (3, .inl y3), (4, .inl y4), (5, .inl y5), (6, .inl y6), (7, .inl y7)], [.inl (i_ad y2 r1193), .inr (.inr (20, 112)), .inl (i_ad y5 1), .inl (i_ad y2 r1193), .inr (.inr (20, 112))], 119, pm_RF, M)) rfl ?_
      refine R_iald ho rfl rfl ?_
      refine R_ic ho rfl (tgt := 99) rfl ?_
      refine R_ge ?_ ?_
      · refine R_st ho 2 (q' := (102, [(8, .inl (i_ad y2 r1193)), (0, .inr (.inr (1, 87))), (1, .inr (.inr (20, 112))), (2, .inl y2), (3, .inl y3), (4, .inl y4), (5, .inl y5), (6, .inl y6), (7, .inl y7)], [.inl (i_ad y2 r1193), .inr (.inr (20, 112)), .inl (i_ad y2 r1193), .inr (.inr (20, 112))], 119, pm_RF, M)) rfl ?_
        refine R_iald ho rfl rfl ?_
        refine R_iast ho rfl rfl ?_
        refine R_nm fun M1194 => ?_
        refine R_st ho 2 (q' := (54, [(7, .inl (i_ad y7 1)), (8, .inl (i_ad y2 r1193)), (0, .inr (.inr (1, 87))), (1, .inr (.inr (20, 112))), (2, .inl y2), (3, .inl y3), (4, .inl y4), (5, .inl y5), (6, .inl y6)], [], 119, pm_RF, M1194)) rfl ?_
        refine R_pk [0, 1, 2, 3, 4, 5, 6, 7] rfl ?_
        exact ih_ y2 y3 y4 y5 y6 (i_ad y7 1) M1194
      · refine R_st ho 4 (q' := (103, [(8, .inl (i_ad y2 r1193)), (0, .inr (.inr (1, 87))), (1, .inr (.inr (20, 112))), (2, .inl y2), (3, .inl y3), (4, .inl y4), (5, .inl y5), (6, .inl y6), (7, .inl y7)], [.inl (i_ad y5 1), .inl (i_ad y2 r1193), .inr (.inr (20, 112))], 119, pm_RF, M)) rfl ?_
        refine R_iast ho rfl rfl ?_
        refine R_nm fun M1195 => ?_
        refine R_st ho 2 (q' := (54, [(7, .inl (i_ad y7 1)), (8, .inl (i_ad y2 r1193)), (0, .inr (.inr (1, 87))), (1, .inr (.inr (20, 112))), (2, .inl y2), (3, .inl y3), (4, .inl y4), (5, .inl y5), (6, .inl y6)], [], 119, pm_RF, M1195)) rfl ?_
        refine R_pk [0, 1, 2, 3, 4, 5, 6, 7] rfl ?_
        exact ih_ y2 y3 y4 y5 y6 (i_ad y7 1) M1195
theorem ok_Q_spreads_87_112_L29 (G : pm_G)    : ∀ (n_ : Nat) (y2 : Int) (y3 : Int) (y4 : Int) (y5 : Int) (y6 : Int) (M : pm_M), pm_R G mt_Q_spreads 4 (29, [(0, .inr (.inr (1, 87))), (1, .inr (.inr (20, 112))), (2, .inl y2), (3, .inl y3), (4, .inl y4), (5, .inl y5), (6, .inl y6)], [], 119, pm_RF, M) (f_Q_spreads_87_112_L29 n_ y2 y3 y4 y5 y6 M) (fun e_ q_ => q_ = (116, [(0, .inr (.inr (1, 87))), (1, .inr (.inr (20, 112))), (2, .inl e_.1), (3, .inl e_.2.1), (4, .inl e_.2.2.1)], [], 119, pm_RF, e_.2.2.2)) := by
  have ho : pm_oG G mt_Q_spreads := (oa_Q_spreads).g G
  intro n_
  induction n_ with
  | zero => intro _ _ _ _ _ _; exact R_none
  | succ n_ ih_ =>
    intro y2 y3 y4 y5 y6 M
    rw [f_Q_spreads_87_112_L29]
    refine R_st ho 5 (q' := (37, [(0, .inr (.inr (1, 87))), (1, .inr (.inr (20, 112))), (2, .inl y2), (3, .inl y3), (4, .inl y4), (5, .inl y5), (6, .inl y6)], [.inl (M 88 0), .inl y6], 119, pm_RF, M)) rfl ?_
    refine R_ic ho rfl (tgt := 116) rfl ?_
    refine R_ge ?_ ?_
    · refine R_pk [0, 1, 2, 3, 4] rfl ?_
      exact R_ret rfl
    · refine R_st ho 2 (q' := (45, [(0, .inr (.inr (1, 87))), (1, .inr (.inr (20, 112))), (2, .inl y2), (3, .inl y3), (4, .inl y4), (5, .inl y5), (6, .inl y6)], [.inl 100000, .inl y5], 119, pm_RF, M)) rfl ?_
      refine R_ic ho rfl (tgt := 116) rfl ?_
      refine R_ge ?_ ?_
      · refine R_pk [0, 1, 2, 3, 4] rfl ?_
        exact R_ret rfl
      · refine R_st ho 4 (q' := (54, [(7, .inl (i_ad y6 1)), (0, .inr (.inr (1, 87))), (1, .inr (.inr (20, 112))), (2, .inl y2), (3, .inl y3), (4, .inl y4), (5, .inl y5), (6, .inl y6)], [], 119, pm_RF, M)) rfl ?_
        refine R_pk [0, 1, 2, 3, 4, 5, 6, 7] rfl ?_
        refine R_bind (ok_Q_spreads_87_112_L54 G pm_F y2 y3 y4 y5 y6 (i_ad y6 1) M) ?_
        intro e1196 q_ hq_
        obtain rfl : q_ = (110, [(0, .inr (.inr (1, 87))), (1, .inr (.inr (20, 112))), (2, .inl e1196.1), (3, .inl e1196.2.1), (4, .inl e1196.2.2.1), (5, .inl e1196.2.2.2.1), (6, .inl e1196.2.2.2.2.1)], [], 119, pm_RF, e1196.2.2.2.2.2) := hq_
        refine R_st ho 2 (q' := (29, [(6, .inl (i_ad e1196.2.2.2.2.1 1)), (0, .inr (.inr (1, 87))), (1, .inr (.inr (20, 112))), (2, .inl e1196.1), (3, .inl e1196.2.1), (4, .inl e1196.2.2.1), (5, .inl e1196.2.2.2.1)], [], 119, pm_RF, e1196.2.2.2.2.2)) rfl ?_
        refine R_pk [0, 1, 2, 3, 4, 5, 6] rfl ?_
        exact ih_ e1196.1 e1196.2.1 e1196.2.2.1 e1196.2.2.2.1 (i_ad e1196.2.2.2.2.1 1) e1196.2.2.2.2.2
theorem ok_Q_spreads_87_112_L10 (G : pm_G)    : ∀ (n_ : Nat) (y2 : Int) (y3 : Int) (y4 : Int) (M : pm_M), pm_R G mt_Q_spreads 4 (10, [(0, .inr (.inr (1, 87))), (1, .inr (.inr (20, 112))), (2, .inl y2), (3, .inl y3), (4, .inl y4)], [], 119, pm_RF, M) (f_Q_spreads_87_112_L10 n_ y2 y3 y4 M) (fun e_ q_ => q_ = (122, [(0, .inr (.inr (1, 87))), (1, .inr (.inr (20, 112))), (2, .inl e_.1), (3, .inl e_.2.1)], [], 119, pm_RF, e_.2.2)) := by
  have ho : pm_oG G mt_Q_spreads := (oa_Q_spreads).g G
  intro n_
  induction n_ with
  | zero => intro _ _ _ _; exact R_none
  | succ n_ ih_ =>
    intro y2 y3 y4 M
    rw [f_Q_spreads_87_112_L10]
    refine R_st ho 2 (q' := (15, [(0, .inr (.inr (1, 87))), (1, .inr (.inr (20, 112))), (2, .inl y2), (3, .inl y3), (4, .inl y4)], [.inl 7776, .inl y4], 119, pm_RF, M)) rfl ?_
    refine R_ic ho rfl (tgt := 122) rfl ?_
    refine R_ge ?_ ?_
    · refine R_pk [0, 1, 2, 3] rfl ?_
      exact R_ret rfl
    · refine R_st ho 4 (q' := (23, [(0, .inr (.inr (1, 87))), (1, .inr (.inr (20, 112))), (2, .inl y2), (3, .inl y3), (4, .inl y4)], [.inl (i_ad y2 y4), .inr (.inr (20, 112))], 119, pm_RF, M)) rfl ?_
      refine R_iald ho rfl rfl ?_
      refine R_st ho 1 (q' := (26, [(5, .inl (M 112 ((i_ad y2 y4)).toNat)), (0, .inr (.inr (1, 87))), (1, .inr (.inr (20, 112))), (2, .inl y2), (3, .inl y3), (4, .inl y4)], [], 119, pm_RF, M)) rfl ?_
      refine R_nx (fun z_ => (26, [(5, .inl z_), (0, .inr (.inr (1, 87))), (1, .inr (.inr (20, 112))), (2, .inl y2), (3, .inl y3), (4, .inl y4)], [], 119, pm_RF, M)) fun v1187 => ?_
      refine R_st ho 2 (q' := (29, [(6, .inl 0), (5, .inl v1187), (0, .inr (.inr (1, 87))), (1, .inr (.inr (20, 112))), (2, .inl y2), (3, .inl y3), (4, .inl y4)], [], 119, pm_RF, M)) rfl ?_
      refine R_pk [0, 1, 2, 3, 4, 5, 6] rfl ?_
      refine R_bind (ok_Q_spreads_87_112_L29 G pm_F y2 y3 y4 v1187 0 M) ?_
      intro e1197 q_ hq_
      obtain rfl : q_ = (116, [(0, .inr (.inr (1, 87))), (1, .inr (.inr (20, 112))), (2, .inl e1197.1), (3, .inl e1197.2.1), (4, .inl e1197.2.2.1)], [], 119, pm_RF, e1197.2.2.2) := hq_
      refine R_st ho 2 (q' := (10, [(4, .inl (i_ad e1197.2.2.1 1)), (0, .inr (.inr (1, 87))), (1, .inr (.inr (20, 112))), (2, .inl e1197.1), (3, .inl e1197.2.1)], [], 119, pm_RF, e1197.2.2.2)) rfl ?_
      refine R_pk [0, 1, 2, 3, 4] rfl ?_
      exact ih_ e1197.1 e1197.2.1 (i_ad e1197.2.2.1 1) e1197.2.2.2
theorem ok_Q_spreads_87_112_L2 (G : pm_G)    : ∀ (n_ : Nat) (y2 : Int) (y3 : Int) (M : pm_M), pm_R G mt_Q_spreads 4 (2, [(0, .inr (.inr (1, 87))), (1, .inr (.inr (20, 112))), (2, .inl y2), (3, .inl y3)], [], 119, pm_RF, M) (f_Q_spreads_87_112_L2 n_ y2 y3 M) (fun e_ q_ => q_ = (128, [], [], 119, pm_RF, e_)) := by
  have ho : pm_oG G mt_Q_spreads := (oa_Q_spreads).g G
  intro n_
  induction n_ with
  | zero => intro _ _ _; exact R_none
  | succ n_ ih_ =>
    intro y2 y3 M
    rw [f_Q_spreads_87_112_L2]
    refine R_st ho 2 (q' := (4, [(0, .inr (.inr (1, 87))), (1, .inr (.inr (20, 112))), (2, .inl y2), (3, .inl y3)], [.inl 4, .inl y3], 119, pm_RF, M)) rfl ?_
    refine R_ic ho rfl (tgt := 128) rfl ?_
    refine R_ge ?_ ?_
    · refine R_pk [] rfl ?_
      exact R_ret rfl
    · refine R_st ho 2 (q' := (10, [(4, .inl 0), (0, .inr (.inr (1, 87))), (1, .inr (.inr (20, 112))), (2, .inl y2), (3, .inl y3)], [], 119, pm_RF, M)) rfl ?_
      refine R_pk [0, 1, 2, 3, 4] rfl ?_
      refine R_bind (ok_Q_spreads_87_112_L10 G pm_F y2 y3 0 M) ?_
      intro e1198 q_ hq_
      obtain rfl : q_ = (122, [(0, .inr (.inr (1, 87))), (1, .inr (.inr (20, 112))), (2, .inl e1198.1), (3, .inl e1198.2.1)], [], 119, pm_RF, e1198.2.2) := hq_
      refine R_st ho 2 (q' := (2, [(3, .inl (i_ad e1198.2.1 1)), (0, .inr (.inr (1, 87))), (1, .inr (.inr (20, 112))), (2, .inl e1198.1)], [], 119, pm_RF, e1198.2.2)) rfl ?_
      refine R_pk [0, 1, 2, 3] rfl ?_
      exact ih_ e1198.1 (i_ad e1198.2.1 1) e1198.2.2
theorem ok_Q_spreads_87_112 (G : pm_G) (x2 : Int) (M : pm_M)  : pm_R G mt_Q_spreads 4 (0, [(0, .inr (.inr (1, 87))), (1, .inr (.inr (20, 112))), (2, .inl x2)], [], 119, pm_RF, M) (f_Q_spreads_87_112 x2 M) (pm_Zr mt_Q_spreads pm_gV) := by
  have ho : pm_oG G mt_Q_spreads := (oa_Q_spreads).g G
  unfold f_Q_spreads_87_112
  refine R_st ho 2 (q' := (2, [(3, .inl 0), (0, .inr (.inr (1, 87))), (1, .inr (.inr (20, 112))), (2, .inl x2)], [], 119, pm_RF, M)) rfl ?_
  refine R_pk [0, 1, 2, 3] rfl ?_
  refine R_bind (ok_Q_spreads_87_112_L2 G pm_F x2 0 M) ?_
  intro e1199 q_ hq_
  obtain rfl : q_ = (128, [], [], 119, pm_RF, e1199) := hq_
  exact R_end (v := none) rfl rfl rfl rfl
theorem ok_Q_isSo_L5 (G : pm_G)   (M : pm_M) : ∀ (n_ : Nat) (y1 : Int) (y2 : Int) (y3 : Int) (y4 : Int), pm_R G mt_Q_isSo 3 (5, [(0, .inr (.inr (1, 87))), (1, .inl y1), (2, .inl y2), (3, .inl y3), (4, .inl y4)], [], 119, pm_RF, M) (f_Q_isSo_L5 M n_ y1 y2 y3 y4) (fun e_ q_ => q_ = (114, [(3, .inl e_)], [], 119, pm_RF, M)) := by
  have ho : pm_oG G mt_Q_isSo := (oa_Q_isSo).g G
  intro n_
  induction n_ with
  | zero => intro _ _ _ _; exact R_none
  | succ n_ ih_ =>
    intro y1 y2 y3 y4
    rw [f_Q_isSo_L5]
    refine R_st ho 5 (q' := (13, [(0, .inr (.inr (1, 87))), (1, .inl y1), (2, .inl y2), (3, .inl y3), (4, .inl y4)], [.inl (M 88 5), .inl y4], 119, pm_RF, M)) rfl ?_
    refine R_ic ho rfl (tgt := 114) rfl ?_
    refine R_ge ?_ ?_
    · refine R_pk [3] rfl ?_
      exact R_ret rfl
    · refine R_st ho 1 (q' := (17, [(0, .inr (.inr (1, 87))), (1, .inl y1), (2, .inl y2), (3, .inl y3), (4, .inl y4)], [.inl y3], 119, pm_RF, M)) rfl ?_
      refine R_if ho rfl (tgt := 114) rfl ?_
      refine R_eq ?_ ?_
      · refine R_pk [3] rfl ?_
        exact R_ret rfl
      · refine R_st ho 9 (q' := (36, [(5, .inl (i_ad 256 (i_ml 3 y4))), (0, .inr (.inr (1, 87))), (1, .inl y1), (2, .inl y2), (3, .inl y3), (4, .inl y4)], [.inl (i_ad 256 (i_ml 3 y4)), .inr (.inr (20, 88))], 119, pm_RF, M)) rfl ?_
        refine R_iald ho rfl rfl ?_
        refine R_st ho 1 (q' := (38, [(5, .inl (i_ad 256 (i_ml 3 y4))), (0, .inr (.inr (1, 87))), (1, .inl y1), (2, .inl y2), (3, .inl y3), (4, .inl y4)], [.inl y1, .inl (M 88 ((i_ad 256 (i_ml 3 y4))).toNat)], 119, pm_RF, M)) rfl ?_
        refine R_ic ho rfl (tgt := 108) rfl ?_
        refine R_ne ?_ ?_
        · refine R_st ho 6 (q' := (50, [(5, .inl (i_ad 256 (i_ml 3 y4))), (0, .inr (.inr (1, 87))), (1, .inl y1), (2, .inl y2), (3, .inl y3), (4, .inl y4)], [.inl (i_ad (i_ad 256 (i_ml 3 y4)) 1), .inr (.inr (20, 88)), .inl y2], 119, pm_RF, M)) rfl ?_
          refine R_iald ho rfl rfl ?_
          refine R_callS ho ms_Q_at6 lk_1_381 rfl (As := [.inl y2, .inl (M 88 ((i_ad (i_ad 256 (i_ml 3 y4)) 1)).toNat)]) (st := []) rfl (Nat.le_of_ble_eq_true rfl) rfl (by decide) (Nat.le_of_ble_eq_true rfl) (ok_Q_at6 G y2 (M 88 ((i_ad (i_ad 256 (i_ml 3 y4)) 1)).toNat) M ) (fun r1202 => ?_)
          show pm_R _ _ _ (54, [(5, .inl (i_ad 256 (i_ml 3 y4))), (0, .inr (.inr (1, 87))), (1, .inl y1), (2, .inl y2), (3, .inl y3), (4, .inl y4)], [.inl r1202], 119, pm_RF, M) _ _
          refine R_st ho 2 (q' := (58, [(6, .inl r1202), (5, .inl (i_ad 256 (i_ml 3 y4))), (0, .inr (.inr (1, 87))), (1, .inl y1), (2, .inl y2), (3, .inl y3), (4, .inl y4)], [.inl r1202], 119, pm_RF, M)) rfl ?_
          refine R_if ho rfl (tgt := 65) rfl ?_
          refine R_ne ?_ ?_
          · refine R_st ho 9 (q' := (98, [(7, .inl (-1)), (6, .inl r1202), (5, .inl (i_ad 256 (i_ml 3 y4))), (0, .inr (.inr (1, 87))), (1, .inl y1), (2, .inl y2), (3, .inl y3), (4, .inl y4)], [.inl (i_ad (i_ad 256 (i_ml 3 y4)) 2), .inr (.inr (20, 88)), .inl (-1)], 119, pm_RF, M)) rfl ?_
            refine R_iald ho rfl rfl ?_
            refine R_ic ho rfl (tgt := 106) rfl ?_
            refine R_ne ?_ ?_
            · refine R_st ho 5 (q' := (5, [(4, .inl (i_ad y4 1)), (3, .inl 1), (7, .inl (-1)), (6, .inl r1202), (5, .inl (i_ad 256 (i_ml 3 y4))), (0, .inr (.inr (1, 87))), (1, .inl y1), (2, .inl y2)], [], 119, pm_RF, M)) rfl ?_
              refine R_pk [0, 1, 2, 3, 4] rfl ?_
              exact ih_ y1 y2 1 (i_ad y4 1)
            · refine R_st ho 4 (q' := (5, [(4, .inl (i_ad y4 1)), (3, .inl 0), (7, .inl (-1)), (6, .inl r1202), (5, .inl (i_ad 256 (i_ml 3 y4))), (0, .inr (.inr (1, 87))), (1, .inl y1), (2, .inl y2)], [], 119, pm_RF, M)) rfl ?_
              refine R_pk [0, 1, 2, 3, 4] rfl ?_
              exact ih_ y1 y2 0 (i_ad y4 1)
          · refine R_st ho 9 (q' := (80, [(6, .inl r1202), (5, .inl (i_ad 256 (i_ml 3 y4))), (0, .inr (.inr (1, 87))), (1, .inl y1), (2, .inl y2), (3, .inl y3), (4, .inl y4)], [.inl (i_sb r1202 1), .inr (.inr (20, 114)), .inl 2, .inl 42, .inr (.inr (20, 88))], 119, pm_RF, M)) rfl ?_
            refine R_iald ho rfl rfl ?_
            refine R_st ho 4 (q' := (85, [(6, .inl r1202), (5, .inl (i_ad 256 (i_ml 3 y4))), (0, .inr (.inr (1, 87))), (1, .inl y1), (2, .inl y2), (3, .inl y3), (4, .inl y4)], [.inl (i_ad (i_ad 42 (i_ml 2 (M 114 ((i_sb r1202 1)).toNat))) 1), .inr (.inr (20, 88))], 119, pm_RF, M)) rfl ?_
            refine R_iald ho rfl rfl ?_
            refine R_st ho 1 (q' := (88, [(7, .inl (M 88 ((i_ad (i_ad 42 (i_ml 2 (M 114 ((i_sb r1202 1)).toNat))) 1)).toNat)), (6, .inl r1202), (5, .inl (i_ad 256 (i_ml 3 y4))), (0, .inr (.inr (1, 87))), (1, .inl y1), (2, .inl y2), (3, .inl y3), (4, .inl y4)], [], 119, pm_RF, M)) rfl ?_
            refine R_nx (fun z_ => (88, [(7, .inl z_), (6, .inl r1202), (5, .inl (i_ad 256 (i_ml 3 y4))), (0, .inr (.inr (1, 87))), (1, .inl y1), (2, .inl y2), (3, .inl y3), (4, .inl y4)], [], 119, pm_RF, M)) fun v1203 => ?_
            refine R_st ho 6 (q' := (98, [(7, .inl v1203), (6, .inl r1202), (5, .inl (i_ad 256 (i_ml 3 y4))), (0, .inr (.inr (1, 87))), (1, .inl y1), (2, .inl y2), (3, .inl y3), (4, .inl y4)], [.inl (i_ad (i_ad 256 (i_ml 3 y4)) 2), .inr (.inr (20, 88)), .inl v1203], 119, pm_RF, M)) rfl ?_
            refine R_iald ho rfl rfl ?_
            refine R_ic ho rfl (tgt := 106) rfl ?_
            refine R_ne ?_ ?_
            · refine R_st ho 5 (q' := (5, [(4, .inl (i_ad y4 1)), (3, .inl 1), (7, .inl v1203), (6, .inl r1202), (5, .inl (i_ad 256 (i_ml 3 y4))), (0, .inr (.inr (1, 87))), (1, .inl y1), (2, .inl y2)], [], 119, pm_RF, M)) rfl ?_
              refine R_pk [0, 1, 2, 3, 4] rfl ?_
              exact ih_ y1 y2 1 (i_ad y4 1)
            · refine R_st ho 4 (q' := (5, [(4, .inl (i_ad y4 1)), (3, .inl 0), (7, .inl v1203), (6, .inl r1202), (5, .inl (i_ad 256 (i_ml 3 y4))), (0, .inr (.inr (1, 87))), (1, .inl y1), (2, .inl y2)], [], 119, pm_RF, M)) rfl ?_
              refine R_pk [0, 1, 2, 3, 4] rfl ?_
              exact ih_ y1 y2 0 (i_ad y4 1)
        · refine R_st ho 2 (q' := (5, [(4, .inl (i_ad y4 1)), (5, .inl (i_ad 256 (i_ml 3 y4))), (0, .inr (.inr (1, 87))), (1, .inl y1), (2, .inl y2), (3, .inl y3)], [], 119, pm_RF, M)) rfl ?_
          refine R_pk [0, 1, 2, 3, 4] rfl ?_
          exact ih_ y1 y2 y3 (i_ad y4 1)
theorem ok_Q_isSo (G : pm_G) (x1 : Int) (x2 : Int) (M : pm_M)  : pm_R G mt_Q_isSo 3 (0, [(0, .inr (.inr (1, 87))), (1, .inl x1), (2, .inl x2)], [], 119, pm_RF, M) (f_Q_isSo x1 x2 M) (pm_Zr mt_Q_isSo (pm_gi M)) := by
  have ho : pm_oG G mt_Q_isSo := (oa_Q_isSo).g G
  unfold f_Q_isSo
  refine R_st ho 4 (q' := (5, [(4, .inl 0), (3, .inl 1), (0, .inr (.inr (1, 87))), (1, .inl x1), (2, .inl x2)], [], 119, pm_RF, M)) rfl ?_
  refine R_pk [0, 1, 2, 3, 4] rfl ?_
  refine R_bind (ok_Q_isSo_L5 G M pm_F x1 x2 1 0) ?_
  intro e1204 q_ hq_
  obtain rfl : q_ = (114, [(3, .inl e1204)], [], 119, pm_RF, M) := hq_
  refine R_st ho 1 (q' := (115, [(3, .inl e1204)], [.inl e1204], 119, pm_RF, M)) rfl ?_
  exact R_gd (fun h_ => R_end (v := some (.inl e1204)) rfl (Or.inr ⟨rfl, h_⟩) rfl rfl)
theorem ok_Q_laysHistories_L7 (G : pm_G)    : ∀ (n_ : Nat) (y1 : Int) (y2 : Int) (M : pm_M), pm_R G mt_Q_laysHistories 5 (7, [(0, .inr (.inr (1, 87))), (1, .inl y1), (2, .inl y2)], [], 119, pm_RF, M) (f_Q_laysHistories_L7 n_ y1 y2 M) (fun e_ q_ => q_ = (38, [(0, .inr (.inr (1, 87)))], [], 119, pm_RF, e_)) := by
  have ho : pm_oG G mt_Q_laysHistories := (oa_Q_laysHistories).g G
  intro n_
  induction n_ with
  | zero => intro _ _ _; exact R_none
  | succ n_ ih_ =>
    intro y1 y2 M
    rw [f_Q_laysHistories_L7]
    refine R_st ho 2 (q' := (11, [(0, .inr (.inr (1, 87))), (1, .inl y1), (2, .inl y2)], [.inl 7776, .inl y2], 119, pm_RF, M)) rfl ?_
    refine R_ic ho rfl (tgt := 38) rfl ?_
    refine R_ge ?_ ?_
    · refine R_pk [0] rfl ?_
      exact R_ret rfl
    · refine R_st ho 5 (q' := (21, [(0, .inr (.inr (1, 87))), (1, .inl y1), (2, .inl y2)], [.inl y1, .inl y2, .inl y2, .inr (.inr (20, 112))], 119, pm_RF, M)) rfl ?_
      refine R_ic ho rfl (tgt := 28) rfl ?_
      refine R_ne ?_ ?_
      · refine R_st ho 2 (q' := (31, [(0, .inr (.inr (1, 87))), (1, .inl y1), (2, .inl y2)], [.inl 0, .inl y2, .inr (.inr (20, 112))], 119, pm_RF, M)) rfl ?_
        refine R_iast ho rfl rfl ?_
        refine R_nm fun M1182 => ?_
        refine R_st ho 2 (q' := (7, [(2, .inl (i_ad y2 1)), (0, .inr (.inr (1, 87))), (1, .inl y1)], [], 119, pm_RF, M1182)) rfl ?_
        refine R_pk [0, 1, 2] rfl ?_
        exact ih_ y1 (i_ad y2 1) M1182
      · refine R_st ho 1 (q' := (31, [(0, .inr (.inr (1, 87))), (1, .inl y1), (2, .inl y2)], [.inl 100000, .inl y2, .inr (.inr (20, 112))], 119, pm_RF, M)) rfl ?_
        refine R_iast ho rfl rfl ?_
        refine R_nm fun M1183 => ?_
        refine R_st ho 2 (q' := (7, [(2, .inl (i_ad y2 1)), (0, .inr (.inr (1, 87))), (1, .inl y1)], [], 119, pm_RF, M1183)) rfl ?_
        refine R_pk [0, 1, 2] rfl ?_
        exact ih_ y1 (i_ad y2 1) M1183
theorem ok_Q_laysHistories_L55 (G : pm_G)    : ∀ (n_ : Nat) (y2 : Int) (y3 : Int) (y4 : Int) (M : pm_M), pm_R G mt_Q_laysHistories 5 (55, [(0, .inr (.inr (1, 87))), (2, .inl y2), (3, .inl y3), (4, .inl y4)], [], 119, pm_RF, M) (f_Q_laysHistories_L55 n_ y2 y3 y4 M) (fun e_ q_ => q_ = (91, [(0, .inr (.inr (1, 87))), (2, .inl e_.1), (3, .inl e_.2.1)], [], 119, pm_RF, e_.2.2)) := by
  have ho : pm_oG G mt_Q_laysHistories := (oa_Q_laysHistories).g G
  intro n_
  induction n_ with
  | zero => intro _ _ _ _; exact R_none
  | succ n_ ih_ =>
    intro y2 y3 y4 M
    rw [f_Q_laysHistories_L55]
    refine R_st ho 2 (q' := (60, [(0, .inr (.inr (1, 87))), (2, .inl y2), (3, .inl y3), (4, .inl y4)], [.inl 7776, .inl y4], 119, pm_RF, M)) rfl ?_
    refine R_ic ho rfl (tgt := 91) rfl ?_
    refine R_ge ?_ ?_
    · refine R_pk [0, 2, 3] rfl ?_
      exact R_ret rfl
    · refine R_st ho 12 (q' := (83, [(0, .inr (.inr (1, 87))), (2, .inl y2), (3, .inl y3), (4, .inl y4)], [.inl (i_ad (i_sb y3 7776) y4), .inr (.inr (20, 112)), .inl (i_ad y3 y4), .inr (.inr (20, 112))], 119, pm_RF, M)) rfl ?_
      refine R_iald ho rfl rfl ?_
      refine R_iast ho rfl rfl ?_
      refine R_nm fun M1185 => ?_
      refine R_st ho 2 (q' := (55, [(4, .inl (i_ad y4 1)), (0, .inr (.inr (1, 87))), (2, .inl y2), (3, .inl y3)], [], 119, pm_RF, M1185)) rfl ?_
      refine R_pk [0, 2, 3, 4] rfl ?_
      exact ih_ y2 y3 (i_ad y4 1) M1185
theorem ok_Q_laysHistories_L103 (G : pm_G)    : ∀ (n_ : Nat) (y2 : Int) (y3 : Int) (y4 : Int) (M : pm_M), pm_R G mt_Q_laysHistories 5 (103, [(0, .inr (.inr (1, 87))), (2, .inl y2), (3, .inl y3), (4, .inl y4)], [], 119, pm_RF, M) (f_Q_laysHistories_L103 n_ y2 y3 y4 M) (fun e_ q_ => q_ = (178, [(0, .inr (.inr (1, 87))), (2, .inl e_.1)], [], 119, pm_RF, e_.2)) := by
  have ho : pm_oG G mt_Q_laysHistories := (oa_Q_laysHistories).g G
  intro n_
  induction n_ with
  | zero => intro _ _ _ _; exact R_none
  | succ n_ ih_ =>
    intro y2 y3 y4 M
    rw [f_Q_laysHistories_L103]
    refine R_st ho 2 (q' := (108, [(0, .inr (.inr (1, 87))), (2, .inl y2), (3, .inl y3), (4, .inl y4)], [.inl 7776, .inl y4], 119, pm_RF, M)) rfl ?_
    refine R_ic ho rfl (tgt := 178) rfl ?_
    refine R_ge ?_ ?_
    · refine R_pk [0, 2] rfl ?_
      exact R_ret rfl
    · refine R_st ho 5 (q' := (119, [(0, .inr (.inr (1, 87))), (2, .inl y2), (3, .inl y3), (4, .inl y4)], [.inl (i_ad y3 y4), .inr (.inr (20, 112))], 119, pm_RF, M)) rfl ?_
      refine R_iald ho rfl rfl ?_
      refine R_st ho 1 (q' := (123, [(0, .inr (.inr (1, 87))), (2, .inl y2), (3, .inl y3), (4, .inl y4)], [.inl 100000, .inl (M 112 ((i_ad y3 y4)).toNat)], 119, pm_RF, M)) rfl ?_
      refine R_ic ho rfl (tgt := 140) rfl ?_
      refine R_ge ?_ ?_
      · refine R_st ho 10 (q' := (171, [(5, .inl 0), (0, .inr (.inr (1, 87))), (2, .inl y2), (3, .inl y3), (4, .inl y4)], [.inl 100000, .inl (i_ad y3 y4), .inr (.inr (20, 112))], 119, pm_RF, M)) rfl ?_
        refine R_iast ho rfl rfl ?_
        refine R_nm fun M1201 => ?_
        refine R_st ho 2 (q' := (103, [(4, .inl (i_ad y4 1)), (5, .inl 0), (0, .inr (.inr (1, 87))), (2, .inl y2), (3, .inl y3)], [], 119, pm_RF, M1201)) rfl ?_
        refine R_pk [0, 2, 3, 4] rfl ?_
        exact ih_ y2 y3 (i_ad y4 1) M1201
      · refine R_st ho 3 (q' := (130, [(0, .inr (.inr (1, 87))), (2, .inl y2), (3, .inl y3), (4, .inl y4)], [.inl y4, .inl y2, .inr (.inr (1, 87))], 119, pm_RF, M)) rfl ?_
        refine R_callV ho mv_Q_isSo lk_1_398 rfl (As := [.inl y2, .inl y4]) (kd := 1) (a := 87) (st := []) rfl rfl (Nat.le_of_ble_eq_true rfl) rfl (by decide) (Nat.le_of_ble_eq_true rfl) (ok_Q_isSo G y2 y4 M ) (fun r1205 => ?_)
        show pm_R _ _ _ (133, [(0, .inr (.inr (1, 87))), (2, .inl y2), (3, .inl y3), (4, .inl y4)], [.inl r1205], 119, pm_RF, M) _ _
        refine R_if ho rfl (tgt := 140) rfl ?_
        refine R_eq ?_ ?_
        · refine R_st ho 10 (q' := (171, [(5, .inl 0), (0, .inr (.inr (1, 87))), (2, .inl y2), (3, .inl y3), (4, .inl y4)], [.inl 100000, .inl (i_ad y3 y4), .inr (.inr (20, 112))], 119, pm_RF, M)) rfl ?_
          refine R_iast ho rfl rfl ?_
          refine R_nm fun M1206 => ?_
          refine R_st ho 2 (q' := (103, [(4, .inl (i_ad y4 1)), (5, .inl 0), (0, .inr (.inr (1, 87))), (2, .inl y2), (3, .inl y3)], [], 119, pm_RF, M1206)) rfl ?_
          refine R_pk [0, 2, 3, 4] rfl ?_
          exact ih_ y2 y3 (i_ad y4 1) M1206
        · refine R_st ho 15 (q' := (164, [(5, .inl 1), (0, .inr (.inr (1, 87))), (2, .inl y2), (3, .inl y3), (4, .inl y4)], [.inl (i_ad y3 y4), .inr (.inr (20, 112)), .inl (i_ad y3 y4), .inr (.inr (20, 112))], 119, pm_RF, M)) rfl ?_
          refine R_iald ho rfl rfl ?_
          refine R_st ho 1 (q' := (171, [(5, .inl 1), (0, .inr (.inr (1, 87))), (2, .inl y2), (3, .inl y3), (4, .inl y4)], [.inl (M 112 ((i_ad y3 y4)).toNat), .inl (i_ad y3 y4), .inr (.inr (20, 112))], 119, pm_RF, M)) rfl ?_
          refine R_iast ho rfl rfl ?_
          refine R_nm fun M1207 => ?_
          refine R_st ho 2 (q' := (103, [(4, .inl (i_ad y4 1)), (5, .inl 1), (0, .inr (.inr (1, 87))), (2, .inl y2), (3, .inl y3)], [], 119, pm_RF, M1207)) rfl ?_
          refine R_pk [0, 2, 3, 4] rfl ?_
          exact ih_ y2 y3 (i_ad y4 1) M1207
theorem ok_Q_laysHistories_L40 (G : pm_G)    : ∀ (n_ : Nat) (y2 : Int) (M : pm_M), pm_R G mt_Q_laysHistories 5 (40, [(0, .inr (.inr (1, 87))), (2, .inl y2)], [], 119, pm_RF, M) (f_Q_laysHistories_L40 n_ y2 M) (fun e_ q_ => q_ = (184, [(0, .inr (.inr (1, 87)))], [], 119, pm_RF, e_)) := by
  have ho : pm_oG G mt_Q_laysHistories := (oa_Q_laysHistories).g G
  intro n_
  induction n_ with
  | zero => intro _ _; exact R_none
  | succ n_ ih_ =>
    intro y2 M
    rw [f_Q_laysHistories_L40]
    refine R_st ho 2 (q' := (43, [(0, .inr (.inr (1, 87))), (2, .inl y2)], [.inl 9, .inl y2], 119, pm_RF, M)) rfl ?_
    refine R_ic ho rfl (tgt := 184) rfl ?_
    refine R_ge ?_ ?_
    · refine R_pk [0] rfl ?_
      exact R_ret rfl
    · refine R_st ho 6 (q' := (55, [(4, .inl 0), (3, .inl (i_ml 7776 y2)), (0, .inr (.inr (1, 87))), (2, .inl y2)], [], 119, pm_RF, M)) rfl ?_
      refine R_pk [0, 2, 3, 4] rfl ?_
      refine R_bind (ok_Q_laysHistories_L55 G pm_F y2 (i_ml 7776 y2) 0 M) ?_
      intro e1186 q_ hq_
      obtain rfl : q_ = (91, [(0, .inr (.inr (1, 87))), (2, .inl e1186.1), (3, .inl e1186.2.1)], [], 119, pm_RF, e1186.2.2) := hq_
      refine R_st ho 4 (q' := (97, [(0, .inr (.inr (1, 87))), (2, .inl e1186.1), (3, .inl e1186.2.1)], [.inl e1186.2.1, .inr (.inr (20, 112)), .inr (.inr (1, 87))], 119, pm_RF, e1186.2.2)) rfl ?_
      refine R_callV ho mv_Q_spreads lk_1_394 rfl (As := [.inr (.inr (20, 112)), .inl e1186.2.1]) (kd := 1) (a := 87) (st := []) rfl rfl (Nat.le_of_ble_eq_true rfl) rfl (by decide) (Nat.le_of_ble_eq_true rfl) (ok_Q_spreads_87_112 G e1186.2.1 e1186.2.2 ) (fun M1200 => ?_)
      show pm_R _ _ _ (100, [(0, .inr (.inr (1, 87))), (2, .inl e1186.1), (3, .inl e1186.2.1)], [], 119, pm_RF, M1200) _ _
      refine R_st ho 2 (q' := (103, [(4, .inl 0), (0, .inr (.inr (1, 87))), (2, .inl e1186.1), (3, .inl e1186.2.1)], [], 119, pm_RF, M1200)) rfl ?_
      refine R_pk [0, 2, 3, 4] rfl ?_
      refine R_bind (ok_Q_laysHistories_L103 G pm_F e1186.1 e1186.2.1 0 M1200) ?_
      intro e1208 q_ hq_
      obtain rfl : q_ = (178, [(0, .inr (.inr (1, 87))), (2, .inl e1208.1)], [], 119, pm_RF, e1208.2) := hq_
      refine R_st ho 2 (q' := (40, [(2, .inl (i_ad e1208.1 1)), (0, .inr (.inr (1, 87)))], [], 119, pm_RF, e1208.2)) rfl ?_
      refine R_pk [0, 2] rfl ?_
      exact ih_ (i_ad e1208.1 1) e1208.2
theorem ok_Q_laysHistories_L190 (G : pm_G)   (M : pm_M) : ∀ (n_ : Nat) (y2 : Int) (y3 : Int), pm_R G mt_Q_laysHistories 5 (190, [(0, .inr (.inr (1, 87))), (2, .inl y2), (3, .inl y3)], [], 119, pm_RF, M) (f_Q_laysHistories_L190 M n_ y2 y3) (fun e_ q_ => q_ = (228, [(2, .inl e_)], [], 119, pm_RF, M)) := by
  have ho : pm_oG G mt_Q_laysHistories := (oa_Q_laysHistories).g G
  intro n_
  induction n_ with
  | zero => intro _ _; exact R_none
  | succ n_ ih_ =>
    intro y2 y3
    rw [f_Q_laysHistories_L190]
    refine R_st ho 2 (q' := (194, [(0, .inr (.inr (1, 87))), (2, .inl y2), (3, .inl y3)], [.inl 7776, .inl y3], 119, pm_RF, M)) rfl ?_
    refine R_ic ho rfl (tgt := 228) rfl ?_
    refine R_ge ?_ ?_
    · refine R_pk [2] rfl ?_
      exact R_ret rfl
    · refine R_st ho 5 (q' := (206, [(0, .inr (.inr (1, 87))), (2, .inl y2), (3, .inl y3)], [.inl (i_ad 62208 y3), .inr (.inr (20, 112))], 119, pm_RF, M)) rfl ?_
      refine R_iald ho rfl rfl ?_
      refine R_st ho 1 (q' := (209, [(4, .inl (M 112 ((i_ad 62208 y3)).toNat)), (0, .inr (.inr (1, 87))), (2, .inl y2), (3, .inl y3)], [], 119, pm_RF, M)) rfl ?_
      refine R_nx (fun z_ => (209, [(4, .inl z_), (0, .inr (.inr (1, 87))), (2, .inl y2), (3, .inl y3)], [], 119, pm_RF, M)) fun v1210 => ?_
      refine R_st ho 2 (q' := (212, [(4, .inl v1210), (0, .inr (.inr (1, 87))), (2, .inl y2), (3, .inl y3)], [.inl y2, .inl v1210], 119, pm_RF, M)) rfl ?_
      refine R_ic ho rfl (tgt := 220) rfl ?_
      refine R_ge ?_ ?_
      · refine R_st ho 4 (q' := (190, [(3, .inl (i_ad y3 1)), (2, .inl y2), (4, .inl v1210), (0, .inr (.inr (1, 87)))], [], 119, pm_RF, M)) rfl ?_
        refine R_pk [0, 2, 3] rfl ?_
        exact ih_ y2 (i_ad y3 1)
      · refine R_st ho 5 (q' := (190, [(3, .inl (i_ad y3 1)), (2, .inl v1210), (4, .inl v1210), (0, .inr (.inr (1, 87)))], [], 119, pm_RF, M)) rfl ?_
        refine R_pk [0, 2, 3] rfl ?_
        exact ih_ v1210 (i_ad y3 1)
theorem ok_Q_laysHistories (G : pm_G)  (M : pm_M)  : pm_R G mt_Q_laysHistories 5 (0, [(0, .inr (.inr (1, 87)))], [], 119, pm_RF, M) (f_Q_laysHistories M) (pm_Zr mt_Q_laysHistories pm_gI) := by
  have ho : pm_oG G mt_Q_laysHistories := (oa_Q_laysHistories).g G
  unfold f_Q_laysHistories
  refine R_st ho 1 (q' := (1, [(0, .inr (.inr (1, 87)))], [.inr (.inr (1, 87))], 119, pm_RF, M)) rfl ?_
  refine R_callV ho mv_Q_wayNow lk_1_391 rfl (As := []) (kd := 1) (a := 87) (st := []) rfl rfl (Nat.le_of_ble_eq_true rfl) rfl (by decide) (Nat.le_of_ble_eq_true rfl) (ok_Q_wayNow G  M ) (fun r1181 => ?_)
  show pm_R _ _ _ (4, [(0, .inr (.inr (1, 87)))], [.inl r1181.1], 119, pm_RF, r1181.2) _ _
  refine R_st ho 3 (q' := (7, [(2, .inl 0), (1, .inl r1181.1), (0, .inr (.inr (1, 87)))], [], 119, pm_RF, r1181.2)) rfl ?_
  refine R_pk [0, 1, 2] rfl ?_
  refine R_bind (ok_Q_laysHistories_L7 G pm_F r1181.1 0 r1181.2) ?_
  intro e1184 q_ hq_
  obtain rfl : q_ = (38, [(0, .inr (.inr (1, 87)))], [], 119, pm_RF, e1184) := hq_
  refine R_st ho 2 (q' := (40, [(2, .inl 1), (0, .inr (.inr (1, 87)))], [], 119, pm_RF, e1184)) rfl ?_
  refine R_pk [0, 2] rfl ?_
  refine R_bind (ok_Q_laysHistories_L40 G pm_F 1 e1184) ?_
  intro e1209 q_ hq_
  obtain rfl : q_ = (184, [(0, .inr (.inr (1, 87)))], [], 119, pm_RF, e1209) := hq_
  refine R_st ho 4 (q' := (190, [(3, .inl 0), (2, .inl 100000), (0, .inr (.inr (1, 87)))], [], 119, pm_RF, e1209)) rfl ?_
  refine R_pk [0, 2, 3] rfl ?_
  refine R_bind (ok_Q_laysHistories_L190 G e1209 pm_F 100000 0) ?_
  intro e1211 q_ hq_
  obtain rfl : q_ = (228, [(2, .inl e1211)], [], 119, pm_RF, e1209) := hq_
  refine R_st ho 2 (q' := (232, [(2, .inl e1211)], [.inl 100000, .inl e1211], 119, pm_RF, e1209)) rfl ?_
  refine R_ic ho rfl (tgt := 239) rfl ?_
  refine R_ne ?_ ?_
  · refine R_st ho 2 (q' := (240, [(2, .inl e1211)], [.inl (-1)], 119, pm_RF, e1209)) rfl ?_
    exact R_end (v := some (.inl (-1))) rfl (Or.inl rfl) rfl rfl
  · refine R_st ho 1 (q' := (240, [(2, .inl e1211)], [.inl e1211], 119, pm_RF, e1209)) rfl ?_
    exact R_end (v := some (.inl e1211)) rfl (Or.inl rfl) rfl rfl
theorem ok_Q_fewest (G : pm_G)  (M : pm_M)  : pm_R G mt_Q_fewest 6 (0, [(0, .inr (.inr (1, 87)))], [], 119, pm_RF, M) (f_Q_fewest M) (pm_Zr mt_Q_fewest pm_gI) := by
  have ho : pm_oG G mt_Q_fewest := (oa_Q_fewest).g G
  unfold f_Q_fewest
  refine R_st ho 5 (q' := (7, [(0, .inr (.inr (1, 87)))], [.inl 5, .inl (M 88 0)], 119, pm_RF, M)) rfl ?_
  refine R_ic ho rfl (tgt := 14) rfl ?_
  refine R_le ?_ ?_
  · refine R_st ho 1 (q' := (15, [(0, .inr (.inr (1, 87)))], [.inr (.inr (1, 87))], 119, pm_RF, M)) rfl ?_
    refine R_callV ho mv_Q_laysHistories lk_1_402 rfl (As := []) (kd := 1) (a := 87) (st := []) rfl rfl (Nat.le_of_ble_eq_true rfl) rfl (by decide) (Nat.le_of_ble_eq_true rfl) (ok_Q_laysHistories G  M ) (fun r1212 => ?_)
    show pm_R _ _ _ (18, [(0, .inr (.inr (1, 87)))], [.inl r1212.1], 119, pm_RF, r1212.2) _ _
    exact R_end (v := some (.inl r1212.1)) rfl (Or.inl rfl) rfl rfl
  · refine R_st ho 2 (q' := (18, [(0, .inr (.inr (1, 87)))], [.inl (-1)], 119, pm_RF, M)) rfl ?_
    exact R_end (v := some (.inl (-1))) rfl (Or.inl rfl) rfl rfl
theorem ok_Q_spreads_87_113_L54 (G : pm_G)    : ∀ (n_ : Nat) (y2 : Int) (y3 : Int) (y4 : Int) (y5 : Int) (y6 : Int) (y7 : Int) (M : pm_M), pm_R G mt_Q_spreads 4 (54, [(0, .inr (.inr (1, 87))), (1, .inr (.inr (20, 113))), (2, .inl y2), (3, .inl y3), (4, .inl y4), (5, .inl y5), (6, .inl y6), (7, .inl y7)], [], 119, pm_RF, M) (f_Q_spreads_87_113_L54 n_ y2 y3 y4 y5 y6 y7 M) (fun e_ q_ => q_ = (110, [(0, .inr (.inr (1, 87))), (1, .inr (.inr (20, 113))), (2, .inl e_.1), (3, .inl e_.2.1), (4, .inl e_.2.2.1), (5, .inl e_.2.2.2.1), (6, .inl e_.2.2.2.2.1)], [], 119, pm_RF, e_.2.2.2.2.2)) := by
  have ho : pm_oG G mt_Q_spreads := (oa_Q_spreads).g G
  intro n_
  induction n_ with
  | zero => intro _ _ _ _ _ _ _; exact R_none
  | succ n_ ih_ =>
    intro y2 y3 y4 y5 y6 y7 M
    rw [f_Q_spreads_87_113_L54]
    refine R_st ho 5 (q' := (62, [(0, .inr (.inr (1, 87))), (1, .inr (.inr (20, 113))), (2, .inl y2), (3, .inl y3), (4, .inl y4), (5, .inl y5), (6, .inl y6), (7, .inl y7)], [.inl (M 88 0), .inl y7], 119, pm_RF, M)) rfl ?_
    refine R_ic ho rfl (tgt := 110) rfl ?_
    refine R_ge ?_ ?_
    · refine R_pk [0, 1, 2, 3, 4, 5, 6] rfl ?_
      exact R_ret rfl
    · refine R_st ho 4 (q' := (72, [(0, .inr (.inr (1, 87))), (1, .inr (.inr (20, 113))), (2, .inl y2), (3, .inl y3), (4, .inl y4), (5, .inl y5), (6, .inl y6), (7, .inl y7)], [.inl y7, .inl y6, .inl y4, .inl y2], 119, pm_RF, M)) rfl ?_
      refine R_callS ho ms_Q_changed lk_1_385 rfl (As := [.inl y4, .inl y6, .inl y7]) (st := [.inl y2]) rfl (Nat.le_of_ble_eq_true rfl) rfl (by decide) (Nat.le_of_ble_eq_true rfl) (ok_Q_changed G y4 y6 y7 M ) (fun r1222 => ?_)
      show pm_R _ _ _ (75, [(0, .inr (.inr (1, 87))), (1, .inr (.inr (20, 113))), (2, .inl y2), (3, .inl y3), (4, .inl y4), (5, .inl y5), (6, .inl y6), (7, .inl y7)], [.inl r1222, .inl y2], 119, pm_RF, M) _ _
      refine R_st ho 9 (q' := (88, [(8, .inl (i_ad y2 r1222)), (0, .inr (.inr (1, 87))), (1, .inr (.inr (20, 113))), (2, .inl y2), (3, .inl y3), (4, .inl y4), (5, .inl y5), (6, .inl y6), (7, .inl y7)], [.inl (i_ad y2 r1222), .inr (.inr (20, 113)), .inl (i_ad y5 1), .inl (i_ad y2 r1222), .inr (.inr (20, 113))], 119, pm_RF, M)) rfl ?_
      refine R_iald ho rfl rfl ?_
      refine R_ic ho rfl (tgt := 99) rfl ?_
      refine R_ge ?_ ?_
      · refine R_st ho 2 (q' := (102, [(8, .inl (i_ad y2 r1222)), (0, .inr (.inr (1, 87))), (1, .inr (.inr (20, 113))), (2, .inl y2), (3, .inl y3), (4, .inl y4), (5, .inl y5), (6, .inl y6), (7, .inl y7)], [.inl (i_ad y2 r1222), .inr (.inr (20, 113)), .inl (i_ad y2 r1222), .inr (.inr (20, 113))], 119, pm_RF, M)) rfl ?_
        refine R_iald ho rfl rfl ?_
        refine R_iast ho rfl rfl ?_
        refine R_nm fun M1223 => ?_
        refine R_st ho 2 (q' := (54, [(7, .inl (i_ad y7 1)), (8, .inl (i_ad y2 r1222)), (0, .inr (.inr (1, 87))), (1, .inr (.inr (20, 113))), (2, .inl y2), (3, .inl y3), (4, .inl y4), (5, .inl y5), (6, .inl y6)], [], 119, pm_RF, M1223)) rfl ?_
        refine R_pk [0, 1, 2, 3, 4, 5, 6, 7] rfl ?_
        exact ih_ y2 y3 y4 y5 y6 (i_ad y7 1) M1223
      · refine R_st ho 4 (q' := (103, [(8, .inl (i_ad y2 r1222)), (0, .inr (.inr (1, 87))), (1, .inr (.inr (20, 113))), (2, .inl y2), (3, .inl y3), (4, .inl y4), (5, .inl y5), (6, .inl y6), (7, .inl y7)], [.inl (i_ad y5 1), .inl (i_ad y2 r1222), .inr (.inr (20, 113))], 119, pm_RF, M)) rfl ?_
        refine R_iast ho rfl rfl ?_
        refine R_nm fun M1224 => ?_
        refine R_st ho 2 (q' := (54, [(7, .inl (i_ad y7 1)), (8, .inl (i_ad y2 r1222)), (0, .inr (.inr (1, 87))), (1, .inr (.inr (20, 113))), (2, .inl y2), (3, .inl y3), (4, .inl y4), (5, .inl y5), (6, .inl y6)], [], 119, pm_RF, M1224)) rfl ?_
        refine R_pk [0, 1, 2, 3, 4, 5, 6, 7] rfl ?_
        exact ih_ y2 y3 y4 y5 y6 (i_ad y7 1) M1224
theorem ok_Q_spreads_87_113_L29 (G : pm_G)    : ∀ (n_ : Nat) (y2 : Int) (y3 : Int) (y4 : Int) (y5 : Int) (y6 : Int) (M : pm_M), pm_R G mt_Q_spreads 4 (29, [(0, .inr (.inr (1, 87))), (1, .inr (.inr (20, 113))), (2, .inl y2), (3, .inl y3), (4, .inl y4), (5, .inl y5), (6, .inl y6)], [], 119, pm_RF, M) (f_Q_spreads_87_113_L29 n_ y2 y3 y4 y5 y6 M) (fun e_ q_ => q_ = (116, [(0, .inr (.inr (1, 87))), (1, .inr (.inr (20, 113))), (2, .inl e_.1), (3, .inl e_.2.1), (4, .inl e_.2.2.1)], [], 119, pm_RF, e_.2.2.2)) := by
  have ho : pm_oG G mt_Q_spreads := (oa_Q_spreads).g G
  intro n_
  induction n_ with
  | zero => intro _ _ _ _ _ _; exact R_none
  | succ n_ ih_ =>
    intro y2 y3 y4 y5 y6 M
    rw [f_Q_spreads_87_113_L29]
    refine R_st ho 5 (q' := (37, [(0, .inr (.inr (1, 87))), (1, .inr (.inr (20, 113))), (2, .inl y2), (3, .inl y3), (4, .inl y4), (5, .inl y5), (6, .inl y6)], [.inl (M 88 0), .inl y6], 119, pm_RF, M)) rfl ?_
    refine R_ic ho rfl (tgt := 116) rfl ?_
    refine R_ge ?_ ?_
    · refine R_pk [0, 1, 2, 3, 4] rfl ?_
      exact R_ret rfl
    · refine R_st ho 2 (q' := (45, [(0, .inr (.inr (1, 87))), (1, .inr (.inr (20, 113))), (2, .inl y2), (3, .inl y3), (4, .inl y4), (5, .inl y5), (6, .inl y6)], [.inl 100000, .inl y5], 119, pm_RF, M)) rfl ?_
      refine R_ic ho rfl (tgt := 116) rfl ?_
      refine R_ge ?_ ?_
      · refine R_pk [0, 1, 2, 3, 4] rfl ?_
        exact R_ret rfl
      · refine R_st ho 4 (q' := (54, [(7, .inl (i_ad y6 1)), (0, .inr (.inr (1, 87))), (1, .inr (.inr (20, 113))), (2, .inl y2), (3, .inl y3), (4, .inl y4), (5, .inl y5), (6, .inl y6)], [], 119, pm_RF, M)) rfl ?_
        refine R_pk [0, 1, 2, 3, 4, 5, 6, 7] rfl ?_
        refine R_bind (ok_Q_spreads_87_113_L54 G pm_F y2 y3 y4 y5 y6 (i_ad y6 1) M) ?_
        intro e1225 q_ hq_
        obtain rfl : q_ = (110, [(0, .inr (.inr (1, 87))), (1, .inr (.inr (20, 113))), (2, .inl e1225.1), (3, .inl e1225.2.1), (4, .inl e1225.2.2.1), (5, .inl e1225.2.2.2.1), (6, .inl e1225.2.2.2.2.1)], [], 119, pm_RF, e1225.2.2.2.2.2) := hq_
        refine R_st ho 2 (q' := (29, [(6, .inl (i_ad e1225.2.2.2.2.1 1)), (0, .inr (.inr (1, 87))), (1, .inr (.inr (20, 113))), (2, .inl e1225.1), (3, .inl e1225.2.1), (4, .inl e1225.2.2.1), (5, .inl e1225.2.2.2.1)], [], 119, pm_RF, e1225.2.2.2.2.2)) rfl ?_
        refine R_pk [0, 1, 2, 3, 4, 5, 6] rfl ?_
        exact ih_ e1225.1 e1225.2.1 e1225.2.2.1 e1225.2.2.2.1 (i_ad e1225.2.2.2.2.1 1) e1225.2.2.2.2.2
theorem ok_Q_spreads_87_113_L10 (G : pm_G)    : ∀ (n_ : Nat) (y2 : Int) (y3 : Int) (y4 : Int) (M : pm_M), pm_R G mt_Q_spreads 4 (10, [(0, .inr (.inr (1, 87))), (1, .inr (.inr (20, 113))), (2, .inl y2), (3, .inl y3), (4, .inl y4)], [], 119, pm_RF, M) (f_Q_spreads_87_113_L10 n_ y2 y3 y4 M) (fun e_ q_ => q_ = (122, [(0, .inr (.inr (1, 87))), (1, .inr (.inr (20, 113))), (2, .inl e_.1), (3, .inl e_.2.1)], [], 119, pm_RF, e_.2.2)) := by
  have ho : pm_oG G mt_Q_spreads := (oa_Q_spreads).g G
  intro n_
  induction n_ with
  | zero => intro _ _ _ _; exact R_none
  | succ n_ ih_ =>
    intro y2 y3 y4 M
    rw [f_Q_spreads_87_113_L10]
    refine R_st ho 2 (q' := (15, [(0, .inr (.inr (1, 87))), (1, .inr (.inr (20, 113))), (2, .inl y2), (3, .inl y3), (4, .inl y4)], [.inl 7776, .inl y4], 119, pm_RF, M)) rfl ?_
    refine R_ic ho rfl (tgt := 122) rfl ?_
    refine R_ge ?_ ?_
    · refine R_pk [0, 1, 2, 3] rfl ?_
      exact R_ret rfl
    · refine R_st ho 4 (q' := (23, [(0, .inr (.inr (1, 87))), (1, .inr (.inr (20, 113))), (2, .inl y2), (3, .inl y3), (4, .inl y4)], [.inl (i_ad y2 y4), .inr (.inr (20, 113))], 119, pm_RF, M)) rfl ?_
      refine R_iald ho rfl rfl ?_
      refine R_st ho 1 (q' := (26, [(5, .inl (M 113 ((i_ad y2 y4)).toNat)), (0, .inr (.inr (1, 87))), (1, .inr (.inr (20, 113))), (2, .inl y2), (3, .inl y3), (4, .inl y4)], [], 119, pm_RF, M)) rfl ?_
      refine R_nx (fun z_ => (26, [(5, .inl z_), (0, .inr (.inr (1, 87))), (1, .inr (.inr (20, 113))), (2, .inl y2), (3, .inl y3), (4, .inl y4)], [], 119, pm_RF, M)) fun v1221 => ?_
      refine R_st ho 2 (q' := (29, [(6, .inl 0), (5, .inl v1221), (0, .inr (.inr (1, 87))), (1, .inr (.inr (20, 113))), (2, .inl y2), (3, .inl y3), (4, .inl y4)], [], 119, pm_RF, M)) rfl ?_
      refine R_pk [0, 1, 2, 3, 4, 5, 6] rfl ?_
      refine R_bind (ok_Q_spreads_87_113_L29 G pm_F y2 y3 y4 v1221 0 M) ?_
      intro e1226 q_ hq_
      obtain rfl : q_ = (116, [(0, .inr (.inr (1, 87))), (1, .inr (.inr (20, 113))), (2, .inl e1226.1), (3, .inl e1226.2.1), (4, .inl e1226.2.2.1)], [], 119, pm_RF, e1226.2.2.2) := hq_
      refine R_st ho 2 (q' := (10, [(4, .inl (i_ad e1226.2.2.1 1)), (0, .inr (.inr (1, 87))), (1, .inr (.inr (20, 113))), (2, .inl e1226.1), (3, .inl e1226.2.1)], [], 119, pm_RF, e1226.2.2.2)) rfl ?_
      refine R_pk [0, 1, 2, 3, 4] rfl ?_
      exact ih_ e1226.1 e1226.2.1 (i_ad e1226.2.2.1 1) e1226.2.2.2
theorem ok_Q_spreads_87_113_L2 (G : pm_G)    : ∀ (n_ : Nat) (y2 : Int) (y3 : Int) (M : pm_M), pm_R G mt_Q_spreads 4 (2, [(0, .inr (.inr (1, 87))), (1, .inr (.inr (20, 113))), (2, .inl y2), (3, .inl y3)], [], 119, pm_RF, M) (f_Q_spreads_87_113_L2 n_ y2 y3 M) (fun e_ q_ => q_ = (128, [], [], 119, pm_RF, e_)) := by
  have ho : pm_oG G mt_Q_spreads := (oa_Q_spreads).g G
  intro n_
  induction n_ with
  | zero => intro _ _ _; exact R_none
  | succ n_ ih_ =>
    intro y2 y3 M
    rw [f_Q_spreads_87_113_L2]
    refine R_st ho 2 (q' := (4, [(0, .inr (.inr (1, 87))), (1, .inr (.inr (20, 113))), (2, .inl y2), (3, .inl y3)], [.inl 4, .inl y3], 119, pm_RF, M)) rfl ?_
    refine R_ic ho rfl (tgt := 128) rfl ?_
    refine R_ge ?_ ?_
    · refine R_pk [] rfl ?_
      exact R_ret rfl
    · refine R_st ho 2 (q' := (10, [(4, .inl 0), (0, .inr (.inr (1, 87))), (1, .inr (.inr (20, 113))), (2, .inl y2), (3, .inl y3)], [], 119, pm_RF, M)) rfl ?_
      refine R_pk [0, 1, 2, 3, 4] rfl ?_
      refine R_bind (ok_Q_spreads_87_113_L10 G pm_F y2 y3 0 M) ?_
      intro e1227 q_ hq_
      obtain rfl : q_ = (122, [(0, .inr (.inr (1, 87))), (1, .inr (.inr (20, 113))), (2, .inl e1227.1), (3, .inl e1227.2.1)], [], 119, pm_RF, e1227.2.2) := hq_
      refine R_st ho 2 (q' := (2, [(3, .inl (i_ad e1227.2.1 1)), (0, .inr (.inr (1, 87))), (1, .inr (.inr (20, 113))), (2, .inl e1227.1)], [], 119, pm_RF, e1227.2.2)) rfl ?_
      refine R_pk [0, 1, 2, 3] rfl ?_
      exact ih_ e1227.1 (i_ad e1227.2.1 1) e1227.2.2
theorem ok_Q_spreads_87_113 (G : pm_G) (x2 : Int) (M : pm_M)  : pm_R G mt_Q_spreads 4 (0, [(0, .inr (.inr (1, 87))), (1, .inr (.inr (20, 113))), (2, .inl x2)], [], 119, pm_RF, M) (f_Q_spreads_87_113 x2 M) (pm_Zr mt_Q_spreads pm_gV) := by
  have ho : pm_oG G mt_Q_spreads := (oa_Q_spreads).g G
  unfold f_Q_spreads_87_113
  refine R_st ho 2 (q' := (2, [(3, .inl 0), (0, .inr (.inr (1, 87))), (1, .inr (.inr (20, 113))), (2, .inl x2)], [], 119, pm_RF, M)) rfl ?_
  refine R_pk [0, 1, 2, 3] rfl ?_
  refine R_bind (ok_Q_spreads_87_113_L2 G pm_F x2 0 M) ?_
  intro e1228 q_ hq_
  obtain rfl : q_ = (128, [], [], 119, pm_RF, e1228) := hq_
  exact R_end (v := none) rfl rfl rfl rfl
theorem ok_Q_laysRest_L2 (G : pm_G)    : ∀ (n_ : Nat) (y1 : Int) (M : pm_M), pm_R G mt_Q_laysRest 5 (2, [(0, .inr (.inr (1, 87))), (1, .inl y1)], [], 119, pm_RF, M) (f_Q_laysRest_L2 n_ y1 M) (fun e_ q_ => q_ = (26, [(0, .inr (.inr (1, 87)))], [], 119, pm_RF, e_)) := by
  have ho : pm_oG G mt_Q_laysRest := (oa_Q_laysRest).g G
  intro n_
  induction n_ with
  | zero => intro _ _; exact R_none
  | succ n_ ih_ =>
    intro y1 M
    rw [f_Q_laysRest_L2]
    refine R_st ho 2 (q' := (6, [(0, .inr (.inr (1, 87))), (1, .inl y1)], [.inl 7776, .inl y1], 119, pm_RF, M)) rfl ?_
    refine R_ic ho rfl (tgt := 26) rfl ?_
    refine R_ge ?_ ?_
    · refine R_pk [0] rfl ?_
      exact R_ret rfl
    · refine R_st ho 6 (q' := (19, [(0, .inr (.inr (1, 87))), (1, .inl y1)], [.inl 0, .inl (i_ad 62208 y1), .inr (.inr (20, 113))], 119, pm_RF, M)) rfl ?_
      refine R_iast ho rfl rfl ?_
      refine R_nm fun M1216 => ?_
      refine R_st ho 2 (q' := (2, [(1, .inl (i_ad y1 1)), (0, .inr (.inr (1, 87)))], [], 119, pm_RF, M1216)) rfl ?_
      refine R_pk [0, 1] rfl ?_
      exact ih_ (i_ad y1 1) M1216
theorem ok_Q_laysRest_L41 (G : pm_G)    : ∀ (n_ : Nat) (y1 : Int) (y2 : Int) (y3 : Int) (M : pm_M), pm_R G mt_Q_laysRest 5 (41, [(0, .inr (.inr (1, 87))), (1, .inl y1), (2, .inl y2), (3, .inl y3)], [], 119, pm_RF, M) (f_Q_laysRest_L41 n_ y1 y2 y3 M) (fun e_ q_ => q_ = (110, [(0, .inr (.inr (1, 87))), (1, .inl e_.1), (2, .inl e_.2.1)], [], 119, pm_RF, e_.2.2)) := by
  have ho : pm_oG G mt_Q_laysRest := (oa_Q_laysRest).g G
  intro n_
  induction n_ with
  | zero => intro _ _ _ _; exact R_none
  | succ n_ ih_ =>
    intro y1 y2 y3 M
    rw [f_Q_laysRest_L41]
    refine R_st ho 2 (q' := (45, [(0, .inr (.inr (1, 87))), (1, .inl y1), (2, .inl y2), (3, .inl y3)], [.inl 7776, .inl y3], 119, pm_RF, M)) rfl ?_
    refine R_ic ho rfl (tgt := 110) rfl ?_
    refine R_ge ?_ ?_
    · refine R_pk [0, 1, 2] rfl ?_
      exact R_ret rfl
    · refine R_st ho 7 (q' := (59, [(0, .inr (.inr (1, 87))), (1, .inl y1), (2, .inl y2), (3, .inl y3)], [.inl (i_ad (i_ad y2 7776) y3), .inr (.inr (20, 112))], 119, pm_RF, M)) rfl ?_
      refine R_iald ho rfl rfl ?_
      refine R_st ho 1 (q' := (63, [(0, .inr (.inr (1, 87))), (1, .inl y1), (2, .inl y2), (3, .inl y3)], [.inl 100000, .inl (M 112 ((i_ad (i_ad y2 7776) y3)).toNat)], 119, pm_RF, M)) rfl ?_
      refine R_ic ho rfl (tgt := 70) rfl ?_
      refine R_ge ?_ ?_
      · refine R_st ho 10 (q' := (103, [(4, .inl 0), (0, .inr (.inr (1, 87))), (1, .inl y1), (2, .inl y2), (3, .inl y3)], [.inl 100000, .inl (i_ad y2 y3), .inr (.inr (20, 113))], 119, pm_RF, M)) rfl ?_
        refine R_iast ho rfl rfl ?_
        refine R_nm fun M1218 => ?_
        refine R_st ho 2 (q' := (41, [(3, .inl (i_ad y3 1)), (4, .inl 0), (0, .inr (.inr (1, 87))), (1, .inl y1), (2, .inl y2)], [], 119, pm_RF, M1218)) rfl ?_
        refine R_pk [0, 1, 2, 3] rfl ?_
        exact ih_ y1 y2 (i_ad y3 1) M1218
      · refine R_st ho 17 (q' := (96, [(4, .inl 1), (0, .inr (.inr (1, 87))), (1, .inl y1), (2, .inl y2), (3, .inl y3)], [.inl (i_ad (i_ad y2 7776) y3), .inr (.inr (20, 113)), .inl (i_ad y2 y3), .inr (.inr (20, 113))], 119, pm_RF, M)) rfl ?_
        refine R_iald ho rfl rfl ?_
        refine R_st ho 1 (q' := (103, [(4, .inl 1), (0, .inr (.inr (1, 87))), (1, .inl y1), (2, .inl y2), (3, .inl y3)], [.inl (M 113 ((i_ad (i_ad y2 7776) y3)).toNat), .inl (i_ad y2 y3), .inr (.inr (20, 113))], 119, pm_RF, M)) rfl ?_
        refine R_iast ho rfl rfl ?_
        refine R_nm fun M1219 => ?_
        refine R_st ho 2 (q' := (41, [(3, .inl (i_ad y3 1)), (4, .inl 1), (0, .inr (.inr (1, 87))), (1, .inl y1), (2, .inl y2)], [], 119, pm_RF, M1219)) rfl ?_
        refine R_pk [0, 1, 2, 3] rfl ?_
        exact ih_ y1 y2 (i_ad y3 1) M1219
theorem ok_Q_laysRest_L29 (G : pm_G)    : ∀ (n_ : Nat) (y1 : Int) (M : pm_M), pm_R G mt_Q_laysRest 5 (29, [(0, .inr (.inr (1, 87))), (1, .inl y1)], [], 119, pm_RF, M) (f_Q_laysRest_L29 n_ y1 M) (fun e_ q_ => q_ = (125, [], [], 119, pm_RF, e_)) := by
  have ho : pm_oG G mt_Q_laysRest := (oa_Q_laysRest).g G
  intro n_
  induction n_ with
  | zero => intro _ _; exact R_none
  | succ n_ ih_ =>
    intro y1 M
    rw [f_Q_laysRest_L29]
    refine R_st ho 1 (q' := (30, [(0, .inr (.inr (1, 87))), (1, .inl y1)], [.inl y1], 119, pm_RF, M)) rfl ?_
    refine R_if ho rfl (tgt := 125) rfl ?_
    refine R_lt ?_ ?_
    · refine R_pk [] rfl ?_
      exact R_ret rfl
    · refine R_st ho 6 (q' := (41, [(3, .inl 0), (2, .inl (i_ml 7776 y1)), (0, .inr (.inr (1, 87))), (1, .inl y1)], [], 119, pm_RF, M)) rfl ?_
      refine R_pk [0, 1, 2, 3] rfl ?_
      refine R_bind (ok_Q_laysRest_L41 G pm_F y1 (i_ml 7776 y1) 0 M) ?_
      intro e1220 q_ hq_
      obtain rfl : q_ = (110, [(0, .inr (.inr (1, 87))), (1, .inl e1220.1), (2, .inl e1220.2.1)], [], 119, pm_RF, e1220.2.2) := hq_
      refine R_st ho 4 (q' := (116, [(0, .inr (.inr (1, 87))), (1, .inl e1220.1), (2, .inl e1220.2.1)], [.inl e1220.2.1, .inr (.inr (20, 113)), .inr (.inr (1, 87))], 119, pm_RF, e1220.2.2)) rfl ?_
      refine R_callV ho mv_Q_spreads lk_1_394 rfl (As := [.inr (.inr (20, 113)), .inl e1220.2.1]) (kd := 1) (a := 87) (st := []) rfl rfl (Nat.le_of_ble_eq_true rfl) rfl (by decide) (Nat.le_of_ble_eq_true rfl) (ok_Q_spreads_87_113 G e1220.2.1 e1220.2.2 ) (fun M1229 => ?_)
      show pm_R _ _ _ (119, [(0, .inr (.inr (1, 87))), (1, .inl e1220.1), (2, .inl e1220.2.1)], [], 119, pm_RF, M1229) _ _
      refine R_st ho 2 (q' := (29, [(1, .inl (i_ad e1220.1 (-1))), (0, .inr (.inr (1, 87))), (2, .inl e1220.2.1)], [], 119, pm_RF, M1229)) rfl ?_
      refine R_pk [0, 1] rfl ?_
      exact ih_ (i_ad e1220.1 (-1)) M1229
theorem ok_Q_laysRest (G : pm_G)  (M : pm_M)  : pm_R G mt_Q_laysRest 5 (0, [(0, .inr (.inr (1, 87)))], [], 119, pm_RF, M) (f_Q_laysRest M) (pm_Zr mt_Q_laysRest pm_gV) := by
  have ho : pm_oG G mt_Q_laysRest := (oa_Q_laysRest).g G
  unfold f_Q_laysRest
  refine R_st ho 2 (q' := (2, [(1, .inl 0), (0, .inr (.inr (1, 87)))], [], 119, pm_RF, M)) rfl ?_
  refine R_pk [0, 1] rfl ?_
  refine R_bind (ok_Q_laysRest_L2 G pm_F 0 M) ?_
  intro e1217 q_ hq_
  obtain rfl : q_ = (26, [(0, .inr (.inr (1, 87)))], [], 119, pm_RF, e1217) := hq_
  refine R_st ho 2 (q' := (29, [(1, .inl 7), (0, .inr (.inr (1, 87)))], [], 119, pm_RF, e1217)) rfl ?_
  refine R_pk [0, 1] rfl ?_
  refine R_bind (ok_Q_laysRest_L29 G pm_F 7 e1217) ?_
  intro e1230 q_ hq_
  obtain rfl : q_ = (125, [], [], 119, pm_RF, e1230) := hq_
  exact R_end (v := none) rfl rfl rfl rfl
theorem ok_Q_who_L52 (G : pm_G)   (M : pm_M) : ∀ (n_ : Nat) (y1 : Int) (y2 : Int) (y3 : Int) (y4 : Int) (y5 : Int), pm_R G mt_Q_who 6 (52, [(0, .inr (.inr (1, 87))), (1, .inl y1), (2, .inl y2), (3, .inl y3), (4, .inl y4), (5, .inl y5)], [], 119, pm_RF, M) (f_Q_who_L52 M n_ y1 y2 y3 y4 y5) (fun e_ q_ => q_ = (151, [(4, .inl e_)], [], 119, pm_RF, M)) := by
  have ho : pm_oG G mt_Q_who := (oa_Q_who).g G
  intro n_
  induction n_ with
  | zero => intro _ _ _ _ _; exact R_none
  | succ n_ ih_ =>
    intro y1 y2 y3 y4 y5
    rw [f_Q_who_L52]
    refine R_st ho 2 (q' := (57, [(0, .inr (.inr (1, 87))), (1, .inl y1), (2, .inl y2), (3, .inl y3), (4, .inl y4), (5, .inl y5)], [.inl 7776, .inl y5], 119, pm_RF, M)) rfl ?_
    refine R_ic ho rfl (tgt := 151) rfl ?_
    refine R_ge ?_ ?_
    · refine R_pk [4] rfl ?_
      exact R_ret rfl
    · refine R_st ho 7 (q' := (72, [(0, .inr (.inr (1, 87))), (1, .inl y1), (2, .inl y2), (3, .inl y3), (4, .inl y4), (5, .inl y5)], [.inl (i_ad (i_ml 7776 y1) y5), .inr (.inr (20, 112))], 119, pm_RF, M)) rfl ?_
      refine R_iald ho rfl rfl ?_
      refine R_st ho 1 (q' := (76, [(0, .inr (.inr (1, 87))), (1, .inl y1), (2, .inl y2), (3, .inl y3), (4, .inl y4), (5, .inl y5)], [.inl 100000, .inl (M 112 ((i_ad (i_ml 7776 y1) y5)).toNat)], 119, pm_RF, M)) rfl ?_
      refine R_ic ho rfl (tgt := 145) rfl ?_
      refine R_ge ?_ ?_
      · refine R_st ho 2 (q' := (52, [(5, .inl (i_ad y5 1)), (0, .inr (.inr (1, 87))), (1, .inl y1), (2, .inl y2), (3, .inl y3), (4, .inl y4)], [], 119, pm_RF, M)) rfl ?_
        refine R_pk [0, 1, 2, 3, 4, 5] rfl ?_
        exact ih_ y1 y2 y3 y4 (i_ad y5 1)
      · refine R_st ho 7 (q' := (91, [(0, .inr (.inr (1, 87))), (1, .inl y1), (2, .inl y2), (3, .inl y3), (4, .inl y4), (5, .inl y5)], [.inl (i_ad (i_ml 7776 y1) y5), .inr (.inr (20, 112))], 119, pm_RF, M)) rfl ?_
        refine R_iald ho rfl rfl ?_
        refine R_st ho 7 (q' := (104, [(0, .inr (.inr (1, 87))), (1, .inl y1), (2, .inl y2), (3, .inl y3), (4, .inl y4), (5, .inl y5)], [.inl (i_ad (i_ml 7776 y1) y5), .inr (.inr (20, 113)), .inl (M 112 ((i_ad (i_ml 7776 y1) y5)).toNat)], 119, pm_RF, M)) rfl ?_
        refine R_iald ho rfl rfl ?_
        refine R_st ho 2 (q' := (107, [(0, .inr (.inr (1, 87))), (1, .inl y1), (2, .inl y2), (3, .inl y3), (4, .inl y4), (5, .inl y5)], [.inl y3, .inl (i_ad (M 112 ((i_ad (i_ml 7776 y1) y5)).toNat) (M 113 ((i_ad (i_ml 7776 y1) y5)).toNat))], 119, pm_RF, M)) rfl ?_
        refine R_ic ho rfl (tgt := 145) rfl ?_
        refine R_ne ?_ ?_
        · refine R_st ho 2 (q' := (113, [(0, .inr (.inr (1, 87))), (1, .inl y1), (2, .inl y2), (3, .inl y3), (4, .inl y4), (5, .inl y5)], [.inl y2, .inl y5], 119, pm_RF, M)) rfl ?_
          refine R_callS ho ms_Q_at6 lk_1_381 rfl (As := [.inl y5, .inl y2]) (st := []) rfl (Nat.le_of_ble_eq_true rfl) rfl (by decide) (Nat.le_of_ble_eq_true rfl) (ok_Q_at6 G y5 y2 M ) (fun r1232 => ?_)
          show pm_R _ _ _ (116, [(0, .inr (.inr (1, 87))), (1, .inl y1), (2, .inl y2), (3, .inl y3), (4, .inl y4), (5, .inl y5)], [.inl r1232], 119, pm_RF, M) _ _
          refine R_st ho 3 (q' := (122, [(6, .inl r1232), (0, .inr (.inr (1, 87))), (1, .inl y1), (2, .inl y2), (3, .inl y3), (4, .inl y4), (5, .inl y5)], [.inl r1232, .inl y4], 119, pm_RF, M)) rfl ?_
          refine R_if ho rfl (tgt := 131) rfl ?_
          refine R_ne ?_ ?_
          · refine R_st ho 6 (q' := (52, [(5, .inl (i_ad y5 1)), (4, .inl (i_or y4 4096)), (6, .inl r1232), (0, .inr (.inr (1, 87))), (1, .inl y1), (2, .inl y2), (3, .inl y3)], [], 119, pm_RF, M)) rfl ?_
            refine R_pk [0, 1, 2, 3, 4, 5] rfl ?_
            exact ih_ y1 y2 y3 (i_or y4 4096) (i_ad y5 1)
          · refine R_st ho 6 (q' := (140, [(6, .inl r1232), (0, .inr (.inr (1, 87))), (1, .inl y1), (2, .inl y2), (3, .inl y3), (4, .inl y4), (5, .inl y5)], [.inl (i_sb r1232 1), .inr (.inr (20, 114)), .inl 1, .inl y4], 119, pm_RF, M)) rfl ?_
            refine R_iald ho rfl rfl ?_
            refine R_st ho 3 (q' := (145, [(4, .inl (i_or y4 (i_sl 1 (M 114 ((i_sb r1232 1)).toNat)))), (6, .inl r1232), (0, .inr (.inr (1, 87))), (1, .inl y1), (2, .inl y2), (3, .inl y3), (5, .inl y5)], [], 119, pm_RF, M)) rfl ?_
            refine R_nx (fun z_ => (145, [(4, .inl z_), (6, .inl r1232), (0, .inr (.inr (1, 87))), (1, .inl y1), (2, .inl y2), (3, .inl y3), (5, .inl y5)], [], 119, pm_RF, M)) fun v1233 => ?_
            refine R_st ho 2 (q' := (52, [(5, .inl (i_ad y5 1)), (4, .inl v1233), (6, .inl r1232), (0, .inr (.inr (1, 87))), (1, .inl y1), (2, .inl y2), (3, .inl y3)], [], 119, pm_RF, M)) rfl ?_
            refine R_pk [0, 1, 2, 3, 4, 5] rfl ?_
            exact ih_ y1 y2 y3 v1233 (i_ad y5 1)
        · refine R_st ho 2 (q' := (52, [(5, .inl (i_ad y5 1)), (0, .inr (.inr (1, 87))), (1, .inl y1), (2, .inl y2), (3, .inl y3), (4, .inl y4)], [], 119, pm_RF, M)) rfl ?_
          refine R_pk [0, 1, 2, 3, 4, 5] rfl ?_
          exact ih_ y1 y2 y3 y4 (i_ad y5 1)
theorem ok_Q_who (G : pm_G) (x1 : Int) (x2 : Int) (M : pm_M)  : pm_R G mt_Q_who 6 (0, [(0, .inr (.inr (1, 87))), (1, .inl x1), (2, .inl x2)], [], 119, pm_RF, M) (f_Q_who x1 x2 M) (pm_Zr mt_Q_who pm_gI) := by
  have ho : pm_oG G mt_Q_who := (oa_Q_who).g G
  unfold f_Q_who
  refine R_st ho 3 (q' := (4, [(0, .inr (.inr (1, 87))), (1, .inl x1), (2, .inl x2)], [.inl 8, .inl 0, .inl x1], 119, pm_RF, M)) rfl ?_
  refine R_callS ho ms_Q_in lk_1_118 rfl (As := [.inl x1, .inl 0, .inl 8]) (st := []) rfl (Nat.le_of_ble_eq_true rfl) rfl (by decide) (Nat.le_of_ble_eq_true rfl) (ok_Q_in G x1 0 8 M ) (fun r1213 => ?_)
  show pm_R _ _ _ (7, [(0, .inr (.inr (1, 87))), (1, .inl x1), (2, .inl x2)], [.inl r1213], 119, pm_RF, M) _ _
  refine R_if ho rfl (tgt := 28) rfl ?_
  refine R_eq ?_ ?_
  · refine R_st ho 1 (q' := (29, [(0, .inr (.inr (1, 87))), (1, .inl x1), (2, .inl x2)], [.inl (-1)], 119, pm_RF, M)) rfl ?_
    exact R_end (v := some (.inl (-1))) rfl (Or.inl rfl) rfl rfl
  · refine R_st ho 2 (q' := (12, [(0, .inr (.inr (1, 87))), (1, .inl x1), (2, .inl x2)], [.inl x2, .inr (.inr (1, 87))], 119, pm_RF, M)) rfl ?_
    refine R_callV ho mv_Q_isPlinth lk_1_126 rfl (As := [.inl x2]) (kd := 1) (a := 87) (st := []) rfl rfl (Nat.le_of_ble_eq_true rfl) rfl (by decide) (Nat.le_of_ble_eq_true rfl) (ok_Q_isPlinth G x2 M ) (fun r1214 => ?_)
    show pm_R _ _ _ (15, [(0, .inr (.inr (1, 87))), (1, .inl x1), (2, .inl x2)], [.inl r1214], 119, pm_RF, M) _ _
    refine R_if ho rfl (tgt := 28) rfl ?_
    refine R_eq ?_ ?_
    · refine R_st ho 1 (q' := (29, [(0, .inr (.inr (1, 87))), (1, .inl x1), (2, .inl x2)], [.inl (-1)], 119, pm_RF, M)) rfl ?_
      exact R_end (v := some (.inl (-1))) rfl (Or.inl rfl) rfl rfl
    · refine R_st ho 5 (q' := (25, [(0, .inr (.inr (1, 87))), (1, .inl x1), (2, .inl x2)], [.inl 5, .inl (M 88 0)], 119, pm_RF, M)) rfl ?_
      refine R_ic ho rfl (tgt := 30) rfl ?_
      refine R_le ?_ ?_
      · refine R_st ho 1 (q' := (31, [(0, .inr (.inr (1, 87))), (1, .inl x1), (2, .inl x2)], [.inr (.inr (1, 87))], 119, pm_RF, M)) rfl ?_
        refine R_callV ho mv_Q_laysHistories lk_1_402 rfl (As := []) (kd := 1) (a := 87) (st := []) rfl rfl (Nat.le_of_ble_eq_true rfl) rfl (by decide) (Nat.le_of_ble_eq_true rfl) (ok_Q_laysHistories G  M ) (fun r1215 => ?_)
        show pm_R _ _ _ (34, [(0, .inr (.inr (1, 87))), (1, .inl x1), (2, .inl x2)], [.inl r1215.1], 119, pm_RF, r1215.2) _ _
        refine R_st ho 3 (q' := (37, [(3, .inl r1215.1), (0, .inr (.inr (1, 87))), (1, .inl x1), (2, .inl x2)], [.inl (-1), .inl r1215.1], 119, pm_RF, r1215.2)) rfl ?_
        refine R_ic ho rfl (tgt := 42) rfl ?_
        refine R_ne ?_ ?_
        · refine R_st ho 1 (q' := (41, [(3, .inl r1215.1), (0, .inr (.inr (1, 87))), (1, .inl x1), (2, .inl x2)], [.inl (-1)], 119, pm_RF, r1215.2)) rfl ?_
          exact R_end (v := some (.inl (-1))) rfl (Or.inl rfl) rfl rfl
        · refine R_st ho 1 (q' := (43, [(3, .inl r1215.1), (0, .inr (.inr (1, 87))), (1, .inl x1), (2, .inl x2)], [.inr (.inr (1, 87))], 119, pm_RF, r1215.2)) rfl ?_
          refine R_callV ho mv_Q_laysRest lk_1_405 rfl (As := []) (kd := 1) (a := 87) (st := []) rfl rfl (Nat.le_of_ble_eq_true rfl) rfl (by decide) (Nat.le_of_ble_eq_true rfl) (ok_Q_laysRest G  r1215.2 ) (fun M1231 => ?_)
          show pm_R _ _ _ (46, [(3, .inl r1215.1), (0, .inr (.inr (1, 87))), (1, .inl x1), (2, .inl x2)], [], 119, pm_RF, M1231) _ _
          refine R_st ho 4 (q' := (52, [(5, .inl 0), (4, .inl 0), (3, .inl r1215.1), (0, .inr (.inr (1, 87))), (1, .inl x1), (2, .inl x2)], [], 119, pm_RF, M1231)) rfl ?_
          refine R_pk [0, 1, 2, 3, 4, 5] rfl ?_
          refine R_bind (ok_Q_who_L52 G M1231 pm_F x1 x2 r1215.1 0 0) ?_
          intro e1234 q_ hq_
          obtain rfl : q_ = (151, [(4, .inl e1234)], [], 119, pm_RF, M1231) := hq_
          refine R_st ho 1 (q' := (153, [(4, .inl e1234)], [.inl e1234], 119, pm_RF, M1231)) rfl ?_
          exact R_end (v := some (.inl e1234)) rfl (Or.inl rfl) rfl rfl
      · refine R_st ho 1 (q' := (29, [(0, .inr (.inr (1, 87))), (1, .inl x1), (2, .inl x2)], [.inl (-1)], 119, pm_RF, M)) rfl ?_
        exact R_end (v := some (.inl (-1))) rfl (Or.inl rfl) rfl rfl
