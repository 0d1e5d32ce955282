/-! printed by my own program: functions of the pure memory, and that the code follows them -/
theorem ok_Q_stood (G : pm_G) (x1 : Int) (x2 : Int) (M : pm_M)  : pm_R G mt_Q_stood 3 (0, [(0, .inr (.inr (1, 87))), (1, .inl x1), (2, .inl x2)], [], 119, pm_RF, M) (f_Q_stood x1 x2 M) (pm_Zr mt_Q_stood (pm_gi M)) := by
  have ho : pm_oG G mt_Q_stood := (oa_Q_stood).g G
  unfold f_Q_stood
  refine R_st ho 2 (q' := (2, [(0, .inr (.inr (1, 87))), (1, .inl x1), (2, .inl x2)], [.inl x1, .inr (.inr (1, 87))], 119, pm_RF, M)) rfl ?_
  refine R_callV ho mv_Q_isHead lk_1_122 rfl (As := [.inl x1]) (kd := 1) (a := 87) (st := []) rfl rfl (Nat.le_of_ble_eq_true rfl) rfl (by decide) (Nat.le_of_ble_eq_true rfl) (ok_Q_isHead G x1 M ) (fun r1235 => ?_)
  show pm_R _ _ _ (5, [(0, .inr (.inr (1, 87))), (1, .inl x1), (2, .inl x2)], [.inl r1235], 119, pm_RF, M) _ _
  refine R_if ho rfl (tgt := 37) rfl ?_
  refine R_eq ?_ ?_
  · refine R_st ho 1 (q' := (38, [(0, .inr (.inr (1, 87))), (1, .inl x1), (2, .inl x2)], [.inl (-1)], 119, pm_RF, M)) rfl ?_
    exact R_end (v := some (.inl (-1))) rfl (Or.inl rfl) rfl rfl
  · refine R_st ho 3 (q' := (12, [(0, .inr (.inr (1, 87))), (1, .inl x1), (2, .inl x2)], [.inl 11, .inl (-1), .inl x2], 119, pm_RF, M)) rfl ?_
    refine R_callS ho ms_Q_in lk_1_118 rfl (As := [.inl x2, .inl (-1), .inl 11]) (st := []) rfl (Nat.le_of_ble_eq_true rfl) rfl (by decide) (Nat.le_of_ble_eq_true rfl) (ok_Q_in G x2 (-1) 11 M ) (fun r1236 => ?_)
    show pm_R _ _ _ (15, [(0, .inr (.inr (1, 87))), (1, .inl x1), (2, .inl x2)], [.inl r1236], 119, pm_RF, M) _ _
    refine R_if ho rfl (tgt := 37) rfl ?_
    refine R_eq ?_ ?_
    · refine R_st ho 1 (q' := (38, [(0, .inr (.inr (1, 87))), (1, .inl x1), (2, .inl x2)], [.inl (-1)], 119, pm_RF, M)) rfl ?_
      exact R_end (v := some (.inl (-1))) rfl (Or.inl rfl) rfl rfl
    · refine R_st ho 11 (q' := (33, [(0, .inr (.inr (1, 87))), (1, .inl x1), (2, .inl x2)], [.inl (i_ad (i_ad (i_ad 100 (i_ml 13 x1)) x2) 1), .inr (.inr (20, 88))], 119, pm_RF, M)) rfl ?_
      refine R_iald ho rfl rfl ?_
      refine R_st ho 1 (q' := (38, [(0, .inr (.inr (1, 87))), (1, .inl x1), (2, .inl x2)], [.inl (M 88 ((i_ad (i_ad (i_ad 100 (i_ml 13 x1)) x2) 1)).toNat)], 119, pm_RF, M)) rfl ?_
      exact R_end (v := some (.inl (M 88 ((i_ad (i_ad (i_ad 100 (i_ml 13 x1)) x2) 1)).toNat))) rfl (Or.inl rfl) rfl rfl
theorem ok_Q_longest_L19 (G : pm_G)   (M : pm_M) : ∀ (n_ : Nat) (y1 : Int) (y2 : Int) (y3 : Int) (y4 : Int), pm_R G mt_Q_longest 2 (19, [(0, .inr (.inr (1, 87))), (1, .inl y1), (2, .inl y2), (3, .inl y3), (4, .inl y4)], [], 119, pm_RF, M) (f_Q_longest_L19 M n_ y1 y2 y3 y4) (fun e_ q_ => q_ = (67, [(2, .inl e_)], [], 119, pm_RF, M)) := by
  have ho : pm_oG G mt_Q_longest := (oa_Q_longest).g G
  intro n_
  induction n_ with
  | zero => intro _ _ _ _; exact R_none
  | succ n_ ih_ =>
    intro y1 y2 y3 y4
    rw [f_Q_longest_L19]
    refine R_st ho 5 (q' := (27, [(0, .inr (.inr (1, 87))), (1, .inl y1), (2, .inl y2), (3, .inl y3), (4, .inl y4)], [.inl (M 88 1), .inl y4], 119, pm_RF, M)) rfl ?_
    refine R_ic ho rfl (tgt := 67) rfl ?_
    refine R_ge ?_ ?_
    · refine R_pk [2] rfl ?_
      exact R_ret rfl
    · refine R_st ho 11 (q' := (46, [(0, .inr (.inr (1, 87))), (1, .inl y1), (2, .inl y2), (3, .inl y3), (4, .inl y4)], [.inl (i_ad (i_ad (i_ad 100 (i_ml 13 y4)) y1) 1), .inr (.inr (20, 88))], 119, pm_RF, M)) rfl ?_
      refine R_iald ho rfl rfl ?_
      refine R_st ho 1 (q' := (49, [(5, .inl (M 88 ((i_ad (i_ad (i_ad 100 (i_ml 13 y4)) y1) 1)).toNat)), (0, .inr (.inr (1, 87))), (1, .inl y1), (2, .inl y2), (3, .inl y3), (4, .inl y4)], [], 119, pm_RF, M)) rfl ?_
      refine R_nx (fun z_ => (49, [(5, .inl z_), (0, .inr (.inr (1, 87))), (1, .inl y1), (2, .inl y2), (3, .inl y3), (4, .inl y4)], [], 119, pm_RF, M)) fun v1238 => ?_
      refine R_st ho 2 (q' := (52, [(5, .inl v1238), (0, .inr (.inr (1, 87))), (1, .inl y1), (2, .inl y2), (3, .inl y3), (4, .inl y4)], [.inl y3, .inl v1238], 119, pm_RF, M)) rfl ?_
      refine R_ic ho rfl (tgt := 61) rfl ?_
      refine R_le ?_ ?_
      · refine R_st ho 2 (q' := (19, [(4, .inl (i_ad y4 1)), (5, .inl v1238), (0, .inr (.inr (1, 87))), (1, .inl y1), (2, .inl y2), (3, .inl y3)], [], 119, pm_RF, M)) rfl ?_
        refine R_pk [0, 1, 2, 3, 4] rfl ?_
        exact ih_ y1 y2 y3 (i_ad y4 1)
      · refine R_st ho 6 (q' := (19, [(4, .inl (i_ad y4 1)), (2, .inl y4), (3, .inl v1238), (5, .inl v1238), (0, .inr (.inr (1, 87))), (1, .inl y1)], [], 119, pm_RF, M)) rfl ?_
        refine R_pk [0, 1, 2, 3, 4] rfl ?_
        exact ih_ y1 y4 v1238 (i_ad y4 1)
theorem ok_Q_longest (G : pm_G) (x1 : Int) (M : pm_M)  : pm_R G mt_Q_longest 2 (0, [(0, .inr (.inr (1, 87))), (1, .inl x1)], [], 119, pm_RF, M) (f_Q_longest x1 M) (pm_Zr mt_Q_longest (pm_gi M)) := by
  have ho : pm_oG G mt_Q_longest := (oa_Q_longest).g G
  unfold f_Q_longest
  refine R_st ho 3 (q' := (4, [(0, .inr (.inr (1, 87))), (1, .inl x1)], [.inl 11, .inl (-1), .inl x1], 119, pm_RF, M)) rfl ?_
  refine R_callS ho ms_Q_in lk_1_118 rfl (As := [.inl x1, .inl (-1), .inl 11]) (st := []) rfl (Nat.le_of_ble_eq_true rfl) rfl (by decide) (Nat.le_of_ble_eq_true rfl) (ok_Q_in G x1 (-1) 11 M ) (fun r1237 => ?_)
  show pm_R _ _ _ (7, [(0, .inr (.inr (1, 87))), (1, .inl x1)], [.inl r1237], 119, pm_RF, M) _ _
  refine R_if ho rfl (tgt := 12) rfl ?_
  refine R_ne ?_ ?_
  · refine R_st ho 1 (q' := (11, [(0, .inr (.inr (1, 87))), (1, .inl x1)], [.inl (-1)], 119, pm_RF, M)) rfl ?_
    exact R_end (v := some (.inl (-1))) rfl (Or.inl rfl) rfl rfl
  · refine R_st ho 6 (q' := (19, [(4, .inl 0), (3, .inl 0), (2, .inl (-1)), (0, .inr (.inr (1, 87))), (1, .inl x1)], [], 119, pm_RF, M)) rfl ?_
    refine R_pk [0, 1, 2, 3, 4] rfl ?_
    refine R_bind (ok_Q_longest_L19 G M pm_F x1 (-1) 0 0) ?_
    intro e1239 q_ hq_
    obtain rfl : q_ = (67, [(2, .inl e1239)], [], 119, pm_RF, M) := hq_
    refine R_st ho 1 (q' := (68, [(2, .inl e1239)], [.inl e1239], 119, pm_RF, M)) rfl ?_
    exact R_end (v := some (.inl e1239)) rfl (Or.inl rfl) rfl rfl
theorem ok_Q_asksTour_L12 (G : pm_G)    : ∀ (n_ : Nat) (y1 : Int) (y2 : Int) (M : pm_M), pm_R G mt_Q_asksTour 2 (12, [(0, .inr (.inr (1, 87))), (1, .inl y1), (2, .inl y2)], [], 119, pm_RF, M) (f_Q_asksTour_L12 n_ y1 y2 M) (fun e_ q_ => q_ = (85, [], [], 119, pm_RF, e_)) := by
  have ho : pm_oG G mt_Q_asksTour := (oa_Q_asksTour).g G
  intro n_
  induction n_ with
  | zero => intro _ _ _; exact R_none
  | succ n_ ih_ =>
    intro y1 y2 M
    rw [f_Q_asksTour_L12]
    refine R_st ho 2 (q' := (14, [(0, .inr (.inr (1, 87))), (1, .inl y1), (2, .inl y2)], [.inl y1, .inl y2], 119, pm_RF, M)) rfl ?_
    refine R_ic ho rfl (tgt := 85) rfl ?_
    refine R_ge ?_ ?_
    · refine R_pk [] rfl ?_
      exact R_ret rfl
    · refine R_st ho 10 (q' := (34, [(0, .inr (.inr (1, 87))), (1, .inl y1), (2, .inl y2)], [.inl y2, .inr (.inr (20, 115)), .inl 4, .inl 10, .inr (.inr (20, 88)), .inl (M 87 47), .inr (.inr (1, 87))], 119, pm_RF, M)) rfl ?_
      refine R_iald ho rfl rfl ?_
      refine R_st ho 4 (q' := (39, [(0, .inr (.inr (1, 87))), (1, .inl y1), (2, .inl y2)], [.inl (i_ad (i_ad 10 (i_ml 4 (M 115 (y2).toNat))) 3), .inr (.inr (20, 88)), .inl (M 87 47), .inr (.inr (1, 87))], 119, pm_RF, M)) rfl ?_
      refine R_iald ho rfl rfl ?_
      refine R_st ho 2 (q' := (44, [(0, .inr (.inr (1, 87))), (1, .inl y1), (2, .inl y2)], [], 119, pm_RF, (pm_ms M 87 47 (i_ad (M 87 47) (M 88 ((i_ad (i_ad 10 (i_ml 4 (M 115 (y2).toNat))) 3)).toNat))))) rfl ?_
      refine R_nm fun M1246 => ?_
      refine R_st ho 4 (q' := (50, [(0, .inr (.inr (1, 87))), (1, .inl y1), (2, .inl y2)], [.inl y2, .inl (M1246 87 48), .inr (.inr (1, 87))], 119, pm_RF, M1246)) rfl ?_
      refine R_if ho rfl (tgt := 57) rfl ?_
      refine R_ne ?_ ?_
      · refine R_st ho 4 (q' := (79, [(0, .inr (.inr (1, 87))), (1, .inl y1), (2, .inl y2)], [], 119, pm_RF, (pm_ms M1246 87 48 (i_ad (M1246 87 48) 0)))) rfl ?_
        refine R_nm fun M1247 => ?_
        refine R_st ho 2 (q' := (12, [(2, .inl (i_ad y2 1)), (0, .inr (.inr (1, 87))), (1, .inl y1)], [], 119, pm_RF, M1247)) rfl ?_
        refine R_pk [0, 1, 2] rfl ?_
        exact ih_ y1 (i_ad y2 1) M1247
      · refine R_st ho 6 (q' := (65, [(0, .inr (.inr (1, 87))), (1, .inl y1), (2, .inl y2)], [.inl (i_sb y2 1), .inr (.inr (20, 115)), .inr (.inr (1, 87)), .inl (M1246 87 48), .inr (.inr (1, 87))], 119, pm_RF, M1246)) rfl ?_
        refine R_iald ho rfl rfl ?_
        refine R_st ho 3 (q' := (71, [(0, .inr (.inr (1, 87))), (1, .inl y1), (2, .inl y2)], [.inl y2, .inr (.inr (20, 115)), .inl (M1246 115 ((i_sb y2 1)).toNat), .inr (.inr (1, 87)), .inl (M1246 87 48), .inr (.inr (1, 87))], 119, pm_RF, M1246)) rfl ?_
        refine R_iald ho rfl rfl ?_
        refine R_callV ho mv_Q_milesOf lk_1_334 rfl (As := [.inl (M1246 115 ((i_sb y2 1)).toNat), .inl (M1246 115 (y2).toNat)]) (kd := 1) (a := 87) (st := [.inl (M1246 87 48), .inr (.inr (1, 87))]) rfl rfl (Nat.le_of_ble_eq_true rfl) rfl (by decide) (Nat.le_of_ble_eq_true rfl) (ok_Q_milesOf G (M1246 115 ((i_sb y2 1)).toNat) (M1246 115 (y2).toNat) M1246 ) (fun r1248 => ?_)
        show pm_R _ _ _ (75, [(0, .inr (.inr (1, 87))), (1, .inl y1), (2, .inl y2)], [.inl r1248, .inl (M1246 87 48), .inr (.inr (1, 87))], 119, pm_RF, M1246) _ _
        refine R_st ho 2 (q' := (79, [(0, .inr (.inr (1, 87))), (1, .inl y1), (2, .inl y2)], [], 119, pm_RF, (pm_ms M1246 87 48 (i_ad (M1246 87 48) r1248)))) rfl ?_
        refine R_nm fun M1249 => ?_
        refine R_st ho 2 (q' := (12, [(2, .inl (i_ad y2 1)), (0, .inr (.inr (1, 87))), (1, .inl y1)], [], 119, pm_RF, M1249)) rfl ?_
        refine R_pk [0, 1, 2] rfl ?_
        exact ih_ y1 (i_ad y2 1) M1249
theorem ok_Q_asksTour (G : pm_G) (x1 : Int) (M : pm_M)  : pm_R G mt_Q_asksTour 2 (0, [(0, .inr (.inr (1, 87))), (1, .inl x1)], [], 119, pm_RF, M) (f_Q_asksTour x1 M) (pm_Zr mt_Q_asksTour pm_gV) := by
  have ho : pm_oG G mt_Q_asksTour := (oa_Q_asksTour).g G
  unfold f_Q_asksTour
  refine R_st ho 3 (q' := (5, [(0, .inr (.inr (1, 87))), (1, .inl x1)], [], 119, pm_RF, (pm_ms M 87 47 0))) rfl ?_
  refine R_nm fun M1244 => ?_
  refine R_st ho 3 (q' := (10, [(0, .inr (.inr (1, 87))), (1, .inl x1)], [], 119, pm_RF, (pm_ms M1244 87 48 0))) rfl ?_
  refine R_nm fun M1245 => ?_
  refine R_st ho 2 (q' := (12, [(2, .inl 0), (0, .inr (.inr (1, 87))), (1, .inl x1)], [], 119, pm_RF, M1245)) rfl ?_
  refine R_pk [0, 1, 2] rfl ?_
  refine R_bind (ok_Q_asksTour_L12 G pm_F x1 0 M1245) ?_
  intro e1250 q_ hq_
  obtain rfl : q_ = (85, [], [], 119, pm_RF, e1250) := hq_
  exact R_end (v := none) rfl rfl rfl rfl
theorem ok_Q_keepsTour_L56 (G : pm_G)    : ∀ (n_ : Nat) (y1 : Int) (y2 : Int) (M : pm_M), pm_R G mt_Q_keepsTour 1 (56, [(0, .inr (.inr (1, 87))), (1, .inl y1), (2, .inl y2)], [], 119, pm_RF, M) (f_Q_keepsTour_L56 n_ y1 y2 M) (fun e_ q_ => q_ = (79, [], [], 119, pm_RF, e_)) := by
  have ho : pm_oG G mt_Q_keepsTour := (oa_Q_keepsTour).g G
  intro n_
  induction n_ with
  | zero => intro _ _ _; exact R_none
  | succ n_ ih_ =>
    intro y1 y2 M
    rw [f_Q_keepsTour_L56]
    refine R_st ho 2 (q' := (58, [(0, .inr (.inr (1, 87))), (1, .inl y1), (2, .inl y2)], [.inl y1, .inl y2], 119, pm_RF, M)) rfl ?_
    refine R_ic ho rfl (tgt := 79) rfl ?_
    refine R_ge ?_ ?_
    · refine R_pk [] rfl ?_
      exact R_ret rfl
    · refine R_st ho 6 (q' := (71, [(0, .inr (.inr (1, 87))), (1, .inl y1), (2, .inl y2)], [.inl y2, .inr (.inr (20, 115)), .inl y2, .inr (.inr (20, 116))], 119, pm_RF, M)) rfl ?_
      refine R_iald ho rfl rfl ?_
      refine R_iast ho rfl rfl ?_
      refine R_nm fun M1255 => ?_
      refine R_st ho 2 (q' := (56, [(2, .inl (i_ad y2 1)), (0, .inr (.inr (1, 87))), (1, .inl y1)], [], 119, pm_RF, M1255)) rfl ?_
      refine R_pk [0, 1, 2] rfl ?_
      exact ih_ y1 (i_ad y2 1) M1255
theorem ok_Q_keepsTour (G : pm_G) (x1 : Int) (M : pm_M)  : pm_R G mt_Q_keepsTour 1 (0, [(0, .inr (.inr (1, 87))), (1, .inl x1)], [], 119, pm_RF, M) (f_Q_keepsTour x1 M) (pm_Zr mt_Q_keepsTour pm_gV) := by
  have ho : pm_oG G mt_Q_keepsTour := (oa_Q_keepsTour).g G
  unfold f_Q_keepsTour
  refine R_st ho 4 (q' := (8, [(0, .inr (.inr (1, 87))), (1, .inl x1)], [.inl (M 87 50), .inl (M 87 47)], 119, pm_RF, M)) rfl ?_
  refine R_ic ho rfl (tgt := 33) rfl ?_
  refine R_gt ?_ ?_
  · refine R_st ho 4 (q' := (41, [(0, .inr (.inr (1, 87))), (1, .inl x1)], [], 119, pm_RF, (pm_ms M 87 50 (M 87 47)))) rfl ?_
    refine R_nm fun M1252 => ?_
    refine R_st ho 4 (q' := (49, [(0, .inr (.inr (1, 87))), (1, .inl x1)], [], 119, pm_RF, (pm_ms M1252 87 51 (M1252 87 48)))) rfl ?_
    refine R_nm fun M1253 => ?_
    refine R_st ho 3 (q' := (54, [(0, .inr (.inr (1, 87))), (1, .inl x1)], [], 119, pm_RF, (pm_ms M1253 87 49 x1))) rfl ?_
    refine R_nm fun M1254 => ?_
    refine R_st ho 2 (q' := (56, [(2, .inl 0), (0, .inr (.inr (1, 87))), (1, .inl x1)], [], 119, pm_RF, M1254)) rfl ?_
    refine R_pk [0, 1, 2] rfl ?_
    refine R_bind (ok_Q_keepsTour_L56 G pm_F x1 0 M1254) ?_
    intro e1256 q_ hq_
    obtain rfl : q_ = (79, [], [], 119, pm_RF, e1256) := hq_
    exact R_end (v := none) rfl rfl rfl rfl
  · refine R_st ho 4 (q' := (19, [(0, .inr (.inr (1, 87))), (1, .inl x1)], [.inl (M 87 50), .inl (M 87 47)], 119, pm_RF, M)) rfl ?_
    refine R_ic ho rfl (tgt := 79) rfl ?_
    refine R_ne ?_ ?_
    · refine R_st ho 4 (q' := (30, [(0, .inr (.inr (1, 87))), (1, .inl x1)], [.inl (M 87 51), .inl (M 87 48)], 119, pm_RF, M)) rfl ?_
      refine R_ic ho rfl (tgt := 79) rfl ?_
      refine R_ge ?_ ?_
      · exact R_end (v := none) rfl rfl rfl rfl
      · refine R_st ho 4 (q' := (41, [(0, .inr (.inr (1, 87))), (1, .inl x1)], [], 119, pm_RF, (pm_ms M 87 50 (M 87 47)))) rfl ?_
        refine R_nm fun M1257 => ?_
        refine R_st ho 4 (q' := (49, [(0, .inr (.inr (1, 87))), (1, .inl x1)], [], 119, pm_RF, (pm_ms M1257 87 51 (M1257 87 48)))) rfl ?_
        refine R_nm fun M1258 => ?_
        refine R_st ho 3 (q' := (54, [(0, .inr (.inr (1, 87))), (1, .inl x1)], [], 119, pm_RF, (pm_ms M1258 87 49 x1))) rfl ?_
        refine R_nm fun M1259 => ?_
        refine R_st ho 2 (q' := (56, [(2, .inl 0), (0, .inr (.inr (1, 87))), (1, .inl x1)], [], 119, pm_RF, M1259)) rfl ?_
        refine R_pk [0, 1, 2] rfl ?_
        refine R_bind (ok_Q_keepsTour_L56 G pm_F x1 0 M1259) ?_
        intro e1260 q_ hq_
        obtain rfl : q_ = (79, [], [], 119, pm_RF, e1260) := hq_
        exact R_end (v := none) rfl rfl rfl rfl
    · exact R_end (v := none) rfl rfl rfl rfl
theorem ok_Q_isOnWay_L5 (G : pm_G)   (M : pm_M) : ∀ (n_ : Nat) (y1 : Int) (y2 : Int) (y3 : Int) (y4 : Int), pm_R G mt_Q_isOnWay 1 (5, [(0, .inr (.inr (1, 87))), (1, .inl y1), (2, .inl y2), (3, .inl y3), (4, .inl y4)], [], 119, pm_RF, M) (f_Q_isOnWay_L5 M n_ y1 y2 y3 y4) (fun e_ q_ => q_ = (38, [(3, .inl e_)], [], 119, pm_RF, M)) := by
  have ho : pm_oG G mt_Q_isOnWay := (oa_Q_isOnWay).g G
  intro n_
  induction n_ with
  | zero => intro _ _ _ _; exact R_none
  | succ n_ ih_ =>
    intro y1 y2 y3 y4
    rw [f_Q_isOnWay_L5]
    refine R_st ho 2 (q' := (8, [(0, .inr (.inr (1, 87))), (1, .inl y1), (2, .inl y2), (3, .inl y3), (4, .inl y4)], [.inl y2, .inl y4], 119, pm_RF, M)) rfl ?_
    refine R_ic ho rfl (tgt := 38) rfl ?_
    refine R_ge ?_ ?_
    · refine R_pk [3] rfl ?_
      exact R_ret rfl
    · refine R_st ho 1 (q' := (12, [(0, .inr (.inr (1, 87))), (1, .inl y1), (2, .inl y2), (3, .inl y3), (4, .inl y4)], [.inl y3], 119, pm_RF, M)) rfl ?_
      refine R_if ho rfl (tgt := 26) rfl ?_
      refine R_ne ?_ ?_
      · refine R_st ho 3 (q' := (21, [(0, .inr (.inr (1, 87))), (1, .inl y1), (2, .inl y2), (3, .inl y3), (4, .inl y4)], [.inl y4, .inr (.inr (20, 115))], 119, pm_RF, M)) rfl ?_
        refine R_iald ho rfl rfl ?_
        refine R_st ho 1 (q' := (23, [(0, .inr (.inr (1, 87))), (1, .inl y1), (2, .inl y2), (3, .inl y3), (4, .inl y4)], [.inl y1, .inl (M 115 (y4).toNat)], 119, pm_RF, M)) rfl ?_
        refine R_ic ho rfl (tgt := 30) rfl ?_
        refine R_ne ?_ ?_
        · refine R_st ho 5 (q' := (5, [(4, .inl (i_ad y4 1)), (3, .inl 1), (0, .inr (.inr (1, 87))), (1, .inl y1), (2, .inl y2)], [], 119, pm_RF, M)) rfl ?_
          refine R_pk [0, 1, 2, 3, 4] rfl ?_
          exact ih_ y1 y2 1 (i_ad y4 1)
        · refine R_st ho 4 (q' := (5, [(4, .inl (i_ad y4 1)), (3, .inl 0), (0, .inr (.inr (1, 87))), (1, .inl y1), (2, .inl y2)], [], 119, pm_RF, M)) rfl ?_
          refine R_pk [0, 1, 2, 3, 4] rfl ?_
          exact ih_ y1 y2 0 (i_ad y4 1)
      · refine R_st ho 5 (q' := (5, [(4, .inl (i_ad y4 1)), (3, .inl 1), (0, .inr (.inr (1, 87))), (1, .inl y1), (2, .inl y2)], [], 119, pm_RF, M)) rfl ?_
        refine R_pk [0, 1, 2, 3, 4] rfl ?_
        exact ih_ y1 y2 1 (i_ad y4 1)
theorem ok_Q_isOnWay (G : pm_G) (x1 : Int) (x2 : Int) (M : pm_M)  : pm_R G mt_Q_isOnWay 1 (0, [(0, .inr (.inr (1, 87))), (1, .inl x1), (2, .inl x2)], [], 119, pm_RF, M) (f_Q_isOnWay x1 x2 M) (pm_Zr mt_Q_isOnWay (pm_gi M)) := by
  have ho : pm_oG G mt_Q_isOnWay := (oa_Q_isOnWay).g G
  unfold f_Q_isOnWay
  refine R_st ho 4 (q' := (5, [(4, .inl 0), (3, .inl 0), (0, .inr (.inr (1, 87))), (1, .inl x1), (2, .inl x2)], [], 119, pm_RF, M)) rfl ?_
  refine R_pk [0, 1, 2, 3, 4] rfl ?_
  refine R_bind (ok_Q_isOnWay_L5 G M pm_F x1 x2 0 0) ?_
  intro e1264 q_ hq_
  obtain rfl : q_ = (38, [(3, .inl e1264)], [], 119, pm_RF, M) := hq_
  refine R_st ho 1 (q' := (39, [(3, .inl e1264)], [.inl e1264], 119, pm_RF, M)) rfl ?_
  exact R_gd (fun h_ => R_end (v := some (.inl e1264)) rfl (Or.inr ⟨rfl, h_⟩) rfl rfl)
theorem ok_Q_tours_L31 (G : pm_G)    : ∀ (n_ : Nat) (y2 : Int) (y3 : Int) (M : pm_M), pm_R G mt_Q_tours 3 (31, [(0, .inr (.inr (1, 87))), (2, .inl y2), (3, .inl y3)], [], 119, pm_RF, M) (f_Q_tours_L31 n_ y2 y3 M) (fun e_ q_ => q_ = (121, [], [], 119, pm_RF, e_)) := by
  have ho : pm_oG G mt_Q_tours := (oa_Q_tours).g G
  intro n_
  induction n_ with
  | zero => intro _ _ _; exact R_none
  | succ n_ ih_ =>
    intro y2 y3 M
    rw [f_Q_tours_L31]
    refine R_st ho 1 (q' := (32, [(0, .inr (.inr (1, 87))), (2, .inl y2), (3, .inl y3)], [.inl y3], 119, pm_RF, M)) rfl ?_
    refine R_if ho rfl (tgt := 121) rfl ?_
    refine R_le ?_ ?_
    · refine R_pk [] rfl ?_
      exact R_ret rfl
    · refine R_st ho 4 (q' := (41, [(0, .inr (.inr (1, 87))), (2, .inl y2), (3, .inl y3)], [.inl y3, .inr (.inr (20, 115)), .inl y3, .inr (.inr (20, 115))], 119, pm_RF, M)) rfl ?_
      refine R_iald ho rfl rfl ?_
      refine R_st ho 2 (q' := (44, [(0, .inr (.inr (1, 87))), (2, .inl y2), (3, .inl y3)], [.inl (i_ad (M 115 (y3).toNat) 1), .inl y3, .inr (.inr (20, 115))], 119, pm_RF, M)) rfl ?_
      refine R_iast ho rfl rfl ?_
      refine R_nm fun M1263 => ?_
      refine R_st ho 3 (q' := (50, [(0, .inr (.inr (1, 87))), (2, .inl y2), (3, .inl y3)], [.inl y3, .inr (.inr (20, 115))], 119, pm_RF, M1263)) rfl ?_
      refine R_iald ho rfl rfl ?_
      refine R_st ho 4 (q' := (57, [(0, .inr (.inr (1, 87))), (2, .inl y2), (3, .inl y3)], [.inl (M1263 88 0), .inl (M1263 115 (y3).toNat)], 119, pm_RF, M1263)) rfl ?_
      refine R_ic ho rfl (tgt := 66) rfl ?_
      refine R_lt ?_ ?_
      · refine R_st ho 4 (q' := (72, [(0, .inr (.inr (1, 87))), (2, .inl y2), (3, .inl y3)], [.inl y3, .inr (.inr (20, 115)), .inr (.inr (1, 87))], 119, pm_RF, M1263)) rfl ?_
        refine R_iald ho rfl rfl ?_
        refine R_st ho 1 (q' := (74, [(0, .inr (.inr (1, 87))), (2, .inl y2), (3, .inl y3)], [.inl y3, .inl (M1263 115 (y3).toNat), .inr (.inr (1, 87))], 119, pm_RF, M1263)) rfl ?_
        refine R_callV ho mv_Q_isOnWay lk_1_429 rfl (As := [.inl (M1263 115 (y3).toNat), .inl y3]) (kd := 1) (a := 87) (st := []) rfl rfl (Nat.le_of_ble_eq_true rfl) rfl (by decide) (Nat.le_of_ble_eq_true rfl) (ok_Q_isOnWay G (M1263 115 (y3).toNat) y3 M1263 ) (fun r1265 => ?_)
        show pm_R _ _ _ (77, [(0, .inr (.inr (1, 87))), (2, .inl y2), (3, .inl y3)], [.inl r1265], 119, pm_RF, M1263) _ _
        refine R_if ho rfl (tgt := 31) rfl ?_
        refine R_ne ?_ ?_
        · refine R_st ho 4 (q' := (84, [(0, .inr (.inr (1, 87))), (2, .inl y2), (3, .inl y3)], [.inl (i_ad y3 1), .inr (.inr (1, 87))], 119, pm_RF, M1263)) rfl ?_
          refine R_callV ho mv_Q_asksTour lk_1_423 rfl (As := [.inl (i_ad y3 1)]) (kd := 1) (a := 87) (st := []) rfl rfl (Nat.le_of_ble_eq_true rfl) rfl (by decide) (Nat.le_of_ble_eq_true rfl) (ok_Q_asksTour G (i_ad y3 1) M1263 ) (fun M1266 => ?_)
          show pm_R _ _ _ (87, [(0, .inr (.inr (1, 87))), (2, .inl y2), (3, .inl y3)], [], 119, pm_RF, M1266) _ _
          refine R_st ho 3 (q' := (92, [(0, .inr (.inr (1, 87))), (2, .inl y2), (3, .inl y3)], [.inl y2, .inl (M1266 87 48)], 119, pm_RF, M1266)) rfl ?_
          refine R_ic ho rfl (tgt := 31) rfl ?_
          refine R_gt ?_ ?_
          · exact ih_ y2 y3 M1266
          · refine R_st ho 4 (q' := (99, [(0, .inr (.inr (1, 87))), (2, .inl y2), (3, .inl y3)], [.inl (i_ad y3 1), .inr (.inr (1, 87))], 119, pm_RF, M1266)) rfl ?_
            refine R_callV ho mv_Q_keepsTour lk_1_426 rfl (As := [.inl (i_ad y3 1)]) (kd := 1) (a := 87) (st := []) rfl rfl (Nat.le_of_ble_eq_true rfl) rfl (by decide) (Nat.le_of_ble_eq_true rfl) (ok_Q_keepsTour G (i_ad y3 1) M1266 ) (fun M1267 => ?_)
            show pm_R _ _ _ (102, [(0, .inr (.inr (1, 87))), (2, .inl y2), (3, .inl y3)], [], 119, pm_RF, M1267) _ _
            refine R_st ho 2 (q' := (105, [(0, .inr (.inr (1, 87))), (2, .inl y2), (3, .inl y3)], [.inl 7, .inl y3], 119, pm_RF, M1267)) rfl ?_
            refine R_ic ho rfl (tgt := 31) rfl ?_
            refine R_ge ?_ ?_
            · exact ih_ y2 y3 M1267
            · refine R_st ho 5 (q' := (117, [(3, .inl (i_ad y3 1)), (0, .inr (.inr (1, 87))), (2, .inl y2)], [.inl (-1), .inl (i_ad y3 1), .inr (.inr (20, 115))], 119, pm_RF, M1267)) rfl ?_
              refine R_iast ho rfl rfl ?_
              refine R_nm fun M1268 => ?_
              refine R_st ho 1 (q' := (31, [(3, .inl (i_ad y3 1)), (0, .inr (.inr (1, 87))), (2, .inl y2)], [], 119, pm_RF, M1268)) rfl ?_
              refine R_pk [0, 2, 3] rfl ?_
              exact ih_ y2 (i_ad y3 1) M1268
        · exact ih_ y2 y3 M1263
      · refine R_st ho 2 (q' := (31, [(3, .inl (i_ad y3 (-1))), (0, .inr (.inr (1, 87))), (2, .inl y2)], [], 119, pm_RF, M1263)) rfl ?_
        refine R_pk [0, 2, 3] rfl ?_
        exact ih_ y2 (i_ad y3 (-1)) M1263
theorem ok_Q_tours (G : pm_G) (x1 : Int) (x2 : Int) (M : pm_M)  : pm_R G mt_Q_tours 3 (0, [(0, .inr (.inr (1, 87))), (1, .inl x1), (2, .inl x2)], [], 119, pm_RF, M) (f_Q_tours x1 x2 M) (pm_Zr mt_Q_tours pm_gV) := by
  have ho : pm_oG G mt_Q_tours := (oa_Q_tours).g G
  unfold f_Q_tours
  refine R_st ho 5 (q' := (7, [(0, .inr (.inr (1, 87))), (1, .inl x1), (2, .inl x2)], [], 119, pm_RF, (pm_ms M 115 0 x1))) rfl ?_
  refine R_nm fun M1242 => ?_
  refine R_st ho 3 (q' := (12, [(0, .inr (.inr (1, 87))), (1, .inl x1), (2, .inl x2)], [], 119, pm_RF, (pm_ms M1242 87 50 (-1)))) rfl ?_
  refine R_nm fun M1243 => ?_
  refine R_st ho 2 (q' := (14, [(0, .inr (.inr (1, 87))), (1, .inl x1), (2, .inl x2)], [.inl 1, .inr (.inr (1, 87))], 119, pm_RF, M1243)) rfl ?_
  refine R_callV ho mv_Q_asksTour lk_1_423 rfl (As := [.inl 1]) (kd := 1) (a := 87) (st := []) rfl rfl (Nat.le_of_ble_eq_true rfl) rfl (by decide) (Nat.le_of_ble_eq_true rfl) (ok_Q_asksTour G 1 M1243 ) (fun M1251 => ?_)
  show pm_R _ _ _ (17, [(0, .inr (.inr (1, 87))), (1, .inl x1), (2, .inl x2)], [], 119, pm_RF, M1251) _ _
  refine R_st ho 2 (q' := (19, [(0, .inr (.inr (1, 87))), (1, .inl x1), (2, .inl x2)], [.inl 1, .inr (.inr (1, 87))], 119, pm_RF, M1251)) rfl ?_
  refine R_callV ho mv_Q_keepsTour lk_1_426 rfl (As := [.inl 1]) (kd := 1) (a := 87) (st := []) rfl rfl (Nat.le_of_ble_eq_true rfl) rfl (by decide) (Nat.le_of_ble_eq_true rfl) (ok_Q_keepsTour G 1 M1251 ) (fun M1261 => ?_)
  show pm_R _ _ _ (22, [(0, .inr (.inr (1, 87))), (1, .inl x1), (2, .inl x2)], [], 119, pm_RF, M1261) _ _
  refine R_st ho 7 (q' := (31, [(3, .inl 1), (0, .inr (.inr (1, 87))), (1, .inl x1), (2, .inl x2)], [], 119, pm_RF, (pm_ms M1261 115 1 (-1)))) rfl ?_
  refine R_nm fun M1262 => ?_
  refine R_pk [0, 2, 3] rfl ?_
  refine R_bind (ok_Q_tours_L31 G pm_F x2 1 M1262) ?_
  intro e1269 q_ hq_
  obtain rfl : q_ = (121, [], [], 119, pm_RF, e1269) := hq_
  exact R_end (v := none) rfl rfl rfl rfl
theorem ok_Q_tour (G : pm_G) (x1 : Int) (x2 : Int) (x3 : Int) (M : pm_M)  : pm_R G mt_Q_tour 4 (0, [(0, .inr (.inr (1, 87))), (1, .inl x1), (2, .inl x2), (3, .inl x3)], [], 119, pm_RF, M) (f_Q_tour x1 x2 x3 M) (pm_Zr mt_Q_tour pm_gI) := by
  have ho : pm_oG G mt_Q_tour := (oa_Q_tour).g G
  unfold f_Q_tour
  refine R_st ho 2 (q' := (2, [(0, .inr (.inr (1, 87))), (1, .inl x1), (2, .inl x2), (3, .inl x3)], [.inl x1, .inr (.inr (1, 87))], 119, pm_RF, M)) rfl ?_
  refine R_callV ho mv_Q_isPlinth lk_1_126 rfl (As := [.inl x1]) (kd := 1) (a := 87) (st := []) rfl rfl (Nat.le_of_ble_eq_true rfl) rfl (by decide) (Nat.le_of_ble_eq_true rfl) (ok_Q_isPlinth G x1 M ) (fun r1240 => ?_)
  show pm_R _ _ _ (5, [(0, .inr (.inr (1, 87))), (1, .inl x1), (2, .inl x2), (3, .inl x3)], [.inl r1240], 119, pm_RF, M) _ _
  refine R_if ho rfl (tgt := 23) rfl ?_
  refine R_eq ?_ ?_
  · refine R_st ho 1 (q' := (24, [(0, .inr (.inr (1, 87))), (1, .inl x1), (2, .inl x2), (3, .inl x3)], [.inl (-1)], 119, pm_RF, M)) rfl ?_
    exact R_end (v := some (.inl (-1))) rfl (Or.inl rfl) rfl rfl
  · refine R_st ho 3 (q' := (13, [(0, .inr (.inr (1, 87))), (1, .inl x1), (2, .inl x2), (3, .inl x3)], [.inl 999, .inl 0, .inl x2], 119, pm_RF, M)) rfl ?_
    refine R_callS ho ms_Q_in lk_1_118 rfl (As := [.inl x2, .inl 0, .inl 999]) (st := []) rfl (Nat.le_of_ble_eq_true rfl) rfl (by decide) (Nat.le_of_ble_eq_true rfl) (ok_Q_in G x2 0 999 M ) (fun r1241 => ?_)
    show pm_R _ _ _ (16, [(0, .inr (.inr (1, 87))), (1, .inl x1), (2, .inl x2), (3, .inl x3)], [.inl r1241], 119, pm_RF, M) _ _
    refine R_if ho rfl (tgt := 23) rfl ?_
    refine R_eq ?_ ?_
    · refine R_st ho 1 (q' := (24, [(0, .inr (.inr (1, 87))), (1, .inl x1), (2, .inl x2), (3, .inl x3)], [.inl (-1)], 119, pm_RF, M)) rfl ?_
      exact R_end (v := some (.inl (-1))) rfl (Or.inl rfl) rfl rfl
    · refine R_st ho 1 (q' := (20, [(0, .inr (.inr (1, 87))), (1, .inl x1), (2, .inl x2), (3, .inl x3)], [.inl x3], 119, pm_RF, M)) rfl ?_
      refine R_if ho rfl (tgt := 25) rfl ?_
      refine R_ge ?_ ?_
      · refine R_st ho 3 (q' := (28, [(0, .inr (.inr (1, 87))), (1, .inl x1), (2, .inl x2), (3, .inl x3)], [.inl x2, .inl x1, .inr (.inr (1, 87))], 119, pm_RF, M)) rfl ?_
        refine R_callV ho mv_Q_tours lk_1_432 rfl (As := [.inl x1, .inl x2]) (kd := 1) (a := 87) (st := []) rfl rfl (Nat.le_of_ble_eq_true rfl) rfl (by decide) (Nat.le_of_ble_eq_true rfl) (ok_Q_tours G x1 x2 M ) (fun M1270 => ?_)
        show pm_R _ _ _ (31, [(0, .inr (.inr (1, 87))), (1, .inl x1), (2, .inl x2), (3, .inl x3)], [], 119, pm_RF, M1270) _ _
        refine R_st ho 2 (q' := (33, [(0, .inr (.inr (1, 87))), (1, .inl x1), (2, .inl x2), (3, .inl x3)], [.inl 2, .inl x3], 119, pm_RF, M1270)) rfl ?_
        refine R_ic ho rfl (tgt := 52) rfl ?_
        refine R_ge ?_ ?_
        · refine R_st ho 5 (q' := (59, [(0, .inr (.inr (1, 87))), (1, .inl x1), (2, .inl x2), (3, .inl x3)], [.inl (M1270 87 49), .inl (i_sb x3 2)], 119, pm_RF, M1270)) rfl ?_
          refine R_ic ho rfl (tgt := 73) rfl ?_
          refine R_ge ?_ ?_
          · refine R_st ho 1 (q' := (74, [(0, .inr (.inr (1, 87))), (1, .inl x1), (2, .inl x2), (3, .inl x3)], [.inl (-1)], 119, pm_RF, M1270)) rfl ?_
            exact R_end (v := some (.inl (-1))) rfl (Or.inl rfl) rfl rfl
          · refine R_st ho 5 (q' := (69, [(0, .inr (.inr (1, 87))), (1, .inl x1), (2, .inl x2), (3, .inl x3)], [.inl (i_sb x3 2), .inr (.inr (20, 116))], 119, pm_RF, M1270)) rfl ?_
            refine R_iald ho rfl rfl ?_
            refine R_st ho 1 (q' := (74, [(0, .inr (.inr (1, 87))), (1, .inl x1), (2, .inl x2), (3, .inl x3)], [.inl (M1270 116 ((i_sb x3 2)).toNat)], 119, pm_RF, M1270)) rfl ?_
            exact R_end (v := some (.inl (M1270 116 ((i_sb x3 2)).toNat))) rfl (Or.inl rfl) rfl rfl
        · refine R_st ho 1 (q' := (37, [(0, .inr (.inr (1, 87))), (1, .inl x1), (2, .inl x2), (3, .inl x3)], [.inl x3], 119, pm_RF, M1270)) rfl ?_
          refine R_if ho rfl (tgt := 47) rfl ?_
          refine R_ne ?_ ?_
          · refine R_st ho 3 (q' := (51, [(0, .inr (.inr (1, 87))), (1, .inl x1), (2, .inl x2), (3, .inl x3)], [.inl (M1270 87 50)], 119, pm_RF, M1270)) rfl ?_
            exact R_end (v := some (.inl (M1270 87 50))) rfl (Or.inl rfl) rfl rfl
          · refine R_st ho 2 (q' := (51, [(0, .inr (.inr (1, 87))), (1, .inl x1), (2, .inl x2), (3, .inl x3)], [.inl (M1270 87 51)], 119, pm_RF, M1270)) rfl ?_
            exact R_end (v := some (.inl (M1270 87 51))) rfl (Or.inl rfl) rfl rfl
      · refine R_st ho 1 (q' := (24, [(0, .inr (.inr (1, 87))), (1, .inl x1), (2, .inl x2), (3, .inl x3)], [.inl (-1)], 119, pm_RF, M)) rfl ?_
        exact R_end (v := some (.inl (-1))) rfl (Or.inl rfl) rfl rfl
theorem ok_Q_dirtBy_L2 (G : pm_G)    : ∀ (n_ : Nat) (y1 : Int) (y2 : Int) (y3 : Int) (M : pm_M), pm_R G mt_Q_dirtBy 1 (2, [(0, .inr (.inr (1, 87))), (1, .inl y1), (2, .inl y2), (3, .inl y3)], [], 119, pm_RF, M) (f_Q_dirtBy_L2 n_ y1 y2 y3 M) (fun e_ q_ => q_ = (21, [(0, .inr (.inr (1, 87))), (1, .inl e_.1), (2, .inl e_.2.1)], [], 119, pm_RF, e_.2.2)) := by
  have ho : pm_oG G mt_Q_dirtBy := (oa_Q_dirtBy).g G
  intro n_
  induction n_ with
  | zero => intro _ _ _ _; exact R_none
  | succ n_ ih_ =>
    intro y1 y2 y3 M
    rw [f_Q_dirtBy_L2]
    refine R_st ho 2 (q' := (5, [(0, .inr (.inr (1, 87))), (1, .inl y1), (2, .inl y2), (3, .inl y3)], [.inl 8, .inl y3], 119, pm_RF, M)) rfl ?_
    refine R_ic ho rfl (tgt := 21) rfl ?_
    refine R_ge ?_ ?_
    · refine R_pk [0, 1, 2] rfl ?_
      exact R_ret rfl
    · refine R_st ho 4 (q' := (14, [(0, .inr (.inr (1, 87))), (1, .inl y1), (2, .inl y2), (3, .inl y3)], [.inl 0, .inl y3, .inr (.inr (20, 117))], 119, pm_RF, M)) rfl ?_
      refine R_iast ho rfl rfl ?_
      refine R_nm fun M1278 => ?_
      refine R_st ho 2 (q' := (2, [(3, .inl (i_ad y3 1)), (0, .inr (.inr (1, 87))), (1, .inl y1), (2, .inl y2)], [], 119, pm_RF, M1278)) rfl ?_
      refine R_pk [0, 1, 2, 3] rfl ?_
      exact ih_ y1 y2 (i_ad y3 1) M1278
theorem ok_Q_dirtBy_L32 (G : pm_G)   (M : pm_M) : ∀ (n_ : Nat) (y2 : Int) (y3 : Int) (y4 : Int) (y5 : Int) (y6 : Int), pm_R G mt_Q_dirtBy 1 (32, [(0, .inr (.inr (1, 87))), (2, .inl y2), (3, .inl y3), (4, .inl y4), (5, .inl y5), (6, .inl y6)], [], 119, pm_RF, M) (f_Q_dirtBy_L32 M n_ y2 y3 y4 y5 y6) (fun e_ q_ => q_ = (55, [(0, .inr (.inr (1, 87))), (2, .inl e_.1), (3, .inl e_.2.1), (4, .inl e_.2.2.1), (5, .inl e_.2.2.2)], [], 119, pm_RF, M)) := by
  have ho : pm_oG G mt_Q_dirtBy := (oa_Q_dirtBy).g G
  intro n_
  induction n_ with
  | zero => intro _ _ _ _ _; exact R_none
  | succ n_ ih_ =>
    intro y2 y3 y4 y5 y6
    rw [f_Q_dirtBy_L32]
    refine R_st ho 2 (q' := (35, [(0, .inr (.inr (1, 87))), (2, .inl y2), (3, .inl y3), (4, .inl y4), (5, .inl y5), (6, .inl y6)], [.inl y2, .inl y6], 119, pm_RF, M)) rfl ?_
    refine R_ic ho rfl (tgt := 55) rfl ?_
    refine R_ge ?_ ?_
    · refine R_pk [0, 2, 3, 4, 5] rfl ?_
      exact R_ret rfl
    · refine R_st ho 9 (q' := (32, [(6, .inl (i_ad y6 1)), (5, .inl (i_ml y5 (M 88 0))), (0, .inr (.inr (1, 87))), (2, .inl y2), (3, .inl y3), (4, .inl y4)], [], 119, pm_RF, M)) rfl ?_
      refine R_pk [0, 2, 3, 4, 5, 6] rfl ?_
      exact ih_ y2 y3 y4 (i_ml y5 (M 88 0)) (i_ad y6 1)
theorem ok_Q_dirtBy_L67 (G : pm_G)    : ∀ (n_ : Nat) (y2 : Int) (y3 : Int) (y4 : Int) (y5 : Int) (y6 : Int) (y7 : Int) (M : pm_M), pm_R G mt_Q_dirtBy 1 (67, [(0, .inr (.inr (1, 87))), (2, .inl y2), (3, .inl y3), (4, .inl y4), (5, .inl y5), (6, .inl y6), (7, .inl y7)], [], 119, pm_RF, M) (f_Q_dirtBy_L67 n_ y2 y3 y4 y5 y6 y7 M) (fun e_ q_ => q_ = (101, [(0, .inr (.inr (1, 87))), (2, .inl e_.1), (3, .inl e_.2.1), (4, .inl e_.2.2.1), (5, .inl e_.2.2.2.1), (6, .inl e_.2.2.2.2.1)], [], 119, pm_RF, e_.2.2.2.2.2)) := by
  have ho : pm_oG G mt_Q_dirtBy := (oa_Q_dirtBy).g G
  intro n_
  induction n_ with
  | zero => intro _ _ _ _ _ _ _; exact R_none
  | succ n_ ih_ =>
    intro y2 y3 y4 y5 y6 y7 M
    rw [f_Q_dirtBy_L67]
    refine R_st ho 5 (q' := (75, [(0, .inr (.inr (1, 87))), (2, .inl y2), (3, .inl y3), (4, .inl y4), (5, .inl y5), (6, .inl y6), (7, .inl y7)], [.inl (M 88 0), .inl y7], 119, pm_RF, M)) rfl ?_
    refine R_ic ho rfl (tgt := 101) rfl ?_
    refine R_ge ?_ ?_
    · refine R_pk [0, 2, 3, 4, 5, 6] rfl ?_
      exact R_ret rfl
    · refine R_st ho 4 (q' := (85, [(0, .inr (.inr (1, 87))), (2, .inl y2), (3, .inl y3), (4, .inl y4), (5, .inl y5), (6, .inl y6), (7, .inl y7)], [.inl y7, .inr (.inr (20, 117)), .inl y7, .inr (.inr (20, 117))], 119, pm_RF, M)) rfl ?_
      refine R_iald ho rfl rfl ?_
      refine R_st ho 3 (q' := (92, [(0, .inr (.inr (1, 87))), (2, .inl y2), (3, .inl y3), (4, .inl y4), (5, .inl y5), (6, .inl y6), (7, .inl y7)], [.inl y7, .inr (.inr (20, 118)), .inl (M 117 (y7).toNat), .inl y7, .inr (.inr (20, 117))], 119, pm_RF, M)) rfl ?_
      refine R_iald ho rfl rfl ?_
      refine R_st ho 1 (q' := (94, [(0, .inr (.inr (1, 87))), (2, .inl y2), (3, .inl y3), (4, .inl y4), (5, .inl y5), (6, .inl y6), (7, .inl y7)], [.inl (i_ad (M 117 (y7).toNat) (M 118 (y7).toNat)), .inl y7, .inr (.inr (20, 117))], 119, pm_RF, M)) rfl ?_
      refine R_iast ho rfl rfl ?_
      refine R_nm fun M1281 => ?_
      refine R_st ho 2 (q' := (67, [(7, .inl (i_ad y7 1)), (0, .inr (.inr (1, 87))), (2, .inl y2), (3, .inl y3), (4, .inl y4), (5, .inl y5), (6, .inl y6)], [], 119, pm_RF, M1281)) rfl ?_
      refine R_pk [0, 2, 3, 4, 5, 6, 7] rfl ?_
      exact ih_ y2 y3 y4 y5 y6 (i_ad y7 1) M1281
theorem ok_Q_dirtBy_L133 (G : pm_G)   (M : pm_M) : ∀ (n_ : Nat) (y2 : Int) (y3 : Int) (y4 : Int) (y5 : Int) (y6 : Int) (y7 : Int), pm_R G mt_Q_dirtBy 1 (133, [(0, .inr (.inr (1, 87))), (2, .inl y2), (3, .inl y3), (4, .inl y4), (5, .inl y5), (6, .inl y6), (7, .inl y7)], [], 119, pm_RF, M) (f_Q_dirtBy_L133 M n_ y2 y3 y4 y5 y6 y7) (fun e_ q_ => q_ = (160, [(0, .inr (.inr (1, 87))), (2, .inl e_.1), (3, .inl e_.2.1), (4, .inl e_.2.2.1), (5, .inl e_.2.2.2.1), (6, .inl e_.2.2.2.2)], [], 119, pm_RF, M)) := by
  have ho : pm_oG G mt_Q_dirtBy := (oa_Q_dirtBy).g G
  intro n_
  induction n_ with
  | zero => intro _ _ _ _ _ _; exact R_none
  | succ n_ ih_ =>
    intro y2 y3 y4 y5 y6 y7
    rw [f_Q_dirtBy_L133]
    refine R_st ho 5 (q' := (141, [(0, .inr (.inr (1, 87))), (2, .inl y2), (3, .inl y3), (4, .inl y4), (5, .inl y5), (6, .inl y6), (7, .inl y7)], [.inl (M 88 0), .inl y7], 119, pm_RF, M)) rfl ?_
    refine R_ic ho rfl (tgt := 160) rfl ?_
    refine R_ge ?_ ?_
    · refine R_pk [0, 2, 3, 4, 5, 6] rfl ?_
      exact R_ret rfl
    · refine R_st ho 4 (q' := (151, [(0, .inr (.inr (1, 87))), (2, .inl y2), (3, .inl y3), (4, .inl y4), (5, .inl y5), (6, .inl y6), (7, .inl y7)], [.inl y7, .inr (.inr (20, 117)), .inl y3], 119, pm_RF, M)) rfl ?_
      refine R_iald ho rfl rfl ?_
      refine R_st ho 2 (q' := (154, [(3, .inl (i_ad y3 (M 117 (y7).toNat))), (0, .inr (.inr (1, 87))), (2, .inl y2), (4, .inl y4), (5, .inl y5), (6, .inl y6), (7, .inl y7)], [], 119, pm_RF, M)) rfl ?_
      refine R_nx (fun z_ => (154, [(3, .inl z_), (0, .inr (.inr (1, 87))), (2, .inl y2), (4, .inl y4), (5, .inl y5), (6, .inl y6), (7, .inl y7)], [], 119, pm_RF, M)) fun v1286 => ?_
      refine R_st ho 2 (q' := (133, [(7, .inl (i_ad y7 1)), (3, .inl v1286), (0, .inr (.inr (1, 87))), (2, .inl y2), (4, .inl y4), (5, .inl y5), (6, .inl y6)], [], 119, pm_RF, M)) rfl ?_
      refine R_pk [0, 2, 3, 4, 5, 6, 7] rfl ?_
      exact ih_ y2 v1286 y4 y5 y6 (i_ad y7 1)
theorem ok_Q_dirtBy_L58 (G : pm_G)    : ∀ (n_ : Nat) (y2 : Int) (y3 : Int) (y4 : Int) (y5 : Int) (y6 : Int) (M : pm_M), pm_R G mt_Q_dirtBy 1 (58, [(0, .inr (.inr (1, 87))), (2, .inl y2), (3, .inl y3), (4, .inl y4), (5, .inl y5), (6, .inl y6)], [], 119, pm_RF, M) (f_Q_dirtBy_L58 n_ y2 y3 y4 y5 y6 M) (fun e_ q_ => q_ = (166, [(3, .inl e_.1)], [], 119, pm_RF, e_.2)) := by
  have ho : pm_oG G mt_Q_dirtBy := (oa_Q_dirtBy).g G
  intro n_
  induction n_ with
  | zero => intro _ _ _ _ _ _; exact R_none
  | succ n_ ih_ =>
    intro y2 y3 y4 y5 y6 M
    rw [f_Q_dirtBy_L58]
    refine R_st ho 2 (q' := (61, [(0, .inr (.inr (1, 87))), (2, .inl y2), (3, .inl y3), (4, .inl y4), (5, .inl y5), (6, .inl y6)], [.inl y2, .inl y6], 119, pm_RF, M)) rfl ?_
    refine R_ic ho rfl (tgt := 166) rfl ?_
    refine R_ge ?_ ?_
    · refine R_pk [3] rfl ?_
      exact R_ret rfl
    · refine R_st ho 2 (q' := (67, [(7, .inl 0), (0, .inr (.inr (1, 87))), (2, .inl y2), (3, .inl y3), (4, .inl y4), (5, .inl y5), (6, .inl y6)], [], 119, pm_RF, M)) rfl ?_
      refine R_pk [0, 2, 3, 4, 5, 6, 7] rfl ?_
      refine R_bind (ok_Q_dirtBy_L67 G pm_F y2 y3 y4 y5 y6 0 M) ?_
      intro e1282 q_ hq_
      obtain rfl : q_ = (101, [(0, .inr (.inr (1, 87))), (2, .inl e1282.1), (3, .inl e1282.2.1), (4, .inl e1282.2.2.1), (5, .inl e1282.2.2.2.1), (6, .inl e1282.2.2.2.2.1)], [], 119, pm_RF, e1282.2.2.2.2.2) := hq_
      refine R_st ho 4 (q' := (109, [(0, .inr (.inr (1, 87))), (2, .inl e1282.1), (3, .inl e1282.2.1), (4, .inl e1282.2.2.1), (5, .inl e1282.2.2.2.1), (6, .inl e1282.2.2.2.2.1)], [.inl e1282.2.2.2.1, .inl e1282.2.2.1, .inr (.inr (20, 117))], 119, pm_RF, e1282.2.2.2.2.2)) rfl ?_
      refine R_idiv ho rfl ?_
      refine R_st ho 1 (q' := (111, [(0, .inr (.inr (1, 87))), (2, .inl e1282.1), (3, .inl e1282.2.1), (4, .inl e1282.2.2.1), (5, .inl e1282.2.2.2.1), (6, .inl e1282.2.2.2.2.1)], [.inl 0, .inl (i_dv e1282.2.2.1 e1282.2.2.2.1), .inr (.inr (20, 117))], 119, pm_RF, e1282.2.2.2.2.2)) rfl ?_
      refine R_iast ho rfl rfl ?_
      refine R_nm fun M1283 => ?_
      refine R_st ho 2 (q' := (116, [(0, .inr (.inr (1, 87))), (2, .inl e1282.1), (3, .inl e1282.2.1), (4, .inl e1282.2.2.1), (5, .inl e1282.2.2.2.1), (6, .inl e1282.2.2.2.2.1)], [.inl e1282.2.2.2.1, .inl e1282.2.2.1], 119, pm_RF, M1283)) rfl ?_
      refine R_irem ho rfl ?_
      refine R_st ho 1 (q' := (119, [(4, .inl (i_rm e1282.2.2.1 e1282.2.2.2.1)), (0, .inr (.inr (1, 87))), (2, .inl e1282.1), (3, .inl e1282.2.1), (5, .inl e1282.2.2.2.1), (6, .inl e1282.2.2.2.2.1)], [], 119, pm_RF, M1283)) rfl ?_
      refine R_nx (fun z_ => (119, [(4, .inl z_), (0, .inr (.inr (1, 87))), (2, .inl e1282.1), (3, .inl e1282.2.1), (5, .inl e1282.2.2.2.1), (6, .inl e1282.2.2.2.2.1)], [], 119, pm_RF, M1283)) fun v1284 => ?_
      refine R_st ho 5 (q' := (127, [(4, .inl v1284), (0, .inr (.inr (1, 87))), (2, .inl e1282.1), (3, .inl e1282.2.1), (5, .inl e1282.2.2.2.1), (6, .inl e1282.2.2.2.2.1)], [.inl (M1283 88 0), .inl e1282.2.2.2.1], 119, pm_RF, M1283)) rfl ?_
      refine R_idiv ho rfl ?_
      refine R_st ho 1 (q' := (130, [(5, .inl (i_dv e1282.2.2.2.1 (M1283 88 0))), (4, .inl v1284), (0, .inr (.inr (1, 87))), (2, .inl e1282.1), (3, .inl e1282.2.1), (6, .inl e1282.2.2.2.2.1)], [], 119, pm_RF, M1283)) rfl ?_
      refine R_nx (fun z_ => (130, [(5, .inl z_), (4, .inl v1284), (0, .inr (.inr (1, 87))), (2, .inl e1282.1), (3, .inl e1282.2.1), (6, .inl e1282.2.2.2.2.1)], [], 119, pm_RF, M1283)) fun v1285 => ?_
      refine R_st ho 2 (q' := (133, [(7, .inl 0), (5, .inl v1285), (4, .inl v1284), (0, .inr (.inr (1, 87))), (2, .inl e1282.1), (3, .inl e1282.2.1), (6, .inl e1282.2.2.2.2.1)], [], 119, pm_RF, M1283)) rfl ?_
      refine R_pk [0, 2, 3, 4, 5, 6, 7] rfl ?_
      refine R_bind (ok_Q_dirtBy_L133 G M1283 pm_F e1282.1 e1282.2.1 v1284 v1285 e1282.2.2.2.2.1 0) ?_
      intro e1287 q_ hq_
      obtain rfl : q_ = (160, [(0, .inr (.inr (1, 87))), (2, .inl e1287.1), (3, .inl e1287.2.1), (4, .inl e1287.2.2.1), (5, .inl e1287.2.2.2.1), (6, .inl e1287.2.2.2.2)], [], 119, pm_RF, M1283) := hq_
      refine R_st ho 2 (q' := (58, [(6, .inl (i_ad e1287.2.2.2.2 1)), (0, .inr (.inr (1, 87))), (2, .inl e1287.1), (3, .inl e1287.2.1), (4, .inl e1287.2.2.1), (5, .inl e1287.2.2.2.1)], [], 119, pm_RF, M1283)) rfl ?_
      refine R_pk [0, 2, 3, 4, 5, 6] rfl ?_
      exact ih_ e1287.1 e1287.2.1 e1287.2.2.1 e1287.2.2.2.1 (i_ad e1287.2.2.2.2 1) M1283
theorem ok_Q_dirtBy (G : pm_G) (x1 : Int) (x2 : Int) (M : pm_M)  : pm_R G mt_Q_dirtBy 1 (0, [(0, .inr (.inr (1, 87))), (1, .inl x1), (2, .inl x2)], [], 119, pm_RF, M) (f_Q_dirtBy x1 x2 M) (pm_Zr mt_Q_dirtBy pm_gI) := by
  have ho : pm_oG G mt_Q_dirtBy := (oa_Q_dirtBy).g G
  unfold f_Q_dirtBy
  refine R_st ho 2 (q' := (2, [(3, .inl 0), (0, .inr (.inr (1, 87))), (1, .inl x1), (2, .inl x2)], [], 119, pm_RF, M)) rfl ?_
  refine R_pk [0, 1, 2, 3] rfl ?_
  refine R_bind (ok_Q_dirtBy_L2 G pm_F x1 x2 0 M) ?_
  intro e1279 q_ hq_
  obtain rfl : q_ = (21, [(0, .inr (.inr (1, 87))), (1, .inl e1279.1), (2, .inl e1279.2.1)], [], 119, pm_RF, e1279.2.2) := hq_
  refine R_st ho 8 (q' := (32, [(6, .inl 1), (5, .inl 1), (4, .inl e1279.1), (3, .inl 0), (0, .inr (.inr (1, 87))), (1, .inl e1279.1), (2, .inl e1279.2.1)], [], 119, pm_RF, e1279.2.2)) rfl ?_
  refine R_pk [0, 2, 3, 4, 5, 6] rfl ?_
  refine R_bind (ok_Q_dirtBy_L32 G e1279.2.2 pm_F e1279.2.1 0 e1279.1 1 1) ?_
  intro e1280 q_ hq_
  obtain rfl : q_ = (55, [(0, .inr (.inr (1, 87))), (2, .inl e1280.1), (3, .inl e1280.2.1), (4, .inl e1280.2.2.1), (5, .inl e1280.2.2.2)], [], 119, pm_RF, e1279.2.2) := hq_
  refine R_st ho 2 (q' := (58, [(6, .inl 0), (0, .inr (.inr (1, 87))), (2, .inl e1280.1), (3, .inl e1280.2.1), (4, .inl e1280.2.2.1), (5, .inl e1280.2.2.2)], [], 119, pm_RF, e1279.2.2)) rfl ?_
  refine R_pk [0, 2, 3, 4, 5, 6] rfl ?_
  refine R_bind (ok_Q_dirtBy_L58 G pm_F e1280.1 e1280.2.1 e1280.2.2.1 e1280.2.2.2 0 e1279.2.2) ?_
  intro e1288 q_ hq_
  obtain rfl : q_ = (166, [(3, .inl e1288.1)], [], 119, pm_RF, e1288.2) := hq_
  refine R_st ho 1 (q' := (167, [(3, .inl e1288.1)], [.inl e1288.1], 119, pm_RF, e1288.2)) rfl ?_
  exact R_end (v := some (.inl e1288.1)) rfl (Or.inl rfl) rfl rfl
theorem ok_Q_rounds_L36 (G : pm_G)   (M : pm_M) : ∀ (n_ : Nat) (y1 : Int) (y2 : Int) (y3 : Int) (y4 : Int), pm_R G mt_Q_rounds 5 (36, [(0, .inr (.inr (1, 87))), (1, .inl y1), (2, .inl y2), (3, .inl y3), (4, .inl y4)], [], 119, pm_RF, M) (f_Q_rounds_L36 M n_ y1 y2 y3 y4) (fun e_ q_ => q_ = (57, [(0, .inr (.inr (1, 87))), (1, .inl e_.1), (2, .inl e_.2.1), (3, .inl e_.2.2)], [], 119, pm_RF, M)) := by
  have ho : pm_oG G mt_Q_rounds := (oa_Q_rounds).g G
  intro n_
  induction n_ with
  | zero => intro _ _ _ _; exact R_none
  | succ n_ ih_ =>
    intro y1 y2 y3 y4
    rw [f_Q_rounds_L36]
    refine R_st ho 2 (q' := (39, [(0, .inr (.inr (1, 87))), (1, .inl y1), (2, .inl y2), (3, .inl y3), (4, .inl y4)], [.inl y1, .inl y4], 119, pm_RF, M)) rfl ?_
    refine R_ic ho rfl (tgt := 57) rfl ?_
    refine R_ge ?_ ?_
    · refine R_pk [0, 1, 2, 3] rfl ?_
      exact R_ret rfl
    · refine R_st ho 9 (q' := (36, [(4, .inl (i_ad y4 1)), (3, .inl (i_ml y3 (M 88 0))), (0, .inr (.inr (1, 87))), (1, .inl y1), (2, .inl y2)], [], 119, pm_RF, M)) rfl ?_
      refine R_pk [0, 1, 2, 3, 4] rfl ?_
      exact ih_ y1 y2 (i_ml y3 (M 88 0)) (i_ad y4 1)
theorem ok_Q_rounds_L60 (G : pm_G)    : ∀ (n_ : Nat) (y1 : Int) (y2 : Int) (y3 : Int) (y4 : Int) (M : pm_M), pm_R G mt_Q_rounds 5 (60, [(0, .inr (.inr (1, 87))), (1, .inl y1), (2, .inl y2), (3, .inl y3), (4, .inl y4)], [], 119, pm_RF, M) (f_Q_rounds_L60 n_ y1 y2 y3 y4 M) (fun e_ q_ => q_ = (119, [(0, .inr (.inr (1, 87))), (1, .inl e_.1), (2, .inl e_.2.1), (3, .inl e_.2.2.1)], [], 119, pm_RF, e_.2.2.2)) := by
  have ho : pm_oG G mt_Q_rounds := (oa_Q_rounds).g G
  intro n_
  induction n_ with
  | zero => intro _ _ _ _ _; exact R_none
  | succ n_ ih_ =>
    intro y1 y2 y3 y4 M
    rw [f_Q_rounds_L60]
    refine R_st ho 5 (q' := (68, [(0, .inr (.inr (1, 87))), (1, .inl y1), (2, .inl y2), (3, .inl y3), (4, .inl y4)], [.inl (M 88 0), .inl y4], 119, pm_RF, M)) rfl ?_
    refine R_ic ho rfl (tgt := 119) rfl ?_
    refine R_ge ?_ ?_
    · refine R_pk [0, 1, 2, 3] rfl ?_
      exact R_ret rfl
    · refine R_st ho 8 (q' := (86, [(0, .inr (.inr (1, 87))), (1, .inl y1), (2, .inl y2), (3, .inl y3), (4, .inl y4)], [.inl (i_ad 70 y4), .inr (.inr (20, 88)), .inl y4, .inr (.inr (20, 118))], 119, pm_RF, M)) rfl ?_
      refine R_iald ho rfl rfl ?_
      refine R_st ho 1 (q' := (88, [(0, .inr (.inr (1, 87))), (1, .inl y1), (2, .inl y2), (3, .inl y3), (4, .inl y4)], [.inl (-1), .inl (M 88 ((i_ad 70 y4)).toNat), .inl y4, .inr (.inr (20, 118))], 119, pm_RF, M)) rfl ?_
      refine R_ic ho rfl (tgt := 95) rfl ?_
      refine R_ne ?_ ?_
      · refine R_st ho 2 (q' := (112, [(0, .inr (.inr (1, 87))), (1, .inl y1), (2, .inl y2), (3, .inl y3), (4, .inl y4)], [.inl 0, .inl y4, .inr (.inr (20, 118))], 119, pm_RF, M)) rfl ?_
        refine R_iast ho rfl rfl ?_
        refine R_nm fun M1274 => ?_
        refine R_st ho 2 (q' := (60, [(4, .inl (i_ad y4 1)), (0, .inr (.inr (1, 87))), (1, .inl y1), (2, .inl y2), (3, .inl y3)], [], 119, pm_RF, M1274)) rfl ?_
        refine R_pk [0, 1, 2, 3, 4] rfl ?_
        exact ih_ y1 y2 y3 (i_ad y4 1) M1274
      · refine R_st ho 8 (q' := (108, [(0, .inr (.inr (1, 87))), (1, .inl y1), (2, .inl y2), (3, .inl y3), (4, .inl y4)], [.inl (i_ad 70 y4), .inr (.inr (20, 88)), .inl y4, .inl 2, .inr (.inr (1, 87)), .inl y4, .inr (.inr (20, 118))], 119, pm_RF, M)) rfl ?_
        refine R_iald ho rfl rfl ?_
        refine R_callV ho mv_Q_tellsOf lk_1_352 rfl (As := [.inl 2, .inl y4, .inl (M 88 ((i_ad 70 y4)).toNat)]) (kd := 1) (a := 87) (st := [.inl y4, .inr (.inr (20, 118))]) rfl rfl (Nat.le_of_ble_eq_true rfl) rfl (by decide) (Nat.le_of_ble_eq_true rfl) (ok_Q_tellsOf G 2 y4 (M 88 ((i_ad 70 y4)).toNat) M ) (fun r1275 => ?_)
        show pm_R _ _ _ (112, [(0, .inr (.inr (1, 87))), (1, .inl y1), (2, .inl y2), (3, .inl y3), (4, .inl y4)], [.inl r1275.1, .inl y4, .inr (.inr (20, 118))], 119, pm_RF, r1275.2) _ _
        refine R_iast ho rfl rfl ?_
        refine R_nm fun M1276 => ?_
        refine R_st ho 2 (q' := (60, [(4, .inl (i_ad y4 1)), (0, .inr (.inr (1, 87))), (1, .inl y1), (2, .inl y2), (3, .inl y3)], [], 119, pm_RF, M1276)) rfl ?_
        refine R_pk [0, 1, 2, 3, 4] rfl ?_
        exact ih_ y1 y2 y3 (i_ad y4 1) M1276
theorem ok_Q_rounds_L130 (G : pm_G)    : ∀ (n_ : Nat) (y1 : Int) (y2 : Int) (y3 : Int) (y4 : Int) (y5 : Int) (y6 : Int) (M : pm_M), pm_R G mt_Q_rounds 5 (130, [(0, .inr (.inr (1, 87))), (1, .inl y1), (2, .inl y2), (3, .inl y3), (4, .inl y4), (5, .inl y5), (6, .inl y6)], [], 119, pm_RF, M) (f_Q_rounds_L130 n_ y1 y2 y3 y4 y5 y6 M) (fun e_ q_ => q_ = (166, [(0, .inr (.inr (1, 87))), (1, .inl e_.1), (2, .inl e_.2.1), (4, .inl e_.2.2.1), (5, .inl e_.2.2.2.1)], [], 119, pm_RF, e_.2.2.2.2)) := by
  have ho : pm_oG G mt_Q_rounds := (oa_Q_rounds).g G
  intro n_
  induction n_ with
  | zero => intro _ _ _ _ _ _ _; exact R_none
  | succ n_ ih_ =>
    intro y1 y2 y3 y4 y5 y6 M
    rw [f_Q_rounds_L130]
    refine R_st ho 2 (q' := (133, [(0, .inr (.inr (1, 87))), (1, .inl y1), (2, .inl y2), (3, .inl y3), (4, .inl y4), (5, .inl y5), (6, .inl y6)], [.inl y3, .inl y6], 119, pm_RF, M)) rfl ?_
    refine R_ic ho rfl (tgt := 166) rfl ?_
    refine R_ge ?_ ?_
    · refine R_pk [0, 1, 2, 4, 5] rfl ?_
      exact R_ret rfl
    · refine R_st ho 3 (q' := (140, [(0, .inr (.inr (1, 87))), (1, .inl y1), (2, .inl y2), (3, .inl y3), (4, .inl y4), (5, .inl y5), (6, .inl y6)], [.inl y1, .inl y6, .inr (.inr (1, 87))], 119, pm_RF, M)) rfl ?_
      refine R_callV ho mv_Q_dirtBy lk_1_435 rfl (As := [.inl y6, .inl y1]) (kd := 1) (a := 87) (st := []) rfl rfl (Nat.le_of_ble_eq_true rfl) rfl (by decide) (Nat.le_of_ble_eq_true rfl) (ok_Q_dirtBy G y6 y1 M ) (fun r1289 => ?_)
      show pm_R _ _ _ (143, [(0, .inr (.inr (1, 87))), (1, .inl y1), (2, .inl y2), (3, .inl y3), (4, .inl y4), (5, .inl y5), (6, .inl y6)], [.inl r1289.1], 119, pm_RF, r1289.2) _ _
      refine R_st ho 3 (q' := (149, [(7, .inl r1289.1), (0, .inr (.inr (1, 87))), (1, .inl y1), (2, .inl y2), (3, .inl y3), (4, .inl y4), (5, .inl y5), (6, .inl y6)], [.inl y5, .inl r1289.1], 119, pm_RF, r1289.2)) rfl ?_
      refine R_ic ho rfl (tgt := 160) rfl ?_
      refine R_ge ?_ ?_
      · refine R_st ho 2 (q' := (130, [(6, .inl (i_ad y6 1)), (7, .inl r1289.1), (0, .inr (.inr (1, 87))), (1, .inl y1), (2, .inl y2), (3, .inl y3), (4, .inl y4), (5, .inl y5)], [], 119, pm_RF, r1289.2)) rfl ?_
        refine R_pk [0, 1, 2, 3, 4, 5, 6] rfl ?_
        exact ih_ y1 y2 y3 y4 y5 (i_ad y6 1) r1289.2
      · refine R_st ho 6 (q' := (130, [(6, .inl (i_ad y6 1)), (4, .inl y6), (5, .inl r1289.1), (7, .inl r1289.1), (0, .inr (.inr (1, 87))), (1, .inl y1), (2, .inl y2), (3, .inl y3)], [], 119, pm_RF, r1289.2)) rfl ?_
        refine R_pk [0, 1, 2, 3, 4, 5, 6] rfl ?_
        exact ih_ y1 y2 y3 y6 r1289.1 (i_ad y6 1) r1289.2
theorem ok_Q_rounds_L179 (G : pm_G)   (M : pm_M) : ∀ (n_ : Nat) (y2 : Int) (y4 : Int) (y6 : Int), pm_R G mt_Q_rounds 5 (179, [(0, .inr (.inr (1, 87))), (2, .inl y2), (4, .inl y4), (6, .inl y6)], [], 119, pm_RF, M) (f_Q_rounds_L179 M n_ y2 y4 y6) (fun e_ q_ => q_ = (202, [(0, .inr (.inr (1, 87))), (4, .inl e_)], [], 119, pm_RF, M)) := by
  have ho : pm_oG G mt_Q_rounds := (oa_Q_rounds).g G
  intro n_
  induction n_ with
  | zero => intro _ _ _; exact R_none
  | succ n_ ih_ =>
    intro y2 y4 y6
    rw [f_Q_rounds_L179]
    refine R_st ho 2 (q' := (182, [(0, .inr (.inr (1, 87))), (2, .inl y2), (4, .inl y4), (6, .inl y6)], [.inl y2, .inl y6], 119, pm_RF, M)) rfl ?_
    refine R_ic ho rfl (tgt := 202) rfl ?_
    refine R_le ?_ ?_
    · refine R_pk [0, 4] rfl ?_
      exact R_ret rfl
    · refine R_st ho 5 (q' := (193, [(0, .inr (.inr (1, 87))), (2, .inl y2), (4, .inl y4), (6, .inl y6)], [.inl (M 88 0), .inl y4], 119, pm_RF, M)) rfl ?_
      refine R_idiv ho rfl ?_
      refine R_st ho 3 (q' := (179, [(6, .inl (i_ad y6 (-1))), (4, .inl (i_dv y4 (M 88 0))), (0, .inr (.inr (1, 87))), (2, .inl y2)], [], 119, pm_RF, M)) rfl ?_
      refine R_pk [0, 2, 4, 6] rfl ?_
      exact ih_ y2 (i_dv y4 (M 88 0)) (i_ad y6 (-1))
theorem ok_Q_rounds (G : pm_G) (x1 : Int) (x2 : Int) (M : pm_M)  : pm_R G mt_Q_rounds 5 (0, [(0, .inr (.inr (1, 87))), (1, .inl x1), (2, .inl x2)], [], 119, pm_RF, M) (f_Q_rounds x1 x2 M) (pm_Zr mt_Q_rounds pm_gI) := by
  have ho : pm_oG G mt_Q_rounds := (oa_Q_rounds).g G
  unfold f_Q_rounds
  refine R_st ho 3 (q' := (3, [(0, .inr (.inr (1, 87))), (1, .inl x1), (2, .inl x2)], [.inl 5, .inl 1, .inl x1], 119, pm_RF, M)) rfl ?_
  refine R_callS ho ms_Q_in lk_1_118 rfl (As := [.inl x1, .inl 1, .inl 5]) (st := []) rfl (Nat.le_of_ble_eq_true rfl) rfl (by decide) (Nat.le_of_ble_eq_true rfl) (ok_Q_in G x1 1 5 M ) (fun r1271 => ?_)
  show pm_R _ _ _ (6, [(0, .inr (.inr (1, 87))), (1, .inl x1), (2, .inl x2)], [.inl r1271], 119, pm_RF, M) _ _
  refine R_if ho rfl (tgt := 29) rfl ?_
  refine R_eq ?_ ?_
  · refine R_st ho 1 (q' := (30, [(0, .inr (.inr (1, 87))), (1, .inl x1), (2, .inl x2)], [.inl (-1)], 119, pm_RF, M)) rfl ?_
    exact R_end (v := some (.inl (-1))) rfl (Or.inl rfl) rfl rfl
  · refine R_st ho 5 (q' := (14, [(0, .inr (.inr (1, 87))), (1, .inl x1), (2, .inl x2)], [.inl (i_sb x1 1), .inl (-1), .inl x2], 119, pm_RF, M)) rfl ?_
    refine R_callS ho ms_Q_in lk_1_118 rfl (As := [.inl x2, .inl (-1), .inl (i_sb x1 1)]) (st := []) rfl (Nat.le_of_ble_eq_true rfl) rfl (by decide) (Nat.le_of_ble_eq_true rfl) (ok_Q_in G x2 (-1) (i_sb x1 1) M ) (fun r1272 => ?_)
    show pm_R _ _ _ (17, [(0, .inr (.inr (1, 87))), (1, .inl x1), (2, .inl x2)], [.inl r1272], 119, pm_RF, M) _ _
    refine R_if ho rfl (tgt := 29) rfl ?_
    refine R_eq ?_ ?_
    · refine R_st ho 1 (q' := (30, [(0, .inr (.inr (1, 87))), (1, .inl x1), (2, .inl x2)], [.inl (-1)], 119, pm_RF, M)) rfl ?_
      exact R_end (v := some (.inl (-1))) rfl (Or.inl rfl) rfl rfl
    · refine R_st ho 4 (q' := (26, [(0, .inr (.inr (1, 87))), (1, .inl x1), (2, .inl x2)], [.inl (M 88 0)], 119, pm_RF, M)) rfl ?_
      refine R_if ho rfl (tgt := 31) rfl ?_
      refine R_ne ?_ ?_
      · refine R_st ho 1 (q' := (30, [(0, .inr (.inr (1, 87))), (1, .inl x1), (2, .inl x2)], [.inl (-1)], 119, pm_RF, M)) rfl ?_
        exact R_end (v := some (.inl (-1))) rfl (Or.inl rfl) rfl rfl
      · refine R_st ho 4 (q' := (36, [(4, .inl 0), (3, .inl 1), (0, .inr (.inr (1, 87))), (1, .inl x1), (2, .inl x2)], [], 119, pm_RF, M)) rfl ?_
        refine R_pk [0, 1, 2, 3, 4] rfl ?_
        refine R_bind (ok_Q_rounds_L36 G M pm_F x1 x2 1 0) ?_
        intro e1273 q_ hq_
        obtain rfl : q_ = (57, [(0, .inr (.inr (1, 87))), (1, .inl e1273.1), (2, .inl e1273.2.1), (3, .inl e1273.2.2)], [], 119, pm_RF, M) := hq_
        refine R_st ho 2 (q' := (60, [(4, .inl 0), (0, .inr (.inr (1, 87))), (1, .inl e1273.1), (2, .inl e1273.2.1), (3, .inl e1273.2.2)], [], 119, pm_RF, M)) rfl ?_
        refine R_pk [0, 1, 2, 3, 4] rfl ?_
        refine R_bind (ok_Q_rounds_L60 G pm_F e1273.1 e1273.2.1 e1273.2.2 0 M) ?_
        intro e1277 q_ hq_
        obtain rfl : q_ = (119, [(0, .inr (.inr (1, 87))), (1, .inl e1277.1), (2, .inl e1277.2.1), (3, .inl e1277.2.2.1)], [], 119, pm_RF, e1277.2.2.2) := hq_
        refine R_st ho 6 (q' := (130, [(6, .inl 0), (5, .inl 100000), (4, .inl 0), (0, .inr (.inr (1, 87))), (1, .inl e1277.1), (2, .inl e1277.2.1), (3, .inl e1277.2.2.1)], [], 119, pm_RF, e1277.2.2.2)) rfl ?_
        refine R_pk [0, 1, 2, 3, 4, 5, 6] rfl ?_
        refine R_bind (ok_Q_rounds_L130 G pm_F e1277.1 e1277.2.1 e1277.2.2.1 0 100000 0 e1277.2.2.2) ?_
        intro e1290 q_ hq_
        obtain rfl : q_ = (166, [(0, .inr (.inr (1, 87))), (1, .inl e1290.1), (2, .inl e1290.2.1), (4, .inl e1290.2.2.1), (5, .inl e1290.2.2.2.1)], [], 119, pm_RF, e1290.2.2.2.2) := hq_
        refine R_st ho 2 (q' := (168, [(0, .inr (.inr (1, 87))), (1, .inl e1290.1), (2, .inl e1290.2.1), (4, .inl e1290.2.2.1), (5, .inl e1290.2.2.2.1)], [.inl (-1), .inl e1290.2.1], 119, pm_RF, e1290.2.2.2.2)) rfl ?_
        refine R_ic ho rfl (tgt := 174) rfl ?_
        refine R_ne ?_ ?_
        · refine R_st ho 1 (q' := (173, [(0, .inr (.inr (1, 87))), (1, .inl e1290.1), (2, .inl e1290.2.1), (4, .inl e1290.2.2.1), (5, .inl e1290.2.2.2.1)], [.inl e1290.2.2.2.1], 119, pm_RF, e1290.2.2.2.2)) rfl ?_
          exact R_end (v := some (.inl e1290.2.2.2.1)) rfl (Or.inl rfl) rfl rfl
        · refine R_st ho 4 (q' := (179, [(6, .inl (i_sb e1290.1 1)), (0, .inr (.inr (1, 87))), (1, .inl e1290.1), (2, .inl e1290.2.1), (4, .inl e1290.2.2.1), (5, .inl e1290.2.2.2.1)], [], 119, pm_RF, e1290.2.2.2.2)) rfl ?_
          refine R_pk [0, 2, 4, 6] rfl ?_
          refine R_bind (ok_Q_rounds_L179 G e1290.2.2.2.2 pm_F e1290.2.1 e1290.2.2.1 (i_sb e1290.1 1)) ?_
          intro e1291 q_ hq_
          obtain rfl : q_ = (202, [(0, .inr (.inr (1, 87))), (4, .inl e1291)], [], 119, pm_RF, e1290.2.2.2.2) := hq_
          refine R_st ho 5 (q' := (210, [(0, .inr (.inr (1, 87))), (4, .inl e1291)], [.inl (e1290.2.2.2.2 88 0), .inl e1291], 119, pm_RF, e1290.2.2.2.2)) rfl ?_
          refine R_irem ho rfl ?_
          exact R_end (v := some (.inl (i_rm e1291 (e1290.2.2.2.2 88 0)))) rfl (Or.inl rfl) rfl rfl
theorem ok_Q_draw (G : pm_G) (x1 : Int) (M : pm_M)  : pm_R G mt_Q_draw 1 (0, [(0, .inr (.inr (1, 87))), (1, .inl x1)], [], 119, pm_RF, M) (f_Q_draw x1 M) (pm_Zr mt_Q_draw pm_gI) := by
  have ho : pm_oG G mt_Q_draw := (oa_Q_draw).g G
  unfold f_Q_draw
  refine R_st ho 3 (q' := (5, [(0, .inr (.inr (1, 87))), (1, .inl x1)], [.inl x1, .inl (M 87 54)], 119, pm_RF, M)) rfl ?_
  refine R_irem ho rfl ?_
  refine R_st ho 11 (q' := (26, [(2, .inl (i_rm (M 87 54) x1)), (0, .inr (.inr (1, 87))), (1, .inl x1)], [], 119, pm_RF, (pm_ms M 87 54 (i_rm (i_ad (i_ml (M 87 54) 193) 71) 30059)))) rfl ?_
  refine R_nm fun M1296 => ?_
  refine R_st ho 1 (q' := (27, [(2, .inl (i_rm (M 87 54) x1)), (0, .inr (.inr (1, 87))), (1, .inl x1)], [.inl (i_rm (M 87 54) x1)], 119, pm_RF, M1296)) rfl ?_
  exact R_end (v := some (.inl (i_rm (M 87 54) x1))) rfl (Or.inl rfl) rfl rfl
theorem ok_Q_revolution_J212 (G : pm_G)   (re_ : Int → Int → Int → pm_M → Option (Int × pm_M))  (hre_ : ∀ (y2 : Int) (y3 : Int) (y4 : Int) (M : pm_M), pm_R G mt_Q_revolution 4 (60, [(0, .inr (.inr (1, 87))), (2, .inl y2), (3, .inl y3), (4, .inl y4)], [], 119, pm_RF, M) (re_ y2 y3 y4 M) (fun e_ q_ => q_ = (247, [(3, .inl e_.1)], [], 119, pm_RF, e_.2))) (y2 : Int) (y3 : Int) (y4 : Int) (y6 : Int) (y8 : Int) (M : pm_M) : pm_R G mt_Q_revolution 4 (212, [(0, .inr (.inr (1, 87))), (2, .inl y2), (3, .inl y3), (4, .inl y4), (6, .inl y6), (8, .inl y8)], [], 119, pm_RF, M) (f_Q_revolution_J212 re_ y2 y3 y4 y6 y8 M) (fun e_ q_ => q_ = (247, [(3, .inl e_.1)], [], 119, pm_RF, e_.2)) := by
  have ho : pm_oG G mt_Q_revolution := (oa_Q_revolution).g G
  unfold f_Q_revolution_J212
  refine R_st ho 1 (q' := (214, [(0, .inr (.inr (1, 87))), (2, .inl y2), (3, .inl y3), (4, .inl y4), (6, .inl y6), (8, .inl y8)], [.inl y8], 119, pm_RF, M)) rfl ?_
  refine R_if ho rfl (tgt := 228) rfl ?_
  refine R_eq ?_ ?_
  · refine R_st ho 2 (q' := (231, [(0, .inr (.inr (1, 87))), (2, .inl y2), (3, .inl y3), (4, .inl y4), (6, .inl y6), (8, .inl y8)], [.inl y8, .inl y3], 119, pm_RF, M)) rfl ?_
    refine R_if ho rfl (tgt := 238) rfl ?_
    refine R_eq ?_ ?_
    · refine R_st ho 5 (q' := (60, [(4, .inl (i_ad y4 1)), (3, .inl (i_ad y3 0)), (0, .inr (.inr (1, 87))), (2, .inl y2), (6, .inl y6), (8, .inl y8)], [], 119, pm_RF, M)) rfl ?_
      refine R_pk [0, 2, 3, 4] rfl ?_
      exact hre_ y2 (i_ad y3 0) (i_ad y4 1) M
    · refine R_st ho 6 (q' := (60, [(4, .inl (i_ad y4 1)), (3, .inl (i_ad y3 1)), (0, .inr (.inr (1, 87))), (2, .inl y2), (6, .inl y6), (8, .inl y8)], [], 119, pm_RF, M)) rfl ?_
      refine R_pk [0, 2, 3, 4] rfl ?_
      exact hre_ y2 (i_ad y3 1) (i_ad y4 1) M
  · refine R_st ho 6 (q' := (227, [(0, .inr (.inr (1, 87))), (2, .inl y2), (3, .inl y3), (4, .inl y4), (6, .inl y6), (8, .inl y8)], [.inl (-1), .inl (i_ad 70 y6), .inr (.inr (20, 88))], 119, pm_RF, M)) rfl ?_
    refine R_iast ho rfl rfl ?_
    refine R_nm fun M1301 => ?_
    refine R_st ho 2 (q' := (231, [(0, .inr (.inr (1, 87))), (2, .inl y2), (3, .inl y3), (4, .inl y4), (6, .inl y6), (8, .inl y8)], [.inl y8, .inl y3], 119, pm_RF, M1301)) rfl ?_
    refine R_if ho rfl (tgt := 238) rfl ?_
    refine R_eq ?_ ?_
    · refine R_st ho 5 (q' := (60, [(4, .inl (i_ad y4 1)), (3, .inl (i_ad y3 0)), (0, .inr (.inr (1, 87))), (2, .inl y2), (6, .inl y6), (8, .inl y8)], [], 119, pm_RF, M1301)) rfl ?_
      refine R_pk [0, 2, 3, 4] rfl ?_
      exact hre_ y2 (i_ad y3 0) (i_ad y4 1) M1301
    · refine R_st ho 6 (q' := (60, [(4, .inl (i_ad y4 1)), (3, .inl (i_ad y3 1)), (0, .inr (.inr (1, 87))), (2, .inl y2), (6, .inl y6), (8, .inl y8)], [], 119, pm_RF, M1301)) rfl ?_
      refine R_pk [0, 2, 3, 4] rfl ?_
      exact hre_ y2 (i_ad y3 1) (i_ad y4 1) M1301
theorem ok_Q_revolution_J190 (G : pm_G)   (re_ : Int → Int → Int → pm_M → Option (Int × pm_M))  (hre_ : ∀ (y2 : Int) (y3 : Int) (y4 : Int) (M : pm_M), pm_R G mt_Q_revolution 4 (60, [(0, .inr (.inr (1, 87))), (2, .inl y2), (3, .inl y3), (4, .inl y4)], [], 119, pm_RF, M) (re_ y2 y3 y4 M) (fun e_ q_ => q_ = (247, [(3, .inl e_.1)], [], 119, pm_RF, e_.2))) (y2 : Int) (y3 : Int) (y4 : Int) (y5 : Int) (y6 : Int) (y7 : Int) (y8 : Int) (M : pm_M) : pm_R G mt_Q_revolution 4 (190, [(0, .inr (.inr (1, 87))), (2, .inl y2), (3, .inl y3), (4, .inl y4), (5, .inl y5), (6, .inl y6), (7, .inl y7), (8, .inl y8)], [], 119, pm_RF, M) (f_Q_revolution_J190 re_ y2 y3 y4 y5 y6 y7 y8 M) (fun e_ q_ => q_ = (247, [(3, .inl e_.1)], [], 119, pm_RF, e_.2)) := by
  have ho : pm_oG G mt_Q_revolution := (oa_Q_revolution).g G
  unfold f_Q_revolution_J190
  refine R_st ho 1 (q' := (192, [(0, .inr (.inr (1, 87))), (2, .inl y2), (3, .inl y3), (4, .inl y4), (5, .inl y5), (6, .inl y6), (7, .inl y7), (8, .inl y8)], [.inl y8], 119, pm_RF, M)) rfl ?_
  refine R_if ho rfl (tgt := 212) rfl ?_
  refine R_eq ?_ ?_
  · refine R_pk [0, 2, 3, 4, 6, 8] rfl ?_
    exact ok_Q_revolution_J212 G re_ hre_ y2 y3 y4 y6 y8 M
  · refine R_st ho 2 (q' := (198, [(0, .inr (.inr (1, 87))), (2, .inl y2), (3, .inl y3), (4, .inl y4), (5, .inl y5), (6, .inl y6), (7, .inl y7), (8, .inl y8)], [.inl 1, .inl y5], 119, pm_RF, M)) rfl ?_
    refine R_ic ho rfl (tgt := 212) rfl ?_
    refine R_ne ?_ ?_
    · refine R_st ho 3 (q' := (206, [(0, .inr (.inr (1, 87))), (2, .inl y2), (3, .inl y3), (4, .inl y4), (5, .inl y5), (6, .inl y6), (7, .inl y7), (8, .inl y8)], [.inl y7, .inl y6, .inr (.inr (1, 87))], 119, pm_RF, M)) rfl ?_
      refine R_callV ho mv_Q_changes lk_1_143 rfl (As := [.inl y6, .inl y7]) (kd := 1) (a := 87) (st := []) rfl rfl (Nat.le_of_ble_eq_true rfl) rfl (by decide) (Nat.le_of_ble_eq_true rfl) (ok_Q_changes G y6 y7 M ) (fun M1302 => ?_)
      show pm_R _ _ _ (209, [(0, .inr (.inr (1, 87))), (2, .inl y2), (3, .inl y3), (4, .inl y4), (5, .inl y5), (6, .inl y6), (7, .inl y7), (8, .inl y8)], [], 119, pm_RF, M1302) _ _
      refine R_st ho 3 (q' := (231, [(0, .inr (.inr (1, 87))), (2, .inl y2), (3, .inl y3), (4, .inl y4), (5, .inl y5), (6, .inl y6), (7, .inl y7), (8, .inl y8)], [.inl y8, .inl y3], 119, pm_RF, M1302)) rfl ?_
      refine R_if ho rfl (tgt := 238) rfl ?_
      refine R_eq ?_ ?_
      · refine R_st ho 5 (q' := (60, [(4, .inl (i_ad y4 1)), (3, .inl (i_ad y3 0)), (0, .inr (.inr (1, 87))), (2, .inl y2), (5, .inl y5), (6, .inl y6), (7, .inl y7), (8, .inl y8)], [], 119, pm_RF, M1302)) rfl ?_
        refine R_pk [0, 2, 3, 4] rfl ?_
        exact hre_ y2 (i_ad y3 0) (i_ad y4 1) M1302
      · refine R_st ho 6 (q' := (60, [(4, .inl (i_ad y4 1)), (3, .inl (i_ad y3 1)), (0, .inr (.inr (1, 87))), (2, .inl y2), (5, .inl y5), (6, .inl y6), (7, .inl y7), (8, .inl y8)], [], 119, pm_RF, M1302)) rfl ?_
        refine R_pk [0, 2, 3, 4] rfl ?_
        exact hre_ y2 (i_ad y3 1) (i_ad y4 1) M1302
    · refine R_pk [0, 2, 3, 4, 6, 8] rfl ?_
      exact ok_Q_revolution_J212 G re_ hre_ y2 y3 y4 y6 y8 M
theorem ok_Q_revolution_L60 (G : pm_G)    : ∀ (n_ : Nat) (y2 : Int) (y3 : Int) (y4 : Int) (M : pm_M), pm_R G mt_Q_revolution 4 (60, [(0, .inr (.inr (1, 87))), (2, .inl y2), (3, .inl y3), (4, .inl y4)], [], 119, pm_RF, M) (f_Q_revolution_L60 n_ y2 y3 y4 M) (fun e_ q_ => q_ = (247, [(3, .inl e_.1)], [], 119, pm_RF, e_.2)) := by
  have ho : pm_oG G mt_Q_revolution := (oa_Q_revolution).g G
  intro n_
  induction n_ with
  | zero => intro _ _ _ _; exact R_none
  | succ n_ ih_ =>
    intro y2 y3 y4 M
    rw [f_Q_revolution_L60]
    refine R_st ho 2 (q' := (63, [(0, .inr (.inr (1, 87))), (2, .inl y2), (3, .inl y3), (4, .inl y4)], [.inl y2, .inl y4], 119, pm_RF, M)) rfl ?_
    refine R_ic ho rfl (tgt := 247) rfl ?_
    refine R_ge ?_ ?_
    · refine R_pk [3] rfl ?_
      exact R_ret rfl
    · refine R_st ho 2 (q' := (68, [(0, .inr (.inr (1, 87))), (2, .inl y2), (3, .inl y3), (4, .inl y4)], [.inl 3, .inr (.inr (1, 87))], 119, pm_RF, M)) rfl ?_
      refine R_callV ho mv_Q_draw lk_1_441 rfl (As := [.inl 3]) (kd := 1) (a := 87) (st := []) rfl rfl (Nat.le_of_ble_eq_true rfl) rfl (by decide) (Nat.le_of_ble_eq_true rfl) (ok_Q_draw G 3 M ) (fun r1297 => ?_)
      show pm_R _ _ _ (71, [(0, .inr (.inr (1, 87))), (2, .inl y2), (3, .inl y3), (4, .inl y4)], [.inl r1297.1], 119, pm_RF, r1297.2) _ _
      refine R_st ho 3 (q' := (76, [(5, .inl r1297.1), (0, .inr (.inr (1, 87))), (2, .inl y2), (3, .inl y3), (4, .inl y4)], [.inl r1297.1, .inr (.inr (1, 87))], 119, pm_RF, r1297.2)) rfl ?_
      refine R_if ho rfl (tgt := 88) rfl ?_
      refine R_ne ?_ ?_
      · refine R_st ho 5 (q' := (94, [(5, .inl r1297.1), (0, .inr (.inr (1, 87))), (2, .inl y2), (3, .inl y3), (4, .inl y4)], [.inl (r1297.2 88 1), .inr (.inr (1, 87))], 119, pm_RF, r1297.2)) rfl ?_
        refine R_callV ho mv_Q_draw lk_1_441 rfl (As := [.inl (r1297.2 88 1)]) (kd := 1) (a := 87) (st := []) rfl rfl (Nat.le_of_ble_eq_true rfl) rfl (by decide) (Nat.le_of_ble_eq_true rfl) (ok_Q_draw G (r1297.2 88 1) r1297.2 ) (fun r1298 => ?_)
        show pm_R _ _ _ (97, [(5, .inl r1297.1), (0, .inr (.inr (1, 87))), (2, .inl y2), (3, .inl y3), (4, .inl y4)], [.inl r1298.1], 119, pm_RF, r1298.2) _ _
        refine R_st ho 6 (q' := (106, [(6, .inl r1298.1), (5, .inl r1297.1), (0, .inr (.inr (1, 87))), (2, .inl y2), (3, .inl y3), (4, .inl y4)], [.inl (r1298.2 88 0), .inr (.inr (1, 87))], 119, pm_RF, r1298.2)) rfl ?_
        refine R_callV ho mv_Q_draw lk_1_441 rfl (As := [.inl (r1298.2 88 0)]) (kd := 1) (a := 87) (st := []) rfl rfl (Nat.le_of_ble_eq_true rfl) rfl (by decide) (Nat.le_of_ble_eq_true rfl) (ok_Q_draw G (r1298.2 88 0) r1298.2 ) (fun r1299 => ?_)
        show pm_R _ _ _ (109, [(6, .inl r1298.1), (5, .inl r1297.1), (0, .inr (.inr (1, 87))), (2, .inl y2), (3, .inl y3), (4, .inl y4)], [.inl r1299.1], 119, pm_RF, r1299.2) _ _
        refine R_st ho 2 (q' := (113, [(7, .inl r1299.1), (6, .inl r1298.1), (5, .inl r1297.1), (0, .inr (.inr (1, 87))), (2, .inl y2), (3, .inl y3), (4, .inl y4)], [.inl r1297.1], 119, pm_RF, r1299.2)) rfl ?_
        refine R_if ho rfl (tgt := 127) rfl ?_
        refine R_ne ?_ ?_
        · refine R_st ho 3 (q' := (121, [(7, .inl r1299.1), (6, .inl r1298.1), (5, .inl r1297.1), (0, .inr (.inr (1, 87))), (2, .inl y2), (3, .inl y3), (4, .inl y4)], [.inl r1299.1, .inl r1298.1, .inr (.inr (1, 87))], 119, pm_RF, r1299.2)) rfl ?_
          refine R_callV ho mv_Q_canPut lk_1_133 rfl (As := [.inl r1298.1, .inl r1299.1]) (kd := 1) (a := 87) (st := []) rfl rfl (Nat.le_of_ble_eq_true rfl) rfl (by decide) (Nat.le_of_ble_eq_true rfl) (ok_Q_canPut G r1298.1 r1299.1 r1299.2 ) (fun r1300 => ?_)
          show pm_R _ _ _ (124, [(7, .inl r1299.1), (6, .inl r1298.1), (5, .inl r1297.1), (0, .inr (.inr (1, 87))), (2, .inl y2), (3, .inl y3), (4, .inl y4)], [.inl r1300], 119, pm_RF, r1299.2) _ _
          refine R_st ho 3 (q' := (167, [(8, .inl r1300), (7, .inl r1299.1), (6, .inl r1298.1), (5, .inl r1297.1), (0, .inr (.inr (1, 87))), (2, .inl y2), (3, .inl y3), (4, .inl y4)], [.inl r1300], 119, pm_RF, r1299.2)) rfl ?_
          refine R_if ho rfl (tgt := 190) rfl ?_
          refine R_eq ?_ ?_
          · refine R_pk [0, 2, 3, 4, 5, 6, 7, 8] rfl ?_
            exact ok_Q_revolution_J190 G (f_Q_revolution_L60 n_) ih_ y2 y3 y4 r1297.1 r1298.1 r1299.1 r1300 r1299.2
          · refine R_st ho 1 (q' := (172, [(8, .inl r1300), (7, .inl r1299.1), (6, .inl r1298.1), (5, .inl r1297.1), (0, .inr (.inr (1, 87))), (2, .inl y2), (3, .inl y3), (4, .inl y4)], [.inl r1297.1], 119, pm_RF, r1299.2)) rfl ?_
            refine R_if ho rfl (tgt := 190) rfl ?_
            refine R_ne ?_ ?_
            · refine R_st ho 6 (q' := (186, [(8, .inl r1300), (7, .inl r1299.1), (6, .inl r1298.1), (5, .inl r1297.1), (0, .inr (.inr (1, 87))), (2, .inl y2), (3, .inl y3), (4, .inl y4)], [.inl r1298.1, .inl (i_ad 70 r1299.1), .inr (.inr (20, 88))], 119, pm_RF, r1299.2)) rfl ?_
              refine R_iast ho rfl rfl ?_
              refine R_nm fun M1303 => ?_
              refine R_st ho 3 (q' := (231, [(8, .inl r1300), (7, .inl r1299.1), (6, .inl r1298.1), (5, .inl r1297.1), (0, .inr (.inr (1, 87))), (2, .inl y2), (3, .inl y3), (4, .inl y4)], [.inl r1300, .inl y3], 119, pm_RF, M1303)) rfl ?_
              refine R_if ho rfl (tgt := 238) rfl ?_
              refine R_eq ?_ ?_
              · refine R_st ho 5 (q' := (60, [(4, .inl (i_ad y4 1)), (3, .inl (i_ad y3 0)), (8, .inl r1300), (7, .inl r1299.1), (6, .inl r1298.1), (5, .inl r1297.1), (0, .inr (.inr (1, 87))), (2, .inl y2)], [], 119, pm_RF, M1303)) rfl ?_
                refine R_pk [0, 2, 3, 4] rfl ?_
                exact ih_ y2 (i_ad y3 0) (i_ad y4 1) M1303
              · refine R_st ho 6 (q' := (60, [(4, .inl (i_ad y4 1)), (3, .inl (i_ad y3 1)), (8, .inl r1300), (7, .inl r1299.1), (6, .inl r1298.1), (5, .inl r1297.1), (0, .inr (.inr (1, 87))), (2, .inl y2)], [], 119, pm_RF, M1303)) rfl ?_
                refine R_pk [0, 2, 3, 4] rfl ?_
                exact ih_ y2 (i_ad y3 1) (i_ad y4 1) M1303
            · refine R_pk [0, 2, 3, 4, 5, 6, 7, 8] rfl ?_
              exact ok_Q_revolution_J190 G (f_Q_revolution_L60 n_) ih_ y2 y3 y4 r1297.1 r1298.1 r1299.1 r1300 r1299.2
        · refine R_st ho 2 (q' := (130, [(7, .inl r1299.1), (6, .inl r1298.1), (5, .inl r1297.1), (0, .inr (.inr (1, 87))), (2, .inl y2), (3, .inl y3), (4, .inl y4)], [.inl 1, .inl r1297.1], 119, pm_RF, r1299.2)) rfl ?_
          refine R_ic ho rfl (tgt := 144) rfl ?_
          refine R_ne ?_ ?_
          · refine R_st ho 3 (q' := (138, [(7, .inl r1299.1), (6, .inl r1298.1), (5, .inl r1297.1), (0, .inr (.inr (1, 87))), (2, .inl y2), (3, .inl y3), (4, .inl y4)], [.inl r1299.1, .inl r1298.1, .inr (.inr (1, 87))], 119, pm_RF, r1299.2)) rfl ?_
            refine R_callV ho mv_Q_canChange lk_1_140 rfl (As := [.inl r1298.1, .inl r1299.1]) (kd := 1) (a := 87) (st := []) rfl rfl (Nat.le_of_ble_eq_true rfl) rfl (by decide) (Nat.le_of_ble_eq_true rfl) (ok_Q_canChange G r1298.1 r1299.1 r1299.2 ) (fun r1304 => ?_)
            show pm_R _ _ _ (141, [(7, .inl r1299.1), (6, .inl r1298.1), (5, .inl r1297.1), (0, .inr (.inr (1, 87))), (2, .inl y2), (3, .inl y3), (4, .inl y4)], [.inl r1304], 119, pm_RF, r1299.2) _ _
            refine R_st ho 3 (q' := (167, [(8, .inl r1304), (7, .inl r1299.1), (6, .inl r1298.1), (5, .inl r1297.1), (0, .inr (.inr (1, 87))), (2, .inl y2), (3, .inl y3), (4, .inl y4)], [.inl r1304], 119, pm_RF, r1299.2)) rfl ?_
            refine R_if ho rfl (tgt := 190) rfl ?_
            refine R_eq ?_ ?_
            · refine R_pk [0, 2, 3, 4, 5, 6, 7, 8] rfl ?_
              exact ok_Q_revolution_J190 G (f_Q_revolution_L60 n_) ih_ y2 y3 y4 r1297.1 r1298.1 r1299.1 r1304 r1299.2
            · refine R_st ho 1 (q' := (172, [(8, .inl r1304), (7, .inl r1299.1), (6, .inl r1298.1), (5, .inl r1297.1), (0, .inr (.inr (1, 87))), (2, .inl y2), (3, .inl y3), (4, .inl y4)], [.inl r1297.1], 119, pm_RF, r1299.2)) rfl ?_
              refine R_if ho rfl (tgt := 190) rfl ?_
              refine R_ne ?_ ?_
              · refine R_st ho 6 (q' := (186, [(8, .inl r1304), (7, .inl r1299.1), (6, .inl r1298.1), (5, .inl r1297.1), (0, .inr (.inr (1, 87))), (2, .inl y2), (3, .inl y3), (4, .inl y4)], [.inl r1298.1, .inl (i_ad 70 r1299.1), .inr (.inr (20, 88))], 119, pm_RF, r1299.2)) rfl ?_
                refine R_iast ho rfl rfl ?_
                refine R_nm fun M1305 => ?_
                refine R_st ho 3 (q' := (231, [(8, .inl r1304), (7, .inl r1299.1), (6, .inl r1298.1), (5, .inl r1297.1), (0, .inr (.inr (1, 87))), (2, .inl y2), (3, .inl y3), (4, .inl y4)], [.inl r1304, .inl y3], 119, pm_RF, M1305)) rfl ?_
                refine R_if ho rfl (tgt := 238) rfl ?_
                refine R_eq ?_ ?_
                · refine R_st ho 5 (q' := (60, [(4, .inl (i_ad y4 1)), (3, .inl (i_ad y3 0)), (8, .inl r1304), (7, .inl r1299.1), (6, .inl r1298.1), (5, .inl r1297.1), (0, .inr (.inr (1, 87))), (2, .inl y2)], [], 119, pm_RF, M1305)) rfl ?_
                  refine R_pk [0, 2, 3, 4] rfl ?_
                  exact ih_ y2 (i_ad y3 0) (i_ad y4 1) M1305
                · refine R_st ho 6 (q' := (60, [(4, .inl (i_ad y4 1)), (3, .inl (i_ad y3 1)), (8, .inl r1304), (7, .inl r1299.1), (6, .inl r1298.1), (5, .inl r1297.1), (0, .inr (.inr (1, 87))), (2, .inl y2)], [], 119, pm_RF, M1305)) rfl ?_
                  refine R_pk [0, 2, 3, 4] rfl ?_
                  exact ih_ y2 (i_ad y3 1) (i_ad y4 1) M1305
              · refine R_pk [0, 2, 3, 4, 5, 6, 7, 8] rfl ?_
                exact ok_Q_revolution_J190 G (f_Q_revolution_L60 n_) ih_ y2 y3 y4 r1297.1 r1298.1 r1299.1 r1304 r1299.2
          · refine R_st ho 5 (q' := (153, [(7, .inl r1299.1), (6, .inl r1298.1), (5, .inl r1297.1), (0, .inr (.inr (1, 87))), (2, .inl y2), (3, .inl y3), (4, .inl y4)], [.inl (i_ad 70 r1298.1), .inr (.inr (20, 88))], 119, pm_RF, r1299.2)) rfl ?_
            refine R_iald ho rfl rfl ?_
            refine R_st ho 1 (q' := (155, [(7, .inl r1299.1), (6, .inl r1298.1), (5, .inl r1297.1), (0, .inr (.inr (1, 87))), (2, .inl y2), (3, .inl y3), (4, .inl y4)], [.inl (-1), .inl (r1299.2 88 ((i_ad 70 r1298.1)).toNat)], 119, pm_RF, r1299.2)) rfl ?_
            refine R_ic ho rfl (tgt := 162) rfl ?_
            refine R_eq ?_ ?_
            · refine R_st ho 4 (q' := (190, [(8, .inl 0), (7, .inl r1299.1), (6, .inl r1298.1), (5, .inl r1297.1), (0, .inr (.inr (1, 87))), (2, .inl y2), (3, .inl y3), (4, .inl y4)], [], 119, pm_RF, r1299.2)) rfl ?_
              refine R_pk [0, 2, 3, 4, 5, 6, 7, 8] rfl ?_
              exact ok_Q_revolution_J190 G (f_Q_revolution_L60 n_) ih_ y2 y3 y4 r1297.1 r1298.1 r1299.1 0 r1299.2
            · refine R_st ho 6 (q' := (172, [(8, .inl 1), (7, .inl r1299.1), (6, .inl r1298.1), (5, .inl r1297.1), (0, .inr (.inr (1, 87))), (2, .inl y2), (3, .inl y3), (4, .inl y4)], [.inl r1297.1], 119, pm_RF, r1299.2)) rfl ?_
              refine R_if ho rfl (tgt := 190) rfl ?_
              refine R_ne ?_ ?_
              · refine R_st ho 6 (q' := (186, [(8, .inl 1), (7, .inl r1299.1), (6, .inl r1298.1), (5, .inl r1297.1), (0, .inr (.inr (1, 87))), (2, .inl y2), (3, .inl y3), (4, .inl y4)], [.inl r1298.1, .inl (i_ad 70 r1299.1), .inr (.inr (20, 88))], 119, pm_RF, r1299.2)) rfl ?_
                refine R_iast ho rfl rfl ?_
                refine R_nm fun M1306 => ?_
                refine R_st ho 10 (q' := (60, [(4, .inl (i_ad y4 1)), (3, .inl (i_ad y3 1)), (8, .inl 1), (7, .inl r1299.1), (6, .inl r1298.1), (5, .inl r1297.1), (0, .inr (.inr (1, 87))), (2, .inl y2)], [], 119, pm_RF, M1306)) rfl ?_
                refine R_pk [0, 2, 3, 4] rfl ?_
                exact ih_ y2 (i_ad y3 1) (i_ad y4 1) M1306
              · refine R_pk [0, 2, 3, 4, 5, 6, 7, 8] rfl ?_
                exact ok_Q_revolution_J190 G (f_Q_revolution_L60 n_) ih_ y2 y3 y4 r1297.1 r1298.1 r1299.1 1 r1299.2
      · refine R_st ho 4 (q' := (94, [(5, .inl r1297.1), (0, .inr (.inr (1, 87))), (2, .inl y2), (3, .inl y3), (4, .inl y4)], [.inl (r1297.2 88 0), .inr (.inr (1, 87))], 119, pm_RF, r1297.2)) rfl ?_
        refine R_callV ho mv_Q_draw lk_1_441 rfl (As := [.inl (r1297.2 88 0)]) (kd := 1) (a := 87) (st := []) rfl rfl (Nat.le_of_ble_eq_true rfl) rfl (by decide) (Nat.le_of_ble_eq_true rfl) (ok_Q_draw G (r1297.2 88 0) r1297.2 ) (fun r1307 => ?_)
        show pm_R _ _ _ (97, [(5, .inl r1297.1), (0, .inr (.inr (1, 87))), (2, .inl y2), (3, .inl y3), (4, .inl y4)], [.inl r1307.1], 119, pm_RF, r1307.2) _ _
        refine R_st ho 6 (q' := (106, [(6, .inl r1307.1), (5, .inl r1297.1), (0, .inr (.inr (1, 87))), (2, .inl y2), (3, .inl y3), (4, .inl y4)], [.inl (r1307.2 88 0), .inr (.inr (1, 87))], 119, pm_RF, r1307.2)) rfl ?_
        refine R_callV ho mv_Q_draw lk_1_441 rfl (As := [.inl (r1307.2 88 0)]) (kd := 1) (a := 87) (st := []) rfl rfl (Nat.le_of_ble_eq_true rfl) rfl (by decide) (Nat.le_of_ble_eq_true rfl) (ok_Q_draw G (r1307.2 88 0) r1307.2 ) (fun r1308 => ?_)
        show pm_R _ _ _ (109, [(6, .inl r1307.1), (5, .inl r1297.1), (0, .inr (.inr (1, 87))), (2, .inl y2), (3, .inl y3), (4, .inl y4)], [.inl r1308.1], 119, pm_RF, r1308.2) _ _
        refine R_st ho 2 (q' := (113, [(7, .inl r1308.1), (6, .inl r1307.1), (5, .inl r1297.1), (0, .inr (.inr (1, 87))), (2, .inl y2), (3, .inl y3), (4, .inl y4)], [.inl r1297.1], 119, pm_RF, r1308.2)) rfl ?_
        refine R_if ho rfl (tgt := 127) rfl ?_
        refine R_ne ?_ ?_
        · refine R_st ho 3 (q' := (121, [(7, .inl r1308.1), (6, .inl r1307.1), (5, .inl r1297.1), (0, .inr (.inr (1, 87))), (2, .inl y2), (3, .inl y3), (4, .inl y4)], [.inl r1308.1, .inl r1307.1, .inr (.inr (1, 87))], 119, pm_RF, r1308.2)) rfl ?_
          refine R_callV ho mv_Q_canPut lk_1_133 rfl (As := [.inl r1307.1, .inl r1308.1]) (kd := 1) (a := 87) (st := []) rfl rfl (Nat.le_of_ble_eq_true rfl) rfl (by decide) (Nat.le_of_ble_eq_true rfl) (ok_Q_canPut G r1307.1 r1308.1 r1308.2 ) (fun r1309 => ?_)
          show pm_R _ _ _ (124, [(7, .inl r1308.1), (6, .inl r1307.1), (5, .inl r1297.1), (0, .inr (.inr (1, 87))), (2, .inl y2), (3, .inl y3), (4, .inl y4)], [.inl r1309], 119, pm_RF, r1308.2) _ _
          refine R_st ho 3 (q' := (167, [(8, .inl r1309), (7, .inl r1308.1), (6, .inl r1307.1), (5, .inl r1297.1), (0, .inr (.inr (1, 87))), (2, .inl y2), (3, .inl y3), (4, .inl y4)], [.inl r1309], 119, pm_RF, r1308.2)) rfl ?_
          refine R_if ho rfl (tgt := 190) rfl ?_
          refine R_eq ?_ ?_
          · refine R_pk [0, 2, 3, 4, 5, 6, 7, 8] rfl ?_
            exact ok_Q_revolution_J190 G (f_Q_revolution_L60 n_) ih_ y2 y3 y4 r1297.1 r1307.1 r1308.1 r1309 r1308.2
          · refine R_st ho 1 (q' := (172, [(8, .inl r1309), (7, .inl r1308.1), (6, .inl r1307.1), (5, .inl r1297.1), (0, .inr (.inr (1, 87))), (2, .inl y2), (3, .inl y3), (4, .inl y4)], [.inl r1297.1], 119, pm_RF, r1308.2)) rfl ?_
            refine R_if ho rfl (tgt := 190) rfl ?_
            refine R_ne ?_ ?_
            · refine R_st ho 6 (q' := (186, [(8, .inl r1309), (7, .inl r1308.1), (6, .inl r1307.1), (5, .inl r1297.1), (0, .inr (.inr (1, 87))), (2, .inl y2), (3, .inl y3), (4, .inl y4)], [.inl r1307.1, .inl (i_ad 70 r1308.1), .inr (.inr (20, 88))], 119, pm_RF, r1308.2)) rfl ?_
              refine R_iast ho rfl rfl ?_
              refine R_nm fun M1310 => ?_
              refine R_st ho 3 (q' := (231, [(8, .inl r1309), (7, .inl r1308.1), (6, .inl r1307.1), (5, .inl r1297.1), (0, .inr (.inr (1, 87))), (2, .inl y2), (3, .inl y3), (4, .inl y4)], [.inl r1309, .inl y3], 119, pm_RF, M1310)) rfl ?_
              refine R_if ho rfl (tgt := 238) rfl ?_
              refine R_eq ?_ ?_
              · refine R_st ho 5 (q' := (60, [(4, .inl (i_ad y4 1)), (3, .inl (i_ad y3 0)), (8, .inl r1309), (7, .inl r1308.1), (6, .inl r1307.1), (5, .inl r1297.1), (0, .inr (.inr (1, 87))), (2, .inl y2)], [], 119, pm_RF, M1310)) rfl ?_
                refine R_pk [0, 2, 3, 4] rfl ?_
                exact ih_ y2 (i_ad y3 0) (i_ad y4 1) M1310
              · refine R_st ho 6 (q' := (60, [(4, .inl (i_ad y4 1)), (3, .inl (i_ad y3 1)), (8, .inl r1309), (7, .inl r1308.1), (6, .inl r1307.1), (5, .inl r1297.1), (0, .inr (.inr (1, 87))), (2, .inl y2)], [], 119, pm_RF, M1310)) rfl ?_
                refine R_pk [0, 2, 3, 4] rfl ?_
                exact ih_ y2 (i_ad y3 1) (i_ad y4 1) M1310
            · refine R_pk [0, 2, 3, 4, 5, 6, 7, 8] rfl ?_
              exact ok_Q_revolution_J190 G (f_Q_revolution_L60 n_) ih_ y2 y3 y4 r1297.1 r1307.1 r1308.1 r1309 r1308.2
        · refine R_st ho 2 (q' := (130, [(7, .inl r1308.1), (6, .inl r1307.1), (5, .inl r1297.1), (0, .inr (.inr (1, 87))), (2, .inl y2), (3, .inl y3), (4, .inl y4)], [.inl 1, .inl r1297.1], 119, pm_RF, r1308.2)) rfl ?_
          refine R_ic ho rfl (tgt := 144) rfl ?_
          refine R_ne ?_ ?_
          · refine R_st ho 3 (q' := (138, [(7, .inl r1308.1), (6, .inl r1307.1), (5, .inl r1297.1), (0, .inr (.inr (1, 87))), (2, .inl y2), (3, .inl y3), (4, .inl y4)], [.inl r1308.1, .inl r1307.1, .inr (.inr (1, 87))], 119, pm_RF, r1308.2)) rfl ?_
            refine R_callV ho mv_Q_canChange lk_1_140 rfl (As := [.inl r1307.1, .inl r1308.1]) (kd := 1) (a := 87) (st := []) rfl rfl (Nat.le_of_ble_eq_true rfl) rfl (by decide) (Nat.le_of_ble_eq_true rfl) (ok_Q_canChange G r1307.1 r1308.1 r1308.2 ) (fun r1311 => ?_)
            show pm_R _ _ _ (141, [(7, .inl r1308.1), (6, .inl r1307.1), (5, .inl r1297.1), (0, .inr (.inr (1, 87))), (2, .inl y2), (3, .inl y3), (4, .inl y4)], [.inl r1311], 119, pm_RF, r1308.2) _ _
            refine R_st ho 3 (q' := (167, [(8, .inl r1311), (7, .inl r1308.1), (6, .inl r1307.1), (5, .inl r1297.1), (0, .inr (.inr (1, 87))), (2, .inl y2), (3, .inl y3), (4, .inl y4)], [.inl r1311], 119, pm_RF, r1308.2)) rfl ?_
            refine R_if ho rfl (tgt := 190) rfl ?_
            refine R_eq ?_ ?_
            · refine R_pk [0, 2, 3, 4, 5, 6, 7, 8] rfl ?_
              exact ok_Q_revolution_J190 G (f_Q_revolution_L60 n_) ih_ y2 y3 y4 r1297.1 r1307.1 r1308.1 r1311 r1308.2
            · refine R_st ho 1 (q' := (172, [(8, .inl r1311), (7, .inl r1308.1), (6, .inl r1307.1), (5, .inl r1297.1), (0, .inr (.inr (1, 87))), (2, .inl y2), (3, .inl y3), (4, .inl y4)], [.inl r1297.1], 119, pm_RF, r1308.2)) rfl ?_
              refine R_if ho rfl (tgt := 190) rfl ?_
              refine R_ne ?_ ?_
              · refine R_st ho 6 (q' := (186, [(8, .inl r1311), (7, .inl r1308.1), (6, .inl r1307.1), (5, .inl r1297.1), (0, .inr (.inr (1, 87))), (2, .inl y2), (3, .inl y3), (4, .inl y4)], [.inl r1307.1, .inl (i_ad 70 r1308.1), .inr (.inr (20, 88))], 119, pm_RF, r1308.2)) rfl ?_
                refine R_iast ho rfl rfl ?_
                refine R_nm fun M1312 => ?_
                refine R_st ho 3 (q' := (231, [(8, .inl r1311), (7, .inl r1308.1), (6, .inl r1307.1), (5, .inl r1297.1), (0, .inr (.inr (1, 87))), (2, .inl y2), (3, .inl y3), (4, .inl y4)], [.inl r1311, .inl y3], 119, pm_RF, M1312)) rfl ?_
                refine R_if ho rfl (tgt := 238) rfl ?_
                refine R_eq ?_ ?_
                · refine R_st ho 5 (q' := (60, [(4, .inl (i_ad y4 1)), (3, .inl (i_ad y3 0)), (8, .inl r1311), (7, .inl r1308.1), (6, .inl r1307.1), (5, .inl r1297.1), (0, .inr (.inr (1, 87))), (2, .inl y2)], [], 119, pm_RF, M1312)) rfl ?_
                  refine R_pk [0, 2, 3, 4] rfl ?_
                  exact ih_ y2 (i_ad y3 0) (i_ad y4 1) M1312
                · refine R_st ho 6 (q' := (60, [(4, .inl (i_ad y4 1)), (3, .inl (i_ad y3 1)), (8, .inl r1311), (7, .inl r1308.1), (6, .inl r1307.1), (5, .inl r1297.1), (0, .inr (.inr (1, 87))), (2, .inl y2)], [], 119, pm_RF, M1312)) rfl ?_
                  refine R_pk [0, 2, 3, 4] rfl ?_
                  exact ih_ y2 (i_ad y3 1) (i_ad y4 1) M1312
              · refine R_pk [0, 2, 3, 4, 5, 6, 7, 8] rfl ?_
                exact ok_Q_revolution_J190 G (f_Q_revolution_L60 n_) ih_ y2 y3 y4 r1297.1 r1307.1 r1308.1 r1311 r1308.2
          · refine R_st ho 5 (q' := (153, [(7, .inl r1308.1), (6, .inl r1307.1), (5, .inl r1297.1), (0, .inr (.inr (1, 87))), (2, .inl y2), (3, .inl y3), (4, .inl y4)], [.inl (i_ad 70 r1307.1), .inr (.inr (20, 88))], 119, pm_RF, r1308.2)) rfl ?_
            refine R_iald ho rfl rfl ?_
            refine R_st ho 1 (q' := (155, [(7, .inl r1308.1), (6, .inl r1307.1), (5, .inl r1297.1), (0, .inr (.inr (1, 87))), (2, .inl y2), (3, .inl y3), (4, .inl y4)], [.inl (-1), .inl (r1308.2 88 ((i_ad 70 r1307.1)).toNat)], 119, pm_RF, r1308.2)) rfl ?_
            refine R_ic ho rfl (tgt := 162) rfl ?_
            refine R_eq ?_ ?_
            · refine R_st ho 4 (q' := (190, [(8, .inl 0), (7, .inl r1308.1), (6, .inl r1307.1), (5, .inl r1297.1), (0, .inr (.inr (1, 87))), (2, .inl y2), (3, .inl y3), (4, .inl y4)], [], 119, pm_RF, r1308.2)) rfl ?_
              refine R_pk [0, 2, 3, 4, 5, 6, 7, 8] rfl ?_
              exact ok_Q_revolution_J190 G (f_Q_revolution_L60 n_) ih_ y2 y3 y4 r1297.1 r1307.1 r1308.1 0 r1308.2
            · refine R_st ho 6 (q' := (172, [(8, .inl 1), (7, .inl r1308.1), (6, .inl r1307.1), (5, .inl r1297.1), (0, .inr (.inr (1, 87))), (2, .inl y2), (3, .inl y3), (4, .inl y4)], [.inl r1297.1], 119, pm_RF, r1308.2)) rfl ?_
              refine R_if ho rfl (tgt := 190) rfl ?_
              refine R_ne ?_ ?_
              · refine R_st ho 6 (q' := (186, [(8, .inl 1), (7, .inl r1308.1), (6, .inl r1307.1), (5, .inl r1297.1), (0, .inr (.inr (1, 87))), (2, .inl y2), (3, .inl y3), (4, .inl y4)], [.inl r1307.1, .inl (i_ad 70 r1308.1), .inr (.inr (20, 88))], 119, pm_RF, r1308.2)) rfl ?_
                refine R_iast ho rfl rfl ?_
                refine R_nm fun M1313 => ?_
                refine R_st ho 10 (q' := (60, [(4, .inl (i_ad y4 1)), (3, .inl (i_ad y3 1)), (8, .inl 1), (7, .inl r1308.1), (6, .inl r1307.1), (5, .inl r1297.1), (0, .inr (.inr (1, 87))), (2, .inl y2)], [], 119, pm_RF, M1313)) rfl ?_
                refine R_pk [0, 2, 3, 4] rfl ?_
                exact ih_ y2 (i_ad y3 1) (i_ad y4 1) M1313
              · refine R_pk [0, 2, 3, 4, 5, 6, 7, 8] rfl ?_
                exact ok_Q_revolution_J190 G (f_Q_revolution_L60 n_) ih_ y2 y3 y4 r1297.1 r1307.1 r1308.1 1 r1308.2
theorem ok_Q_revolution (G : pm_G) (x1 : Int) (x2 : Int) (M : pm_M)  : pm_R G mt_Q_revolution 4 (0, [(0, .inr (.inr (1, 87))), (1, .inl x1), (2, .inl x2)], [], 119, pm_RF, M) (f_Q_revolution x1 x2 M) (pm_Zr mt_Q_revolution pm_gI) := by
  have ho : pm_oG G mt_Q_revolution := (oa_Q_revolution).g G
  unfold f_Q_revolution
  refine R_st ho 3 (q' := (5, [(0, .inr (.inr (1, 87))), (1, .inl x1), (2, .inl x2)], [.inl 9999, .inl 0, .inl x1], 119, pm_RF, M)) rfl ?_
  refine R_callS ho ms_Q_in lk_1_118 rfl (As := [.inl x1, .inl 0, .inl 9999]) (st := []) rfl (Nat.le_of_ble_eq_true rfl) rfl (by decide) (Nat.le_of_ble_eq_true rfl) (ok_Q_in G x1 0 9999 M ) (fun r1292 => ?_)
  show pm_R _ _ _ (8, [(0, .inr (.inr (1, 87))), (1, .inl x1), (2, .inl x2)], [.inl r1292], 119, pm_RF, M) _ _
  refine R_if ho rfl (tgt := 39) rfl ?_
  refine R_eq ?_ ?_
  · refine R_st ho 1 (q' := (40, [(0, .inr (.inr (1, 87))), (1, .inl x1), (2, .inl x2)], [.inl (-1)], 119, pm_RF, M)) rfl ?_
    exact R_end (v := some (.inl (-1))) rfl (Or.inl rfl) rfl rfl
  · refine R_st ho 3 (q' := (15, [(0, .inr (.inr (1, 87))), (1, .inl x1), (2, .inl x2)], [.inl 99, .inl 1, .inl x2], 119, pm_RF, M)) rfl ?_
    refine R_callS ho ms_Q_in lk_1_118 rfl (As := [.inl x2, .inl 1, .inl 99]) (st := []) rfl (Nat.le_of_ble_eq_true rfl) rfl (by decide) (Nat.le_of_ble_eq_true rfl) (ok_Q_in G x2 1 99 M ) (fun r1293 => ?_)
    show pm_R _ _ _ (18, [(0, .inr (.inr (1, 87))), (1, .inl x1), (2, .inl x2)], [.inl r1293], 119, pm_RF, M) _ _
    refine R_if ho rfl (tgt := 39) rfl ?_
    refine R_eq ?_ ?_
    · refine R_st ho 1 (q' := (40, [(0, .inr (.inr (1, 87))), (1, .inl x1), (2, .inl x2)], [.inl (-1)], 119, pm_RF, M)) rfl ?_
      exact R_end (v := some (.inl (-1))) rfl (Or.inl rfl) rfl rfl
    · refine R_st ho 4 (q' := (27, [(0, .inr (.inr (1, 87))), (1, .inl x1), (2, .inl x2)], [.inl (M 88 0)], 119, pm_RF, M)) rfl ?_
      refine R_if ho rfl (tgt := 39) rfl ?_
      refine R_eq ?_ ?_
      · refine R_st ho 1 (q' := (40, [(0, .inr (.inr (1, 87))), (1, .inl x1), (2, .inl x2)], [.inl (-1)], 119, pm_RF, M)) rfl ?_
        exact R_end (v := some (.inl (-1))) rfl (Or.inl rfl) rfl rfl
      · refine R_st ho 4 (q' := (36, [(0, .inr (.inr (1, 87))), (1, .inl x1), (2, .inl x2)], [.inl (M 88 1)], 119, pm_RF, M)) rfl ?_
        refine R_if ho rfl (tgt := 41) rfl ?_
        refine R_ne ?_ ?_
        · refine R_st ho 1 (q' := (40, [(0, .inr (.inr (1, 87))), (1, .inl x1), (2, .inl x2)], [.inl (-1)], 119, pm_RF, M)) rfl ?_
          exact R_end (v := some (.inl (-1))) rfl (Or.inl rfl) rfl rfl
        · refine R_st ho 1 (q' := (42, [(0, .inr (.inr (1, 87))), (1, .inl x1), (2, .inl x2)], [.inr (.inr (1, 87))], 119, pm_RF, M)) rfl ?_
          refine R_callV ho mv_Q_keepsStep lk_1_137 rfl (As := []) (kd := 1) (a := 87) (st := []) rfl rfl (Nat.le_of_ble_eq_true rfl) rfl (by decide) (Nat.le_of_ble_eq_true rfl) (ok_Q_keepsStep G  M ) (fun M1294 => ?_)
          show pm_R _ _ _ (45, [(0, .inr (.inr (1, 87))), (1, .inl x1), (2, .inl x2)], [], 119, pm_RF, M1294) _ _
          refine R_st ho 7 (q' := (55, [(0, .inr (.inr (1, 87))), (1, .inl x1), (2, .inl x2)], [], 119, pm_RF, (pm_ms M1294 87 54 (i_ad (i_ml x1 13) 5)))) rfl ?_
          refine R_nm fun M1295 => ?_
          refine R_st ho 4 (q' := (60, [(4, .inl 0), (3, .inl 0), (0, .inr (.inr (1, 87))), (1, .inl x1), (2, .inl x2)], [], 119, pm_RF, M1295)) rfl ?_
          refine R_pk [0, 2, 3, 4] rfl ?_
          refine R_bind (ok_Q_revolution_L60 G pm_F x2 0 0 M1295) ?_
          intro e1314 q_ hq_
          obtain rfl : q_ = (247, [(3, .inl e1314.1)], [], 119, pm_RF, e1314.2) := hq_
          refine R_st ho 1 (q' := (248, [(3, .inl e1314.1)], [.inl e1314.1], 119, pm_RF, e1314.2)) rfl ?_
          exact R_end (v := some (.inl e1314.1)) rfl (Or.inl rfl) rfl rfl
theorem ok_Q_copies_L2 (G : pm_G)    : ∀ (n_ : Nat) (y1 : Int) (y2 : Int) (M : pm_M), pm_R G mt_Q_copies 1 (2, [(0, .inr (.inr (1, 87))), (1, .inl y1), (2, .inl y2)], [], 119, pm_RF, M) (f_Q_copies_L2 n_ y1 y2 M) (fun e_ q_ => q_ = (46, [], [], 119, pm_RF, e_)) := by
  have ho : pm_oG G mt_Q_copies := (oa_Q_copies).g G
  intro n_
  induction n_ with
  | zero => intro _ _ _; exact R_none
  | succ n_ ih_ =>
    intro y1 y2 M
    rw [f_Q_copies_L2]
    refine R_st ho 2 (q' := (6, [(0, .inr (.inr (1, 87))), (1, .inl y1), (2, .inl y2)], [.inl 4012, .inl y2], 119, pm_RF, M)) rfl ?_
    refine R_ic ho rfl (tgt := 46) rfl ?_
    refine R_ge ?_ ?_
    · refine R_pk [] rfl ?_
      exact R_ret rfl
    · refine R_st ho 1 (q' := (10, [(0, .inr (.inr (1, 87))), (1, .inl y1), (2, .inl y2)], [.inl y1], 119, pm_RF, M)) rfl ?_
      refine R_if ho rfl (tgt := 28) rfl ?_
      refine R_eq ?_ ?_
      · refine R_st ho 6 (q' := (38, [(0, .inr (.inr (1, 87))), (1, .inl y1), (2, .inl y2)], [.inl y2, .inr (.inr (20, 89)), .inl y2, .inr (.inr (20, 88))], 119, pm_RF, M)) rfl ?_
        refine R_iald ho rfl rfl ?_
        refine R_iast ho rfl rfl ?_
        refine R_nm fun M1315 => ?_
        refine R_st ho 2 (q' := (2, [(2, .inl (i_ad y2 1)), (0, .inr (.inr (1, 87))), (1, .inl y1)], [], 119, pm_RF, M1315)) rfl ?_
        refine R_pk [0, 1, 2] rfl ?_
        exact ih_ y1 (i_ad y2 1) M1315
      · refine R_st ho 6 (q' := (23, [(0, .inr (.inr (1, 87))), (1, .inl y1), (2, .inl y2)], [.inl y2, .inr (.inr (20, 88)), .inl y2, .inr (.inr (20, 89))], 119, pm_RF, M)) rfl ?_
        refine R_iald ho rfl rfl ?_
        refine R_iast ho rfl rfl ?_
        refine R_nm fun M1316 => ?_
        refine R_st ho 3 (q' := (2, [(2, .inl (i_ad y2 1)), (0, .inr (.inr (1, 87))), (1, .inl y1)], [], 119, pm_RF, M1316)) rfl ?_
        refine R_pk [0, 1, 2] rfl ?_
        exact ih_ y1 (i_ad y2 1) M1316
theorem ok_Q_copies (G : pm_G) (x1 : Int) (M : pm_M)  : pm_R G mt_Q_copies 1 (0, [(0, .inr (.inr (1, 87))), (1, .inl x1)], [], 119, pm_RF, M) (f_Q_copies x1 M) (pm_Zr mt_Q_copies pm_gV) := by
  have ho : pm_oG G mt_Q_copies := (oa_Q_copies).g G
  unfold f_Q_copies
  refine R_st ho 2 (q' := (2, [(2, .inl 0), (0, .inr (.inr (1, 87))), (1, .inl x1)], [], 119, pm_RF, M)) rfl ?_
  refine R_pk [0, 1, 2] rfl ?_
  refine R_bind (ok_Q_copies_L2 G pm_F x1 0 M) ?_
  intro e1317 q_ hq_
  obtain rfl : q_ = (46, [], [], 119, pm_RF, e1317) := hq_
  exact R_end (v := none) rfl rfl rfl rfl
theorem ok_Q_image (G : pm_G)  (M : pm_M)  : pm_R G mt_Q_image 2 (0, [(0, .inr (.inr (1, 87)))], [], 119, pm_RF, M) (f_Q_image M) (pm_Zr mt_Q_image pm_gI) := by
  have ho : pm_oG G mt_Q_image := (oa_Q_image).g G
  unfold f_Q_image
  refine R_st ho 2 (q' := (2, [(0, .inr (.inr (1, 87)))], [.inl 1, .inr (.inr (1, 87))], 119, pm_RF, M)) rfl ?_
  refine R_callV ho mv_Q_copies lk_1_114 rfl (As := [.inl 1]) (kd := 1) (a := 87) (st := []) rfl rfl (Nat.le_of_ble_eq_true rfl) rfl (by decide) (Nat.le_of_ble_eq_true rfl) (ok_Q_copies G 1 M ) (fun M1318 => ?_)
  show pm_R _ _ _ (5, [(0, .inr (.inr (1, 87)))], [], 119, pm_RF, M1318) _ _
  refine R_st ho 4 (q' := (12, [(0, .inr (.inr (1, 87)))], [.inl (M1318 88 99)], 119, pm_RF, M1318)) rfl ?_
  exact R_end (v := some (.inl (M1318 88 99))) rfl (Or.inl rfl) rfl rfl
theorem ok_Q_back (G : pm_G)  (M : pm_M)  : pm_R G mt_Q_back 2 (0, [(0, .inr (.inr (1, 87)))], [], 119, pm_RF, M) (f_Q_back M) (pm_Zr mt_Q_back pm_gI) := by
  have ho : pm_oG G mt_Q_back := (oa_Q_back).g G
  unfold f_Q_back
  refine R_st ho 2 (q' := (2, [(0, .inr (.inr (1, 87)))], [.inl 0, .inr (.inr (1, 87))], 119, pm_RF, M)) rfl ?_
  refine R_callV ho mv_Q_copies lk_1_114 rfl (As := [.inl 0]) (kd := 1) (a := 87) (st := []) rfl rfl (Nat.le_of_ble_eq_true rfl) rfl (by decide) (Nat.le_of_ble_eq_true rfl) (ok_Q_copies G 0 M ) (fun M1319 => ?_)
  show pm_R _ _ _ (5, [(0, .inr (.inr (1, 87)))], [], 119, pm_RF, M1319) _ _
  refine R_st ho 4 (q' := (12, [(0, .inr (.inr (1, 87)))], [.inl (M1319 88 99)], 119, pm_RF, M1319)) rfl ?_
  exact R_end (v := some (.inl (M1319 88 99))) rfl (Or.inl rfl) rfl rfl
theorem ok_Q_debts_L4 (G : pm_G)   (M : pm_M) : ∀ (n_ : Nat) (y1 : Int) (y2 : Int), pm_R G mt_Q_debts 1 (4, [(0, .inr (.inr (1, 87))), (1, .inl y1), (2, .inl y2)], [], 119, pm_RF, M) (f_Q_debts_L4 M n_ y1 y2) (fun e_ q_ => q_ = (32, [(1, .inl e_)], [], 119, pm_RF, M)) := by
  have ho : pm_oG G mt_Q_debts := (oa_Q_debts).g G
  intro n_
  induction n_ with
  | zero => intro _ _; exact R_none
  | succ n_ ih_ =>
    intro y1 y2
    rw [f_Q_debts_L4]
    refine R_st ho 5 (q' := (11, [(0, .inr (.inr (1, 87))), (1, .inl y1), (2, .inl y2)], [.inl (M 88 1), .inl y2], 119, pm_RF, M)) rfl ?_
    refine R_ic ho rfl (tgt := 32) rfl ?_
    refine R_ge ?_ ?_
    · refine R_pk [1] rfl ?_
      exact R_ret rfl
    · refine R_st ho 6 (q' := (23, [(0, .inr (.inr (1, 87))), (1, .inl y1), (2, .inl y2)], [.inl (i_ad 86 y2), .inr (.inr (20, 88)), .inl y1], 119, pm_RF, M)) rfl ?_
      refine R_iald ho rfl rfl ?_
      refine R_st ho 2 (q' := (26, [(1, .inl (i_ad y1 (M 88 ((i_ad 86 y2)).toNat))), (0, .inr (.inr (1, 87))), (2, .inl y2)], [], 119, pm_RF, M)) rfl ?_
      refine R_nx (fun z_ => (26, [(1, .inl z_), (0, .inr (.inr (1, 87))), (2, .inl y2)], [], 119, pm_RF, M)) fun v1320 => ?_
      refine R_st ho 2 (q' := (4, [(2, .inl (i_ad y2 1)), (1, .inl v1320), (0, .inr (.inr (1, 87)))], [], 119, pm_RF, M)) rfl ?_
      refine R_pk [0, 1, 2] rfl ?_
      exact ih_ v1320 (i_ad y2 1)
theorem ok_Q_debts (G : pm_G)  (M : pm_M)  : pm_R G mt_Q_debts 1 (0, [(0, .inr (.inr (1, 87)))], [], 119, pm_RF, M) (f_Q_debts M) (pm_Zr mt_Q_debts (pm_gi M)) := by
  have ho : pm_oG G mt_Q_debts := (oa_Q_debts).g G
  unfold f_Q_debts
  refine R_st ho 4 (q' := (4, [(2, .inl 0), (1, .inl 0), (0, .inr (.inr (1, 87)))], [], 119, pm_RF, M)) rfl ?_
  refine R_pk [0, 1, 2] rfl ?_
  refine R_bind (ok_Q_debts_L4 G M pm_F 0 0) ?_
  intro e1321 q_ hq_
  obtain rfl : q_ = (32, [(1, .inl e1321)], [], 119, pm_RF, M) := hq_
  refine R_st ho 1 (q' := (33, [(1, .inl e1321)], [.inl e1321], 119, pm_RF, M)) rfl ?_
  exact R_end (v := some (.inl e1321)) rfl (Or.inl rfl) rfl rfl
theorem ok_Q_about (G : pm_G) (x1 : Int) (M : pm_M)  : pm_R G mt_Q_about 3 (0, [(0, .inr (.inr (1, 87))), (1, .inl x1)], [], 119, pm_RF, M) (f_Q_about x1 M) (pm_Zr mt_Q_about (pm_gi M)) := by
  have ho : pm_oG G mt_Q_about := (oa_Q_about).g G
  unfold f_Q_about
  refine R_st ho 1 (q' := (1, [(0, .inr (.inr (1, 87))), (1, .inl x1)], [.inl x1], 119, pm_RF, M)) rfl ?_
  refine R_cs (fun z_ => (1, [(0, .inr (.inr (1, 87))), (1, .inl x1)], [.inl z_], 119, pm_RF, M)) ?_ (fun h1325 => ?_)
  · refine R_swk ho rfl (by decide) rfl (tgt := 56) rfl (by decide +kernel) ?_
    refine R_st ho 4 (q' := (62, [(0, .inr (.inr (1, 87))), (1, .inl x1)], [.inl (M 88 0)], 119, pm_RF, M)) rfl ?_
    exact R_end (v := some (.inl (M 88 0))) rfl (Or.inl rfl) rfl rfl
  refine R_cs (fun z_ => (1, [(0, .inr (.inr (1, 87))), (1, .inl x1)], [.inl z_], 119, pm_RF, M)) ?_ (fun h1326 => ?_)
  · refine R_swk ho rfl (by decide) rfl (tgt := 63) rfl (by decide +kernel) ?_
    refine R_st ho 4 (q' := (69, [(0, .inr (.inr (1, 87))), (1, .inl x1)], [.inl (M 88 1)], 119, pm_RF, M)) rfl ?_
    exact R_end (v := some (.inl (M 88 1))) rfl (Or.inl rfl) rfl rfl
  refine R_cs (fun z_ => (1, [(0, .inr (.inr (1, 87))), (1, .inl x1)], [.inl z_], 119, pm_RF, M)) ?_ (fun h1327 => ?_)
  · refine R_swk ho rfl (by decide) rfl (tgt := 70) rfl (by decide +kernel) ?_
    refine R_st ho 4 (q' := (77, [(0, .inr (.inr (1, 87))), (1, .inl x1)], [.inl (M 88 99)], 119, pm_RF, M)) rfl ?_
    exact R_end (v := some (.inl (M 88 99))) rfl (Or.inl rfl) rfl rfl
  refine R_cs (fun z_ => (1, [(0, .inr (.inr (1, 87))), (1, .inl x1)], [.inl z_], 119, pm_RF, M)) ?_ (fun h1328 => ?_)
  · refine R_swk ho rfl (by decide) rfl (tgt := 78) rfl (by decide +kernel) ?_
    refine R_st ho 4 (q' := (85, [(0, .inr (.inr (1, 87))), (1, .inl x1)], [.inl (M 88 98)], 119, pm_RF, M)) rfl ?_
    exact R_end (v := some (.inl (M 88 98))) rfl (Or.inl rfl) rfl rfl
  refine R_cs (fun z_ => (1, [(0, .inr (.inr (1, 87))), (1, .inl x1)], [.inl z_], 119, pm_RF, M)) ?_ (fun h1329 => ?_)
  · refine R_swk ho rfl (by decide) rfl (tgt := 86) rfl (by decide +kernel) ?_
    refine R_st ho 4 (q' := (92, [(0, .inr (.inr (1, 87))), (1, .inl x1)], [.inl (M 88 2)], 119, pm_RF, M)) rfl ?_
    exact R_end (v := some (.inl (M 88 2))) rfl (Or.inl rfl) rfl rfl
  refine R_cs (fun z_ => (1, [(0, .inr (.inr (1, 87))), (1, .inl x1)], [.inl z_], 119, pm_RF, M)) ?_ (fun h1330 => ?_)
  · refine R_swk ho rfl (by decide) rfl (tgt := 93) rfl (by decide +kernel) ?_
    refine R_st ho 4 (q' := (99, [(0, .inr (.inr (1, 87))), (1, .inl x1)], [.inl (M 88 3)], 119, pm_RF, M)) rfl ?_
    exact R_end (v := some (.inl (M 88 3))) rfl (Or.inl rfl) rfl rfl
  refine R_cs (fun z_ => (1, [(0, .inr (.inr (1, 87))), (1, .inl x1)], [.inl z_], 119, pm_RF, M)) ?_ (fun h1331 => ?_)
  · refine R_swk ho rfl (by decide) rfl (tgt := 100) rfl (by decide +kernel) ?_
    refine R_st ho 4 (q' := (106, [(0, .inr (.inr (1, 87))), (1, .inl x1)], [.inl (M 88 4)], 119, pm_RF, M)) rfl ?_
    exact R_end (v := some (.inl (M 88 4))) rfl (Or.inl rfl) rfl rfl
  refine R_cs (fun z_ => (1, [(0, .inr (.inr (1, 87))), (1, .inl x1)], [.inl z_], 119, pm_RF, M)) ?_ (fun h1332 => ?_)
  · refine R_swk ho rfl (by decide) rfl (tgt := 107) rfl (by decide +kernel) ?_
    refine R_st ho 4 (q' := (113, [(0, .inr (.inr (1, 87))), (1, .inl x1)], [.inl (M 88 5)], 119, pm_RF, M)) rfl ?_
    exact R_end (v := some (.inl (M 88 5))) rfl (Or.inl rfl) rfl rfl
  refine R_cs (fun z_ => (1, [(0, .inr (.inr (1, 87))), (1, .inl x1)], [.inl z_], 119, pm_RF, M)) ?_ (fun h1333 => ?_)
  · refine R_swk ho rfl (by decide) rfl (tgt := 114) rfl (by decide +kernel) ?_
    refine R_st ho 2 (q' := (118, [(0, .inr (.inr (1, 87))), (1, .inl x1)], [.inl (M 87 3)], 119, pm_RF, M)) rfl ?_
    exact R_end (v := some (.inl (M 87 3))) rfl (Or.inl rfl) rfl rfl
  refine R_cs (fun z_ => (1, [(0, .inr (.inr (1, 87))), (1, .inl x1)], [.inl z_], 119, pm_RF, M)) ?_ (fun h1334 => ?_)
  · refine R_swk ho rfl (by decide) rfl (tgt := 119) rfl (by decide +kernel) ?_
    refine R_st ho 1 (q' := (120, [(0, .inr (.inr (1, 87))), (1, .inl x1)], [.inr (.inr (1, 87))], 119, pm_RF, M)) rfl ?_
    refine R_callV ho mv_Q_debts lk_1_444 rfl (As := []) (kd := 1) (a := 87) (st := []) rfl rfl (Nat.le_of_ble_eq_true rfl) rfl (by decide) (Nat.le_of_ble_eq_true rfl) (ok_Q_debts G  M ) (fun r1322 => ?_)
    show pm_R _ _ _ (123, [(0, .inr (.inr (1, 87))), (1, .inl x1)], [.inl r1322], 119, pm_RF, M) _ _
    exact R_end (v := some (.inl r1322)) rfl (Or.inl rfl) rfl rfl
  refine R_swd ho rfl (by omega) rfl (by decide +kernel) ?_
  refine R_st ho 4 (q' := (129, [(0, .inr (.inr (1, 87))), (1, .inl x1)], [.inl (i_sb x1 10), .inr (.inr (1, 87))], 119, pm_RF, M)) rfl ?_
  refine R_callV ho mv_Q_isPlinth lk_1_126 rfl (As := [.inl (i_sb x1 10)]) (kd := 1) (a := 87) (st := []) rfl rfl (Nat.le_of_ble_eq_true rfl) rfl (by decide) (Nat.le_of_ble_eq_true rfl) (ok_Q_isPlinth G (i_sb x1 10) M ) (fun r1323 => ?_)
  show pm_R _ _ _ (132, [(0, .inr (.inr (1, 87))), (1, .inl x1)], [.inl r1323], 119, pm_RF, M) _ _
  refine R_if ho rfl (tgt := 170) rfl ?_
  refine R_eq ?_ ?_
  · refine R_st ho 4 (q' := (175, [(0, .inr (.inr (1, 87))), (1, .inl x1)], [.inl (i_sb x1 20), .inr (.inr (1, 87))], 119, pm_RF, M)) rfl ?_
    refine R_callV ho mv_Q_isPlinth lk_1_126 rfl (As := [.inl (i_sb x1 20)]) (kd := 1) (a := 87) (st := []) rfl rfl (Nat.le_of_ble_eq_true rfl) rfl (by decide) (Nat.le_of_ble_eq_true rfl) (ok_Q_isPlinth G (i_sb x1 20) M ) (fun r1324 => ?_)
    show pm_R _ _ _ (178, [(0, .inr (.inr (1, 87))), (1, .inl x1)], [.inl r1324], 119, pm_RF, M) _ _
    refine R_if ho rfl (tgt := 218) rfl ?_
    refine R_eq ?_ ?_
    · refine R_st ho 1 (q' := (220, [(0, .inr (.inr (1, 87))), (1, .inl x1)], [.inl (-2)], 119, pm_RF, M)) rfl ?_
      exact R_end (v := some (.inl (-2))) rfl (Or.inl rfl) rfl rfl
    · refine R_st ho 12 (q' := (198, [(0, .inr (.inr (1, 87))), (1, .inl x1)], [.inl (i_ad (i_ad 10 (i_ml 4 (i_sb x1 20))) 2), .inr (.inr (20, 88)), .inl 10], 119, pm_RF, M)) rfl ?_
      refine R_iald ho rfl rfl ?_
      refine R_st ho 12 (q' := (215, [(0, .inr (.inr (1, 87))), (1, .inl x1)], [.inl (i_ad (i_ad 10 (i_ml 4 (i_sb x1 20))) 3), .inr (.inr (20, 88)), .inl (i_ml 10 (M 88 ((i_ad (i_ad 10 (i_ml 4 (i_sb x1 20))) 2)).toNat))], 119, pm_RF, M)) rfl ?_
      refine R_iald ho rfl rfl ?_
      refine R_st ho 1 (q' := (217, [(0, .inr (.inr (1, 87))), (1, .inl x1)], [.inl (i_ad (i_ml 10 (M 88 ((i_ad (i_ad 10 (i_ml 4 (i_sb x1 20))) 2)).toNat)) (M 88 ((i_ad (i_ad 10 (i_ml 4 (i_sb x1 20))) 3)).toNat))], 119, pm_RF, M)) rfl ?_
      exact R_end (v := some (.inl (i_ad (i_ml 10 (M 88 ((i_ad (i_ad 10 (i_ml 4 (i_sb x1 20))) 2)).toNat)) (M 88 ((i_ad (i_ad 10 (i_ml 4 (i_sb x1 20))) 3)).toNat)))) rfl (Or.inl rfl) rfl rfl
  · refine R_st ho 10 (q' := (150, [(0, .inr (.inr (1, 87))), (1, .inl x1)], [.inl (i_ad 10 (i_ml 4 (i_sb x1 10))), .inr (.inr (20, 88)), .inl 100], 119, pm_RF, M)) rfl ?_
    refine R_iald ho rfl rfl ?_
    refine R_st ho 12 (q' := (167, [(0, .inr (.inr (1, 87))), (1, .inl x1)], [.inl (i_ad (i_ad 10 (i_ml 4 (i_sb x1 10))) 1), .inr (.inr (20, 88)), .inl (i_ml 100 (M 88 ((i_ad 10 (i_ml 4 (i_sb x1 10)))).toNat))], 119, pm_RF, M)) rfl ?_
    refine R_iald ho rfl rfl ?_
    refine R_st ho 1 (q' := (169, [(0, .inr (.inr (1, 87))), (1, .inl x1)], [.inl (i_ad (i_ml 100 (M 88 ((i_ad 10 (i_ml 4 (i_sb x1 10)))).toNat)) (M 88 ((i_ad (i_ad 10 (i_ml 4 (i_sb x1 10))) 1)).toNat))], 119, pm_RF, M)) rfl ?_
    exact R_end (v := some (.inl (i_ad (i_ml 100 (M 88 ((i_ad 10 (i_ml 4 (i_sb x1 10)))).toNat)) (M 88 ((i_ad (i_ad 10 (i_ml 4 (i_sb x1 10))) 1)).toNat)))) rfl (Or.inl rfl) rfl rfl
