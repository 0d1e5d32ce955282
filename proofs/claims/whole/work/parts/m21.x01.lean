/-! printed by my own program: functions of the pure memory, and that the code follows them -/
theorem ok_X_pass_L41 (G : pm_G)    : ∀ (n_ : Nat) (y1 : Int) (y2 : Int) (M : pm_M), pm_R G mt_X_pass 6 (41, [(0, .inr (.inr (0, 0))), (1, .inl y1), (2, .inl y2)], [], 119, pm_RF, M) (f_X_pass_L41 n_ y1 y2 M) (fun e_ q_ => q_ = (56, [(0, .inr (.inr (0, 0)))], [], 119, pm_RF, e_)) := by
  have ho : pm_oG G mt_X_pass := (oa_X_pass).g G
  intro n_
  induction n_ with
  | zero => intro _ _ _; exact R_none
  | succ n_ ih_ =>
    intro y1 y2 M
    rw [f_X_pass_L41]
    refine R_st ho 2 (q' := (43, [(0, .inr (.inr (0, 0))), (1, .inl y1), (2, .inl y2)], [.inl y1, .inl y2], 119, pm_RF, M)) rfl ?_
    refine R_ic ho rfl (tgt := 56) rfl ?_
    refine R_ge ?_ ?_
    · refine R_pk [0] rfl ?_
      exact R_ret rfl
    · refine R_st ho 1 (q' := (47, [(0, .inr (.inr (0, 0))), (1, .inl y1), (2, .inl y2)], [.inr (.inr (0, 0))], 119, pm_RF, M)) rfl ?_
      refine R_callV ho mv_X_dayPasses lk_0_171 rfl (As := []) (kd := 0) (a := 0) (st := []) rfl rfl (Nat.le_of_ble_eq_true rfl) rfl (by decide) (Nat.le_of_ble_eq_true rfl) (ok_X_dayPasses G  M ) (fun M145 => ?_)
      show pm_R _ _ _ (50, [(0, .inr (.inr (0, 0))), (1, .inl y1), (2, .inl y2)], [], 119, pm_RF, M145) _ _
      refine R_st ho 2 (q' := (41, [(2, .inl (i_ad y2 1)), (0, .inr (.inr (0, 0))), (1, .inl y1)], [], 119, pm_RF, M145)) rfl ?_
      refine R_pk [0, 1, 2] rfl ?_
      exact ih_ y1 (i_ad y2 1) M145
theorem ok_X_pass (G : pm_G) (x1 : Int) (M : pm_M)  : pm_R G mt_X_pass 6 (0, [(0, .inr (.inr (0, 0))), (1, .inl x1)], [], 119, pm_RF, M) (f_X_pass x1 M) (pm_Zr mt_X_pass pm_gI) := by
  have ho : pm_oG G mt_X_pass := (oa_X_pass).g G
  unfold f_X_pass
  refine R_st ho 2 (q' := (2, [(0, .inr (.inr (0, 0))), (1, .inl x1)], [.inl 1, .inl x1], 119, pm_RF, M)) rfl ?_
  refine R_ic ho rfl (tgt := 26) rfl ?_
  refine R_lt ?_ ?_
  · refine R_st ho 1 (q' := (27, [(0, .inr (.inr (0, 0))), (1, .inl x1)], [.inl (-1)], 119, pm_RF, M)) rfl ?_
    exact R_end (v := some (.inl (-1))) rfl (Or.inl rfl) rfl rfl
  · refine R_st ho 2 (q' := (8, [(0, .inr (.inr (0, 0))), (1, .inl x1)], [.inl 99, .inl x1], 119, pm_RF, M)) rfl ?_
    refine R_ic ho rfl (tgt := 26) rfl ?_
    refine R_gt ?_ ?_
    · refine R_st ho 1 (q' := (27, [(0, .inr (.inr (0, 0))), (1, .inl x1)], [.inl (-1)], 119, pm_RF, M)) rfl ?_
      exact R_end (v := some (.inl (-1))) rfl (Or.inl rfl) rfl rfl
    · refine R_st ho 2 (q' := (15, [(0, .inr (.inr (0, 0))), (1, .inl x1)], [.inr (.inr (4, 35))], 119, pm_RF, M)) rfl ?_
      refine R_callV ho mv_Moment_day lk_0_168 rfl (As := []) (kd := 4) (a := 35) (st := []) rfl rfl (Nat.le_of_ble_eq_true rfl) rfl (by decide) (Nat.le_of_ble_eq_true rfl) (ok_Moment_day G  M ) (fun r60 => ?_)
      show pm_R _ _ _ (18, [(0, .inr (.inr (0, 0))), (1, .inl x1)], [.inl r60], 119, pm_RF, M) _ _
      refine R_st ho 3 (q' := (23, [(0, .inr (.inr (0, 0))), (1, .inl x1)], [.inl 999, .inl (i_ad r60 x1)], 119, pm_RF, M)) rfl ?_
      refine R_ic ho rfl (tgt := 28) rfl ?_
      refine R_le ?_ ?_
      · refine R_st ho 4 (q' := (36, [(0, .inr (.inr (0, 0))), (1, .inl x1)], [.inr (.inr (4, 35)), .inr (.inr (8, 1))], 119, pm_RF, M)) rfl ?_
        refine R_callV ho mv_Steps_keep lk_0_117 rfl (As := [.inr (.inr (4, 35))]) (kd := 8) (a := 1) (st := []) rfl rfl (Nat.le_of_ble_eq_true rfl) rfl (by decide) (Nat.le_of_ble_eq_true rfl) (ok_Steps_keep G  M ) (fun M61 => ?_)
        show pm_R _ _ _ (39, [(0, .inr (.inr (0, 0))), (1, .inl x1)], [], 119, pm_RF, M61) _ _
        refine R_st ho 2 (q' := (41, [(2, .inl 0), (0, .inr (.inr (0, 0))), (1, .inl x1)], [], 119, pm_RF, M61)) rfl ?_
        refine R_pk [0, 1, 2] rfl ?_
        refine R_bind (ok_X_pass_L41 G pm_F x1 0 M61) ?_
        intro e146 q_ hq_
        obtain rfl : q_ = (56, [(0, .inr (.inr (0, 0)))], [], 119, pm_RF, e146) := hq_
        refine R_st ho 2 (q' := (60, [(0, .inr (.inr (0, 0)))], [.inr (.inr (4, 35))], 119, pm_RF, e146)) rfl ?_
        refine R_callV ho mv_Moment_day lk_0_168 rfl (As := []) (kd := 4) (a := 35) (st := []) rfl rfl (Nat.le_of_ble_eq_true rfl) rfl (by decide) (Nat.le_of_ble_eq_true rfl) (ok_Moment_day G  e146 ) (fun r147 => ?_)
        show pm_R _ _ _ (63, [(0, .inr (.inr (0, 0)))], [.inl r147], 119, pm_RF, e146) _ _
        exact R_end (v := some (.inl r147)) rfl (Or.inl rfl) rfl rfl
      · refine R_st ho 1 (q' := (27, [(0, .inr (.inr (0, 0))), (1, .inl x1)], [.inl (-1)], 119, pm_RF, M)) rfl ?_
        exact R_end (v := some (.inl (-1))) rfl (Or.inl rfl) rfl rfl
theorem ok_Tape_hasRoomForTwenty (G : pm_G)  (M : pm_M)  : pm_R G mt_Tape_hasRoomForTwenty 1 (0, [(0, .inr (.inr (9, 37)))], [], 119, pm_RF, M) (f_Tape_hasRoomForTwenty M) (pm_Zr mt_Tape_hasRoomForTwenty (pm_gi M)) := by
  have ho : pm_oG G mt_Tape_hasRoomForTwenty := (oa_Tape_hasRoomForTwenty).g G
  unfold f_Tape_hasRoomForTwenty
  refine R_st ho 5 (q' := (10, [(0, .inr (.inr (9, 37)))], [.inl 300, .inl (i_ad (M 37 1) 20)], 119, pm_RF, M)) rfl ?_
  refine R_ic ho rfl (tgt := 17) rfl ?_
  refine R_gt ?_ ?_
  · refine R_st ho 1 (q' := (18, [(0, .inr (.inr (9, 37)))], [.inl 0], 119, pm_RF, M)) rfl ?_
    exact R_end (v := some (.inl 0)) rfl (Or.inr ⟨rfl, Or.inl rfl⟩) rfl rfl
  · refine R_st ho 2 (q' := (18, [(0, .inr (.inr (9, 37)))], [.inl 1], 119, pm_RF, M)) rfl ?_
    exact R_end (v := some (.inl 1)) rfl (Or.inr ⟨rfl, Or.inr rfl⟩) rfl rfl
theorem ok_Tape_add_L3 (G : pm_G)    : ∀ (n_ : Nat) (y1 : Int) (y2 : Int) (M : pm_M), pm_R G mt_Tape_add 1 (3, [(0, .inr (.inr (9, 37))), (1, .inl y1), (2, .inl y2)], [], 119, pm_RF, M) (f_Tape_add_L3 n_ y1 y2 M) (fun e_ q_ => q_ = (49, [], [], 119, pm_RF, e_)) := by
  have ho : pm_oG G mt_Tape_add := (oa_Tape_add).g G
  intro n_
  induction n_ with
  | zero => intro _ _ _; exact R_none
  | succ n_ ih_ =>
    intro y1 y2 M
    rw [f_Tape_add_L3]
    refine R_st ho 1 (q' := (4, [(0, .inr (.inr (9, 37))), (1, .inl y1), (2, .inl y2)], [.inl y2], 119, pm_RF, M)) rfl ?_
    refine R_if ho rfl (tgt := 49) rfl ?_
    refine R_lt ?_ ?_
    · refine R_pk [] rfl ?_
      exact R_ret rfl
    · refine R_st ho 3 (q' := (14, [(0, .inr (.inr (9, 37))), (1, .inl y1), (2, .inl y2)], [.inl 300, .inl (M 37 1)], 119, pm_RF, M)) rfl ?_
      refine R_ic ho rfl (tgt := 49) rfl ?_
      refine R_ge ?_ ?_
      · refine R_pk [] rfl ?_
        exact R_ret rfl
      · refine R_st ho 9 (q' := (32, [(0, .inr (.inr (9, 37))), (1, .inl y1), (2, .inl y2)], [.inl (i_an (i_us y1 y2) 255), .inl (M 37 1), .inr (.inr (20, 38))], 119, pm_RF, M)) rfl ?_
        refine R_iast ho rfl rfl ?_
        refine R_nm fun M149 => ?_
        refine R_st ho 6 (q' := (43, [(0, .inr (.inr (9, 37))), (1, .inl y1), (2, .inl y2)], [], 119, pm_RF, (pm_ms M149 37 1 (i_ad (M149 37 1) 1)))) rfl ?_
        refine R_nm fun M150 => ?_
        refine R_st ho 2 (q' := (3, [(2, .inl (i_ad y2 (-8))), (0, .inr (.inr (9, 37))), (1, .inl y1)], [], 119, pm_RF, M150)) rfl ?_
        refine R_pk [0, 1, 2] rfl ?_
        exact ih_ y1 (i_ad y2 (-8)) M150
theorem ok_Tape_add (G : pm_G) (x1 : Int) (M : pm_M)  : pm_R G mt_Tape_add 1 (0, [(0, .inr (.inr (9, 37))), (1, .inl x1)], [], 119, pm_RF, M) (f_Tape_add x1 M) (pm_Zr mt_Tape_add pm_gV) := by
  have ho : pm_oG G mt_Tape_add := (oa_Tape_add).g G
  unfold f_Tape_add
  refine R_st ho 2 (q' := (3, [(2, .inl 24), (0, .inr (.inr (9, 37))), (1, .inl x1)], [], 119, pm_RF, M)) rfl ?_
  refine R_pk [0, 1, 2] rfl ?_
  refine R_bind (ok_Tape_add_L3 G pm_F x1 24 M) ?_
  intro e151 q_ hq_
  obtain rfl : q_ = (49, [], [], 119, pm_RF, e151) := hq_
  exact R_end (v := none) rfl rfl rfl rfl
theorem ok_Tape_length (G : pm_G)  (M : pm_M)  : pm_R G mt_Tape_length 1 (0, [(0, .inr (.inr (9, 37)))], [], 119, pm_RF, M) (f_Tape_length M) (pm_Zr mt_Tape_length (pm_gi M)) := by
  have ho : pm_oG G mt_Tape_length := (oa_Tape_length).g G
  unfold f_Tape_length
  refine R_st ho 2 (q' := (4, [(0, .inr (.inr (9, 37)))], [.inl (M 37 1)], 119, pm_RF, M)) rfl ?_
  exact R_end (v := some (.inl (M 37 1))) rfl (Or.inl rfl) rfl rfl
theorem ok_X_feed (G : pm_G) (x1 : Int) (x2 : Int) (x3 : Int) (x4 : Int) (x5 : Int) (M : pm_M)  : pm_R G mt_X_feed 2 (0, [(0, .inr (.inr (0, 0))), (1, .inl x1), (2, .inl x2), (3, .inl x3), (4, .inl x4), (5, .inl x5)], [], 119, pm_RF, M) (f_X_feed x1 x2 x3 x4 x5 M) (pm_Zr mt_X_feed pm_gI) := by
  have ho : pm_oG G mt_X_feed := (oa_X_feed).g G
  unfold f_X_feed
  refine R_st ho 2 (q' := (4, [(0, .inr (.inr (0, 0))), (1, .inl x1), (2, .inl x2), (3, .inl x3), (4, .inl x4), (5, .inl x5)], [.inr (.inr (9, 37))], 119, pm_RF, M)) rfl ?_
  refine R_callV ho mv_Tape_hasRoomForTwenty lk_0_174 rfl (As := []) (kd := 9) (a := 37) (st := []) rfl rfl (Nat.le_of_ble_eq_true rfl) rfl (by decide) (Nat.le_of_ble_eq_true rfl) (ok_Tape_hasRoomForTwenty G  M ) (fun r148 => ?_)
  show pm_R _ _ _ (7, [(0, .inr (.inr (0, 0))), (1, .inl x1), (2, .inl x2), (3, .inl x3), (4, .inl x4), (5, .inl x5)], [.inl r148], 119, pm_RF, M) _ _
  refine R_if ho rfl (tgt := 12) rfl ?_
  refine R_ne ?_ ?_
  · refine R_st ho 1 (q' := (11, [(0, .inr (.inr (0, 0))), (1, .inl x1), (2, .inl x2), (3, .inl x3), (4, .inl x4), (5, .inl x5)], [.inl (-1)], 119, pm_RF, M)) rfl ?_
    exact R_end (v := some (.inl (-1))) rfl (Or.inl rfl) rfl rfl
  · refine R_st ho 3 (q' := (17, [(0, .inr (.inr (0, 0))), (1, .inl x1), (2, .inl x2), (3, .inl x3), (4, .inl x4), (5, .inl x5)], [.inl x1, .inr (.inr (9, 37))], 119, pm_RF, M)) rfl ?_
    refine R_callV ho mv_Tape_add lk_0_178 rfl (As := [.inl x1]) (kd := 9) (a := 37) (st := []) rfl rfl (Nat.le_of_ble_eq_true rfl) rfl (by decide) (Nat.le_of_ble_eq_true rfl) (ok_Tape_add G x1 M ) (fun M152 => ?_)
    show pm_R _ _ _ (20, [(0, .inr (.inr (0, 0))), (1, .inl x1), (2, .inl x2), (3, .inl x3), (4, .inl x4), (5, .inl x5)], [], 119, pm_RF, M152) _ _
    refine R_st ho 3 (q' := (25, [(0, .inr (.inr (0, 0))), (1, .inl x1), (2, .inl x2), (3, .inl x3), (4, .inl x4), (5, .inl x5)], [.inl x2, .inr (.inr (9, 37))], 119, pm_RF, M152)) rfl ?_
    refine R_callV ho mv_Tape_add lk_0_178 rfl (As := [.inl x2]) (kd := 9) (a := 37) (st := []) rfl rfl (Nat.le_of_ble_eq_true rfl) rfl (by decide) (Nat.le_of_ble_eq_true rfl) (ok_Tape_add G x2 M152 ) (fun M153 => ?_)
    show pm_R _ _ _ (28, [(0, .inr (.inr (0, 0))), (1, .inl x1), (2, .inl x2), (3, .inl x3), (4, .inl x4), (5, .inl x5)], [], 119, pm_RF, M153) _ _
    refine R_st ho 3 (q' := (33, [(0, .inr (.inr (0, 0))), (1, .inl x1), (2, .inl x2), (3, .inl x3), (4, .inl x4), (5, .inl x5)], [.inl x3, .inr (.inr (9, 37))], 119, pm_RF, M153)) rfl ?_
    refine R_callV ho mv_Tape_add lk_0_178 rfl (As := [.inl x3]) (kd := 9) (a := 37) (st := []) rfl rfl (Nat.le_of_ble_eq_true rfl) rfl (by decide) (Nat.le_of_ble_eq_true rfl) (ok_Tape_add G x3 M153 ) (fun M154 => ?_)
    show pm_R _ _ _ (36, [(0, .inr (.inr (0, 0))), (1, .inl x1), (2, .inl x2), (3, .inl x3), (4, .inl x4), (5, .inl x5)], [], 119, pm_RF, M154) _ _
    refine R_st ho 3 (q' := (42, [(0, .inr (.inr (0, 0))), (1, .inl x1), (2, .inl x2), (3, .inl x3), (4, .inl x4), (5, .inl x5)], [.inl x4, .inr (.inr (9, 37))], 119, pm_RF, M154)) rfl ?_
    refine R_callV ho mv_Tape_add lk_0_178 rfl (As := [.inl x4]) (kd := 9) (a := 37) (st := []) rfl rfl (Nat.le_of_ble_eq_true rfl) rfl (by decide) (Nat.le_of_ble_eq_true rfl) (ok_Tape_add G x4 M154 ) (fun M155 => ?_)
    show pm_R _ _ _ (45, [(0, .inr (.inr (0, 0))), (1, .inl x1), (2, .inl x2), (3, .inl x3), (4, .inl x4), (5, .inl x5)], [], 119, pm_RF, M155) _ _
    refine R_st ho 3 (q' := (51, [(0, .inr (.inr (0, 0))), (1, .inl x1), (2, .inl x2), (3, .inl x3), (4, .inl x4), (5, .inl x5)], [.inl x5, .inr (.inr (9, 37))], 119, pm_RF, M155)) rfl ?_
    refine R_callV ho mv_Tape_add lk_0_178 rfl (As := [.inl x5]) (kd := 9) (a := 37) (st := []) rfl rfl (Nat.le_of_ble_eq_true rfl) rfl (by decide) (Nat.le_of_ble_eq_true rfl) (ok_Tape_add G x5 M155 ) (fun M156 => ?_)
    show pm_R _ _ _ (54, [(0, .inr (.inr (0, 0))), (1, .inl x1), (2, .inl x2), (3, .inl x3), (4, .inl x4), (5, .inl x5)], [], 119, pm_RF, M156) _ _
    refine R_st ho 2 (q' := (58, [(0, .inr (.inr (0, 0))), (1, .inl x1), (2, .inl x2), (3, .inl x3), (4, .inl x4), (5, .inl x5)], [.inr (.inr (9, 37))], 119, pm_RF, M156)) rfl ?_
    refine R_callV ho mv_Tape_length lk_0_181 rfl (As := []) (kd := 9) (a := 37) (st := []) rfl rfl (Nat.le_of_ble_eq_true rfl) rfl (by decide) (Nat.le_of_ble_eq_true rfl) (ok_Tape_length G  M156 ) (fun r157 => ?_)
    show pm_R _ _ _ (61, [(0, .inr (.inr (0, 0))), (1, .inl x1), (2, .inl x2), (3, .inl x3), (4, .inl x4), (5, .inl x5)], [.inl r157], 119, pm_RF, M156) _ _
    exact R_end (v := some (.inl r157)) rfl (Or.inl rfl) rfl rfl
theorem ok_Tape_cut (G : pm_G) (x1 : Int) (M : pm_M)  : pm_R G mt_Tape_cut 1 (0, [(0, .inr (.inr (9, 37))), (1, .inl x1)], [], 119, pm_RF, M) (f_Tape_cut x1 M) (pm_Zr mt_Tape_cut pm_gV) := by
  have ho : pm_oG G mt_Tape_cut := (oa_Tape_cut).g G
  unfold f_Tape_cut
  refine R_st ho 3 (q' := (5, [(0, .inr (.inr (9, 37))), (1, .inl x1)], [], 119, pm_RF, (pm_ms M 37 1 x1))) rfl ?_
  refine R_nm fun M159 => ?_
  exact R_end (v := none) rfl rfl rfl rfl
theorem ok_X_end (G : pm_G) (x1 : Int) (M : pm_M)  : pm_R G mt_X_end 2 (0, [(0, .inr (.inr (0, 0))), (1, .inl x1)], [], 119, pm_RF, M) (f_X_end x1 M) (pm_Zr mt_X_end pm_gI) := by
  have ho : pm_oG G mt_X_end := (oa_X_end).g G
  unfold f_X_end
  refine R_st ho 1 (q' := (1, [(0, .inr (.inr (0, 0))), (1, .inl x1)], [.inl x1], 119, pm_RF, M)) rfl ?_
  refine R_if ho rfl (tgt := 15) rfl ?_
  refine R_lt ?_ ?_
  · refine R_st ho 1 (q' := (16, [(0, .inr (.inr (0, 0))), (1, .inl x1)], [.inl (-1)], 119, pm_RF, M)) rfl ?_
    exact R_end (v := some (.inl (-1))) rfl (Or.inl rfl) rfl rfl
  · refine R_st ho 3 (q' := (9, [(0, .inr (.inr (0, 0))), (1, .inl x1)], [.inr (.inr (9, 37)), .inl x1], 119, pm_RF, M)) rfl ?_
    refine R_callV ho mv_Tape_length lk_0_181 rfl (As := []) (kd := 9) (a := 37) (st := [.inl x1]) rfl rfl (Nat.le_of_ble_eq_true rfl) rfl (by decide) (Nat.le_of_ble_eq_true rfl) (ok_Tape_length G  M ) (fun r158 => ?_)
    show pm_R _ _ _ (12, [(0, .inr (.inr (0, 0))), (1, .inl x1)], [.inl r158, .inl x1], 119, pm_RF, M) _ _
    refine R_ic ho rfl (tgt := 17) rfl ?_
    refine R_le ?_ ?_
    · refine R_st ho 3 (q' := (22, [(0, .inr (.inr (0, 0))), (1, .inl x1)], [.inl x1, .inr (.inr (9, 37))], 119, pm_RF, M)) rfl ?_
      refine R_callV ho mv_Tape_cut lk_0_184 rfl (As := [.inl x1]) (kd := 9) (a := 37) (st := []) rfl rfl (Nat.le_of_ble_eq_true rfl) rfl (by decide) (Nat.le_of_ble_eq_true rfl) (ok_Tape_cut G x1 M ) (fun M160 => ?_)
      show pm_R _ _ _ (25, [(0, .inr (.inr (0, 0))), (1, .inl x1)], [], 119, pm_RF, M160) _ _
      refine R_st ho 1 (q' := (26, [(0, .inr (.inr (0, 0))), (1, .inl x1)], [.inl x1], 119, pm_RF, M160)) rfl ?_
      exact R_end (v := some (.inl x1)) rfl (Or.inl rfl) rfl rfl
    · refine R_st ho 1 (q' := (16, [(0, .inr (.inr (0, 0))), (1, .inl x1)], [.inl (-1)], 119, pm_RF, M)) rfl ?_
      exact R_end (v := some (.inl (-1))) rfl (Or.inl rfl) rfl rfl
theorem ok_Told_texts (G : pm_G)  (M : pm_M)  : pm_R G mt_Told_texts 1 (0, [(0, .inr (.inr (11, 24)))], [], 119, pm_RF, M) (f_Told_texts M) (pm_Zr mt_Told_texts (pm_gi M)) := by
  have ho : pm_oG G mt_Told_texts := (oa_Told_texts).g G
  unfold f_Told_texts
  refine R_st ho 2 (q' := (4, [(0, .inr (.inr (11, 24)))], [.inl (M 24 13)], 119, pm_RF, M)) rfl ?_
  exact R_end (v := some (.inl (M 24 13))) rfl (Or.inl rfl) rfl rfl
theorem ok_Arrays_fill_t_L5 (G : pm_G) (u0 : Nat) (w0 : Int) (hw0 : (pm_alen u0 : Int) = w0)  : ∀ (n_ : Nat) (y1 : Int) (y2 : Int) (y3 : Int) (M : pm_M), pm_R G mt_Arrays_fill 1 (5, [(0, .inr (.inr (20, u0))), (1, .inl y1), (2, .inl y2), (3, .inl y3)], [], 119, pm_RF, M) (f_Arrays_fill_t_L5 u0 w0 n_ y1 y2 y3 M) (fun e_ q_ => q_ = (20, [], [], 119, pm_RF, e_)) := by
  have ho : pm_oG G mt_Arrays_fill := (oa_Arrays_fill).g G
  intro n_
  induction n_ with
  | zero => intro _ _ _ _; exact R_none
  | succ n_ ih_ =>
    intro y1 y2 y3 M
    rw [f_Arrays_fill_t_L5]
    refine R_st ho 2 (q' := (7, [(0, .inr (.inr (20, u0))), (1, .inl y1), (2, .inl y2), (3, .inl y3)], [.inl y3, .inl y2], 119, pm_RF, M)) rfl ?_
    refine R_ic ho rfl (tgt := 20) rfl ?_
    refine R_ge ?_ ?_
    · refine R_pk [] rfl ?_
      exact R_ret rfl
    · refine R_st ho 3 (q' := (13, [(0, .inr (.inr (20, u0))), (1, .inl y1), (2, .inl y2), (3, .inl y3)], [.inl y1, .inl y2, .inr (.inr (20, u0))], 119, pm_RF, M)) rfl ?_
      refine R_iast ho hw0 rfl ?_
      refine R_nm fun M165 => ?_
      refine R_st ho 2 (q' := (5, [(2, .inl (i_ad y2 1)), (0, .inr (.inr (20, u0))), (1, .inl y1), (3, .inl y3)], [], 119, pm_RF, M165)) rfl ?_
      refine R_pk [0, 1, 2, 3] rfl ?_
      exact ih_ y1 (i_ad y2 1) y3 M165
theorem ok_Arrays_fill_t (G : pm_G) (c0 : Nat) (w0 : Int) (x1 : Int) (M : pm_M) (hw0 : (pm_alen c0 : Int) = w0) : pm_R G mt_Arrays_fill 1 (0, [(0, .inr (.inr (20, c0))), (1, .inl x1)], [], 119, pm_RF, M) (f_Arrays_fill_t c0 w0 x1 M) (pm_Zr mt_Arrays_fill pm_gV) := by
  have ho : pm_oG G mt_Arrays_fill := (oa_Arrays_fill).g G
  unfold f_Arrays_fill_t
  refine R_st ho 3 (q' := (3, [(2, .inl 0), (0, .inr (.inr (20, c0))), (1, .inl x1)], [.inr (.inr (20, c0))], 119, pm_RF, M)) rfl ?_
  refine R_alen ho (len := w0) hw0 rfl ?_
  refine R_st ho 1 (q' := (5, [(3, .inl w0), (2, .inl 0), (0, .inr (.inr (20, c0))), (1, .inl x1)], [], 119, pm_RF, M)) rfl ?_
  refine R_pk [0, 1, 2, 3] rfl ?_
  refine R_bind (ok_Arrays_fill_t_L5 G c0 w0 hw0 pm_F x1 0 w0 M) ?_
  intro e166 q_ hq_
  obtain rfl : q_ = (20, [], [], 119, pm_RF, e166) := hq_
  exact R_end (v := none) rfl rfl rfl rfl
theorem ok_Text_clear (G : pm_G) (t0 : Nat) (M : pm_M) (ht0 : pm_isT t0) : pm_R G mt_Text_clear 2 (0, [(0, .inr (.inr (10, t0)))], [], 119, pm_RF, M) (f_Text_clear t0 M) (pm_Zr mt_Text_clear pm_gV) := by
  have ho : pm_oG G mt_Text_clear := (oa_Text_clear).g G
  unfold f_Text_clear
  refine R_st ho 1 (q' := (1, [(0, .inr (.inr (10, t0)))], [.inr (.inr (10, t0))], 119, pm_RF, M)) rfl ?_
  refine R_getT ho rfl rfl (f := 3) (by decide) ht0 (c := (t0 + 1 + 3)) rfl ?_
  refine R_st ho 1 (q' := (5, [(0, .inr (.inr (10, t0)))], [.inl (-1), .inr (.inr (20, (t0 + 1 + 3)))], 119, pm_RF, M)) rfl ?_
  refine R_callS ho ms_Arrays_fill lk_10_27 rfl (As := [.inr (.inr (20, (t0 + 1 + 3))), .inl (-1)]) (st := []) rfl (Nat.le_of_ble_eq_true rfl) rfl (by decide) (Nat.le_of_ble_eq_true rfl) (ok_Arrays_fill_t G (t0 + 1 + 3) 5 (-1) M (pm_lnT 3 ht0 (by decide))) (fun M167 => ?_)
  show pm_R _ _ _ (8, [(0, .inr (.inr (10, t0)))], [], 119, pm_RF, M167) _ _
  refine R_st ho 3 (q' := (13, [(0, .inr (.inr (10, t0)))], [], 119, pm_RF, (pm_ms M167 t0 5 0))) rfl ?_
  refine R_nm fun M168 => ?_
  refine R_st ho 3 (q' := (18, [(0, .inr (.inr (10, t0)))], [], 119, pm_RF, (pm_ms M168 t0 6 0))) rfl ?_
  refine R_nm fun M169 => ?_
  exact R_end (v := none) rfl rfl rfl rfl
theorem ok_Tape_at (G : pm_G) (x1 : Int) (M : pm_M)  : pm_R G mt_Tape_at 1 (0, [(0, .inr (.inr (9, 37))), (1, .inl x1)], [], 119, pm_RF, M) (f_Tape_at x1 M) (pm_Zr mt_Tape_at (pm_gi M)) := by
  have ho : pm_oG G mt_Tape_at := (oa_Tape_at).g G
  unfold f_Tape_at
  refine R_st ho 1 (q' := (1, [(0, .inr (.inr (9, 37))), (1, .inl x1)], [.inl x1], 119, pm_RF, M)) rfl ?_
  refine R_if ho rfl (tgt := 21) rfl ?_
  refine R_lt ?_ ?_
  · refine R_st ho 1 (q' := (22, [(0, .inr (.inr (9, 37))), (1, .inl x1)], [.inl (-1)], 119, pm_RF, M)) rfl ?_
    exact R_end (v := some (.inl (-1))) rfl (Or.inl rfl) rfl rfl
  · refine R_st ho 3 (q' := (9, [(0, .inr (.inr (9, 37))), (1, .inl x1)], [.inl (M 37 1), .inl x1], 119, pm_RF, M)) rfl ?_
    refine R_ic ho rfl (tgt := 21) rfl ?_
    refine R_ge ?_ ?_
    · refine R_st ho 1 (q' := (22, [(0, .inr (.inr (9, 37))), (1, .inl x1)], [.inl (-1)], 119, pm_RF, M)) rfl ?_
      exact R_end (v := some (.inl (-1))) rfl (Or.inl rfl) rfl rfl
    · refine R_st ho 3 (q' := (17, [(0, .inr (.inr (9, 37))), (1, .inl x1)], [.inl x1, .inr (.inr (20, 38))], 119, pm_RF, M)) rfl ?_
      refine R_iald ho rfl rfl ?_
      refine R_st ho 1 (q' := (22, [(0, .inr (.inr (9, 37))), (1, .inl x1)], [.inl (M 38 (x1).toNat)], 119, pm_RF, M)) rfl ?_
      exact R_end (v := some (.inl (M 38 (x1).toNat))) rfl (Or.inl rfl) rfl rfl
theorem ok_Reader_isLetter (G : pm_G) (x0 : Int) (M : pm_M)  : pm_R G mt_Reader_isLetter 1 (0, [(0, .inl x0)], [], 119, pm_RF, M) (f_Reader_isLetter x0 M) (pm_Zr mt_Reader_isLetter (pm_gi M)) := by
  have ho : pm_oG G mt_Reader_isLetter := (oa_Reader_isLetter).g G
  unfold f_Reader_isLetter
  refine R_st ho 2 (q' := (3, [(0, .inl x0)], [.inl 97, .inl x0], 119, pm_RF, M)) rfl ?_
  refine R_ic ho rfl (tgt := 12) rfl ?_
  refine R_lt ?_ ?_
  · refine R_st ho 2 (q' := (15, [(0, .inl x0)], [.inl 65, .inl x0], 119, pm_RF, M)) rfl ?_
    refine R_ic ho rfl (tgt := 28) rfl ?_
    refine R_lt ?_ ?_
    · refine R_st ho 1 (q' := (29, [(0, .inl x0)], [.inl 0], 119, pm_RF, M)) rfl ?_
      exact R_end (v := some (.inl 0)) rfl (Or.inr ⟨rfl, Or.inl rfl⟩) rfl rfl
    · refine R_st ho 2 (q' := (21, [(0, .inl x0)], [.inl 90, .inl x0], 119, pm_RF, M)) rfl ?_
      refine R_ic ho rfl (tgt := 28) rfl ?_
      refine R_gt ?_ ?_
      · refine R_st ho 1 (q' := (29, [(0, .inl x0)], [.inl 0], 119, pm_RF, M)) rfl ?_
        exact R_end (v := some (.inl 0)) rfl (Or.inr ⟨rfl, Or.inl rfl⟩) rfl rfl
      · refine R_st ho 2 (q' := (29, [(0, .inl x0)], [.inl 1], 119, pm_RF, M)) rfl ?_
        exact R_end (v := some (.inl 1)) rfl (Or.inr ⟨rfl, Or.inr rfl⟩) rfl rfl
  · refine R_st ho 2 (q' := (9, [(0, .inl x0)], [.inl 122, .inl x0], 119, pm_RF, M)) rfl ?_
    refine R_ic ho rfl (tgt := 24) rfl ?_
    refine R_le ?_ ?_
    · refine R_st ho 2 (q' := (29, [(0, .inl x0)], [.inl 1], 119, pm_RF, M)) rfl ?_
      exact R_end (v := some (.inl 1)) rfl (Or.inr ⟨rfl, Or.inr rfl⟩) rfl rfl
    · refine R_st ho 2 (q' := (15, [(0, .inl x0)], [.inl 65, .inl x0], 119, pm_RF, M)) rfl ?_
      refine R_ic ho rfl (tgt := 28) rfl ?_
      refine R_lt ?_ ?_
      · refine R_st ho 1 (q' := (29, [(0, .inl x0)], [.inl 0], 119, pm_RF, M)) rfl ?_
        exact R_end (v := some (.inl 0)) rfl (Or.inr ⟨rfl, Or.inl rfl⟩) rfl rfl
      · refine R_st ho 2 (q' := (21, [(0, .inl x0)], [.inl 90, .inl x0], 119, pm_RF, M)) rfl ?_
        refine R_ic ho rfl (tgt := 28) rfl ?_
        refine R_gt ?_ ?_
        · refine R_st ho 1 (q' := (29, [(0, .inl x0)], [.inl 0], 119, pm_RF, M)) rfl ?_
          exact R_end (v := some (.inl 0)) rfl (Or.inr ⟨rfl, Or.inl rfl⟩) rfl rfl
        · refine R_st ho 2 (q' := (29, [(0, .inl x0)], [.inl 1], 119, pm_RF, M)) rfl ?_
          exact R_end (v := some (.inl 1)) rfl (Or.inr ⟨rfl, Or.inr rfl⟩) rfl rfl
theorem ok_Reader_isDigit (G : pm_G) (x0 : Int) (M : pm_M)  : pm_R G mt_Reader_isDigit 1 (0, [(0, .inl x0)], [], 119, pm_RF, M) (f_Reader_isDigit x0 M) (pm_Zr mt_Reader_isDigit (pm_gi M)) := by
  have ho : pm_oG G mt_Reader_isDigit := (oa_Reader_isDigit).g G
  unfold f_Reader_isDigit
  refine R_st ho 2 (q' := (3, [(0, .inl x0)], [.inl 48, .inl x0], 119, pm_RF, M)) rfl ?_
  refine R_ic ho rfl (tgt := 16) rfl ?_
  refine R_lt ?_ ?_
  · refine R_st ho 1 (q' := (17, [(0, .inl x0)], [.inl 0], 119, pm_RF, M)) rfl ?_
    exact R_end (v := some (.inl 0)) rfl (Or.inr ⟨rfl, Or.inl rfl⟩) rfl rfl
  · refine R_st ho 2 (q' := (9, [(0, .inl x0)], [.inl 57, .inl x0], 119, pm_RF, M)) rfl ?_
    refine R_ic ho rfl (tgt := 16) rfl ?_
    refine R_gt ?_ ?_
    · refine R_st ho 1 (q' := (17, [(0, .inl x0)], [.inl 0], 119, pm_RF, M)) rfl ?_
      exact R_end (v := some (.inl 0)) rfl (Or.inr ⟨rfl, Or.inl rfl⟩) rfl rfl
    · refine R_st ho 2 (q' := (17, [(0, .inl x0)], [.inl 1], 119, pm_RF, M)) rfl ?_
      exact R_end (v := some (.inl 1)) rfl (Or.inr ⟨rfl, Or.inr rfl⟩) rfl rfl
theorem ok_Reader_sign (G : pm_G) (x1 : Int) (M : pm_M)  : pm_R G mt_Reader_sign 7 (0, [(0, .inr (.inr (7, 66))), (1, .inl x1)], [], 119, pm_RF, M) (f_Reader_sign x1 M) (pm_Zr mt_Reader_sign pm_gV) := by
  have ho : pm_oG G mt_Reader_sign := (oa_Reader_sign).g G
  unfold f_Reader_sign
  refine R_st ho 6 (q' := (10, [(0, .inr (.inr (7, 66))), (1, .inl x1)], [], 119, pm_RF, (pm_ms M 66 6 (i_ad (M 66 6) 1)))) rfl ?_
  refine R_nm fun M185 => ?_
  refine R_ldcS1 ho rfl rfl (Nat.le_of_ble_eq_true rfl) ?_
  refine R_st ho 1 (q' := (13, [(0, .inr (.inr (7, 66))), (1, .inl x1)], [.inl x1, .inr (.inr (31, 1))], 119, pm_RF, M185)) rfl ?_
  refine R_x_idx ho rfl rfl (Nat.le_of_ble_eq_true rfl) (by decide) (fun r186 => ?_)
  show pm_R _ _ _ (16, [(0, .inr (.inr (7, 66))), (1, .inl x1)], [.inl r186], 119, pm_RF, M185) _ _
  refine R_st ho 3 (q' := (19, [(2, .inl r186), (0, .inr (.inr (7, 66))), (1, .inl x1)], [.inl r186, .inr (.inr (7, 66))], 119, pm_RF, M185)) rfl ?_
  refine R_if ho rfl (tgt := 27) rfl ?_
  refine R_ge ?_ ?_
  · refine R_st ho 4 (q' := (34, [(2, .inl r186), (0, .inr (.inr (7, 66))), (1, .inl x1)], [], 119, pm_RF, (pm_ms M185 66 3 (i_ad 24 r186)))) rfl ?_
    refine R_nm fun M187 => ?_
    refine R_st ho 3 (q' := (40, [(2, .inl r186), (0, .inr (.inr (7, 66))), (1, .inl x1)], [.inl 24, .inl (M187 66 3)], 119, pm_RF, M187)) rfl ?_
    refine R_ic ho rfl (tgt := 52) rfl ?_
    refine R_eq ?_ ?_
    · refine R_st ho 4 (q' := (60, [(2, .inl r186), (0, .inr (.inr (7, 66))), (1, .inl x1)], [.inl (M187 66 6), .inr (.inr (9, 37))], 119, pm_RF, M187)) rfl ?_
      refine R_callV ho mv_Tape_at lk_7_119 rfl (As := [.inl (M187 66 6)]) (kd := 9) (a := 37) (st := []) rfl rfl (Nat.le_of_ble_eq_true rfl) rfl (by decide) (Nat.le_of_ble_eq_true rfl) (ok_Tape_at G (M187 66 6) M187 ) (fun r188 => ?_)
      show pm_R _ _ _ (63, [(2, .inl r186), (0, .inr (.inr (7, 66))), (1, .inl x1)], [.inl r188], 119, pm_RF, M187) _ _
      refine R_st ho 1 (q' := (65, [(2, .inl r186), (0, .inr (.inr (7, 66))), (1, .inl x1)], [.inl 61, .inl r188], 119, pm_RF, M187)) rfl ?_
      refine R_ic ho rfl (tgt := 98) rfl ?_
      refine R_ne ?_ ?_
      · refine R_st ho 6 (q' := (78, [(2, .inl r186), (0, .inr (.inr (7, 66))), (1, .inl x1)], [], 119, pm_RF, (pm_ms M187 66 6 (i_ad (M187 66 6) 1)))) rfl ?_
        refine R_nm fun M189 => ?_
        refine R_st ho 4 (q' := (85, [(2, .inl r186), (0, .inr (.inr (7, 66))), (1, .inl x1)], [.inl 24, .inl (M189 66 3), .inr (.inr (7, 66))], 119, pm_RF, M189)) rfl ?_
        refine R_ic ho rfl (tgt := 93) rfl ?_
        refine R_ne ?_ ?_
        · refine R_st ho 3 (q' := (98, [(2, .inl r186), (0, .inr (.inr (7, 66))), (1, .inl x1)], [], 119, pm_RF, (pm_ms M189 66 3 35))) rfl ?_
          refine R_nm fun M190 => ?_
          exact R_end (v := none) rfl rfl rfl rfl
        · refine R_st ho 2 (q' := (98, [(2, .inl r186), (0, .inr (.inr (7, 66))), (1, .inl x1)], [], 119, pm_RF, (pm_ms M189 66 3 36))) rfl ?_
          refine R_nm fun M191 => ?_
          exact R_end (v := none) rfl rfl rfl rfl
      · exact R_end (v := none) rfl rfl rfl rfl
    · refine R_st ho 3 (q' := (49, [(2, .inl r186), (0, .inr (.inr (7, 66))), (1, .inl x1)], [.inl 25, .inl (M187 66 3)], 119, pm_RF, M187)) rfl ?_
      refine R_ic ho rfl (tgt := 98) rfl ?_
      refine R_ne ?_ ?_
      · refine R_st ho 4 (q' := (60, [(2, .inl r186), (0, .inr (.inr (7, 66))), (1, .inl x1)], [.inl (M187 66 6), .inr (.inr (9, 37))], 119, pm_RF, M187)) rfl ?_
        refine R_callV ho mv_Tape_at lk_7_119 rfl (As := [.inl (M187 66 6)]) (kd := 9) (a := 37) (st := []) rfl rfl (Nat.le_of_ble_eq_true rfl) rfl (by decide) (Nat.le_of_ble_eq_true rfl) (ok_Tape_at G (M187 66 6) M187 ) (fun r192 => ?_)
        show pm_R _ _ _ (63, [(2, .inl r186), (0, .inr (.inr (7, 66))), (1, .inl x1)], [.inl r192], 119, pm_RF, M187) _ _
        refine R_st ho 1 (q' := (65, [(2, .inl r186), (0, .inr (.inr (7, 66))), (1, .inl x1)], [.inl 61, .inl r192], 119, pm_RF, M187)) rfl ?_
        refine R_ic ho rfl (tgt := 98) rfl ?_
        refine R_ne ?_ ?_
        · refine R_st ho 6 (q' := (78, [(2, .inl r186), (0, .inr (.inr (7, 66))), (1, .inl x1)], [], 119, pm_RF, (pm_ms M187 66 6 (i_ad (M187 66 6) 1)))) rfl ?_
          refine R_nm fun M193 => ?_
          refine R_st ho 4 (q' := (85, [(2, .inl r186), (0, .inr (.inr (7, 66))), (1, .inl x1)], [.inl 24, .inl (M193 66 3), .inr (.inr (7, 66))], 119, pm_RF, M193)) rfl ?_
          refine R_ic ho rfl (tgt := 93) rfl ?_
          refine R_ne ?_ ?_
          · refine R_st ho 3 (q' := (98, [(2, .inl r186), (0, .inr (.inr (7, 66))), (1, .inl x1)], [], 119, pm_RF, (pm_ms M193 66 3 35))) rfl ?_
            refine R_nm fun M194 => ?_
            exact R_end (v := none) rfl rfl rfl rfl
          · refine R_st ho 2 (q' := (98, [(2, .inl r186), (0, .inr (.inr (7, 66))), (1, .inl x1)], [], 119, pm_RF, (pm_ms M193 66 3 36))) rfl ?_
            refine R_nm fun M195 => ?_
            exact R_end (v := none) rfl rfl rfl rfl
        · exact R_end (v := none) rfl rfl rfl rfl
      · exact R_end (v := none) rfl rfl rfl rfl
  · refine R_st ho 3 (q' := (34, [(2, .inl r186), (0, .inr (.inr (7, 66))), (1, .inl x1)], [], 119, pm_RF, (pm_ms M185 66 3 39))) rfl ?_
    refine R_nm fun M196 => ?_
    refine R_st ho 3 (q' := (40, [(2, .inl r186), (0, .inr (.inr (7, 66))), (1, .inl x1)], [.inl 24, .inl (M196 66 3)], 119, pm_RF, M196)) rfl ?_
    refine R_ic ho rfl (tgt := 52) rfl ?_
    refine R_eq ?_ ?_
    · refine R_st ho 4 (q' := (60, [(2, .inl r186), (0, .inr (.inr (7, 66))), (1, .inl x1)], [.inl (M196 66 6), .inr (.inr (9, 37))], 119, pm_RF, M196)) rfl ?_
      refine R_callV ho mv_Tape_at lk_7_119 rfl (As := [.inl (M196 66 6)]) (kd := 9) (a := 37) (st := []) rfl rfl (Nat.le_of_ble_eq_true rfl) rfl (by decide) (Nat.le_of_ble_eq_true rfl) (ok_Tape_at G (M196 66 6) M196 ) (fun r197 => ?_)
      show pm_R _ _ _ (63, [(2, .inl r186), (0, .inr (.inr (7, 66))), (1, .inl x1)], [.inl r197], 119, pm_RF, M196) _ _
      refine R_st ho 1 (q' := (65, [(2, .inl r186), (0, .inr (.inr (7, 66))), (1, .inl x1)], [.inl 61, .inl r197], 119, pm_RF, M196)) rfl ?_
      refine R_ic ho rfl (tgt := 98) rfl ?_
      refine R_ne ?_ ?_
      · refine R_st ho 6 (q' := (78, [(2, .inl r186), (0, .inr (.inr (7, 66))), (1, .inl x1)], [], 119, pm_RF, (pm_ms M196 66 6 (i_ad (M196 66 6) 1)))) rfl ?_
        refine R_nm fun M198 => ?_
        refine R_st ho 4 (q' := (85, [(2, .inl r186), (0, .inr (.inr (7, 66))), (1, .inl x1)], [.inl 24, .inl (M198 66 3), .inr (.inr (7, 66))], 119, pm_RF, M198)) rfl ?_
        refine R_ic ho rfl (tgt := 93) rfl ?_
        refine R_ne ?_ ?_
        · refine R_st ho 3 (q' := (98, [(2, .inl r186), (0, .inr (.inr (7, 66))), (1, .inl x1)], [], 119, pm_RF, (pm_ms M198 66 3 35))) rfl ?_
          refine R_nm fun M199 => ?_
          exact R_end (v := none) rfl rfl rfl rfl
        · refine R_st ho 2 (q' := (98, [(2, .inl r186), (0, .inr (.inr (7, 66))), (1, .inl x1)], [], 119, pm_RF, (pm_ms M198 66 3 36))) rfl ?_
          refine R_nm fun M200 => ?_
          exact R_end (v := none) rfl rfl rfl rfl
      · exact R_end (v := none) rfl rfl rfl rfl
    · refine R_st ho 3 (q' := (49, [(2, .inl r186), (0, .inr (.inr (7, 66))), (1, .inl x1)], [.inl 25, .inl (M196 66 3)], 119, pm_RF, M196)) rfl ?_
      refine R_ic ho rfl (tgt := 98) rfl ?_
      refine R_ne ?_ ?_
      · refine R_st ho 4 (q' := (60, [(2, .inl r186), (0, .inr (.inr (7, 66))), (1, .inl x1)], [.inl (M196 66 6), .inr (.inr (9, 37))], 119, pm_RF, M196)) rfl ?_
        refine R_callV ho mv_Tape_at lk_7_119 rfl (As := [.inl (M196 66 6)]) (kd := 9) (a := 37) (st := []) rfl rfl (Nat.le_of_ble_eq_true rfl) rfl (by decide) (Nat.le_of_ble_eq_true rfl) (ok_Tape_at G (M196 66 6) M196 ) (fun r201 => ?_)
        show pm_R _ _ _ (63, [(2, .inl r186), (0, .inr (.inr (7, 66))), (1, .inl x1)], [.inl r201], 119, pm_RF, M196) _ _
        refine R_st ho 1 (q' := (65, [(2, .inl r186), (0, .inr (.inr (7, 66))), (1, .inl x1)], [.inl 61, .inl r201], 119, pm_RF, M196)) rfl ?_
        refine R_ic ho rfl (tgt := 98) rfl ?_
        refine R_ne ?_ ?_
        · refine R_st ho 6 (q' := (78, [(2, .inl r186), (0, .inr (.inr (7, 66))), (1, .inl x1)], [], 119, pm_RF, (pm_ms M196 66 6 (i_ad (M196 66 6) 1)))) rfl ?_
          refine R_nm fun M202 => ?_
          refine R_st ho 4 (q' := (85, [(2, .inl r186), (0, .inr (.inr (7, 66))), (1, .inl x1)], [.inl 24, .inl (M202 66 3), .inr (.inr (7, 66))], 119, pm_RF, M202)) rfl ?_
          refine R_ic ho rfl (tgt := 93) rfl ?_
          refine R_ne ?_ ?_
          · refine R_st ho 3 (q' := (98, [(2, .inl r186), (0, .inr (.inr (7, 66))), (1, .inl x1)], [], 119, pm_RF, (pm_ms M202 66 3 35))) rfl ?_
            refine R_nm fun M203 => ?_
            exact R_end (v := none) rfl rfl rfl rfl
          · refine R_st ho 2 (q' := (98, [(2, .inl r186), (0, .inr (.inr (7, 66))), (1, .inl x1)], [], 119, pm_RF, (pm_ms M202 66 3 36))) rfl ?_
            refine R_nm fun M204 => ?_
            exact R_end (v := none) rfl rfl rfl rfl
        · exact R_end (v := none) rfl rfl rfl rfl
      · exact R_end (v := none) rfl rfl rfl rfl
theorem ok_Reader_digits_L11 (G : pm_G)    : ∀ (n_ : Nat) (M : pm_M), pm_R G mt_Reader_digits 2 (11, [(0, .inr (.inr (7, 66)))], [], 119, pm_RF, M) (f_Reader_digits_L11 n_ M) (fun e_ q_ => q_ = (87, [], [], 119, pm_RF, e_)) := by
  have ho : pm_oG G mt_Reader_digits := (oa_Reader_digits).g G
  intro n_
  induction n_ with
  | zero => intro _; exact R_none
  | succ n_ ih_ =>
    intro M
    rw [f_Reader_digits_L11]
    refine R_st ho 4 (q' := (19, [(0, .inr (.inr (7, 66)))], [.inr (.inr (9, 37)), .inl (M 66 6)], 119, pm_RF, M)) rfl ?_
    refine R_callV ho mv_Tape_length lk_7_114 rfl (As := []) (kd := 9) (a := 37) (st := [.inl (M 66 6)]) rfl rfl (Nat.le_of_ble_eq_true rfl) rfl (by decide) (Nat.le_of_ble_eq_true rfl) (ok_Tape_length G  M ) (fun r208 => ?_)
    show pm_R _ _ _ (22, [(0, .inr (.inr (7, 66)))], [.inl r208, .inl (M 66 6)], 119, pm_RF, M) _ _
    refine R_ic ho rfl (tgt := 87) rfl ?_
    refine R_ge ?_ ?_
    · refine R_pk [] rfl ?_
      exact R_ret rfl
    · refine R_st ho 4 (q' := (33, [(0, .inr (.inr (7, 66)))], [.inl (M 66 6), .inr (.inr (9, 37))], 119, pm_RF, M)) rfl ?_
      refine R_callV ho mv_Tape_at lk_7_119 rfl (As := [.inl (M 66 6)]) (kd := 9) (a := 37) (st := []) rfl rfl (Nat.le_of_ble_eq_true rfl) rfl (by decide) (Nat.le_of_ble_eq_true rfl) (ok_Tape_at G (M 66 6) M ) (fun r209 => ?_)
      show pm_R _ _ _ (36, [(0, .inr (.inr (7, 66)))], [.inl r209], 119, pm_RF, M) _ _
      refine R_callS ho ms_Reader_isDigit lk_7_128 rfl (As := [.inl r209]) (st := []) rfl (Nat.le_of_ble_eq_true rfl) rfl (by decide) (Nat.le_of_ble_eq_true rfl) (ok_Reader_isDigit G r209 M ) (fun r210 => ?_)
      show pm_R _ _ _ (39, [(0, .inr (.inr (7, 66)))], [.inl r210], 119, pm_RF, M) _ _
      refine R_if ho rfl (tgt := 87) rfl ?_
      refine R_eq ?_ ?_
      · refine R_pk [] rfl ?_
        exact R_ret rfl
      · refine R_st ho 9 (q' := (58, [(0, .inr (.inr (7, 66)))], [.inl (M 66 6), .inr (.inr (9, 37)), .inl (i_ml (M 66 4) 10), .inr (.inr (7, 66))], 119, pm_RF, M)) rfl ?_
        refine R_callV ho mv_Tape_at lk_7_119 rfl (As := [.inl (M 66 6)]) (kd := 9) (a := 37) (st := [.inl (i_ml (M 66 4) 10), .inr (.inr (7, 66))]) rfl rfl (Nat.le_of_ble_eq_true rfl) rfl (by decide) (Nat.le_of_ble_eq_true rfl) (ok_Tape_at G (M 66 6) M ) (fun r211 => ?_)
        show pm_R _ _ _ (61, [(0, .inr (.inr (7, 66)))], [.inl r211, .inl (i_ml (M 66 4) 10), .inr (.inr (7, 66))], 119, pm_RF, M) _ _
        refine R_st ho 4 (q' := (68, [(0, .inr (.inr (7, 66)))], [.inl 10000, .inl (i_sb (i_ad (i_ml (M 66 4) 10) r211) 48), .inr (.inr (7, 66))], 119, pm_RF, M)) rfl ?_
        refine R_i_mn ho lk_7_101 rfl (Nat.le_of_ble_eq_true rfl) ?_
        refine R_st ho 1 (q' := (74, [(0, .inr (.inr (7, 66)))], [], 119, pm_RF, (pm_ms M 66 4 (i_mn (i_sb (i_ad (i_ml (M 66 4) 10) r211) 48) 10000)))) rfl ?_
        refine R_nm fun M212 => ?_
        refine R_st ho 6 (q' := (84, [(0, .inr (.inr (7, 66)))], [], 119, pm_RF, (pm_ms M212 66 6 (i_ad (M212 66 6) 1)))) rfl ?_
        refine R_nm fun M213 => ?_
        refine R_st ho 1 (q' := (11, [(0, .inr (.inr (7, 66)))], [], 119, pm_RF, M213)) rfl ?_
        exact ih_ M213
theorem ok_Reader_digits (G : pm_G)  (M : pm_M)  : pm_R G mt_Reader_digits 2 (0, [(0, .inr (.inr (7, 66)))], [], 119, pm_RF, M) (f_Reader_digits M) (pm_Zr mt_Reader_digits pm_gV) := by
  have ho : pm_oG G mt_Reader_digits := (oa_Reader_digits).g G
  unfold f_Reader_digits
  refine R_st ho 3 (q' := (6, [(0, .inr (.inr (7, 66)))], [], 119, pm_RF, (pm_ms M 66 3 37))) rfl ?_
  refine R_nm fun M206 => ?_
  refine R_st ho 3 (q' := (11, [(0, .inr (.inr (7, 66)))], [], 119, pm_RF, (pm_ms M206 66 4 0))) rfl ?_
  refine R_nm fun M207 => ?_
  refine R_bind (ok_Reader_digits_L11 G pm_F M207) ?_
  intro e214 q_ hq_
  obtain rfl : q_ = (87, [], [], 119, pm_RF, e214) := hq_
  exact R_end (v := none) rfl rfl rfl rfl
theorem ok_Reader_word_L0 (G : pm_G)    : ∀ (n_ : Nat) (M : pm_M), pm_R G mt_Reader_word 7 (0, [(0, .inr (.inr (7, 66)))], [], 119, pm_RF, M) (f_Reader_word_L0 n_ M) (fun e_ q_ => q_ = (44, [(0, .inr (.inr (7, 66)))], [], 119, pm_RF, e_)) := by
  have ho : pm_oG G mt_Reader_word := (oa_Reader_word).g G
  intro n_
  induction n_ with
  | zero => intro _; exact R_none
  | succ n_ ih_ =>
    intro M
    rw [f_Reader_word_L0]
    refine R_st ho 4 (q' := (8, [(0, .inr (.inr (7, 66)))], [.inr (.inr (9, 37)), .inl (M 66 6)], 119, pm_RF, M)) rfl ?_
    refine R_callV ho mv_Tape_length lk_7_114 rfl (As := []) (kd := 9) (a := 37) (st := [.inl (M 66 6)]) rfl rfl (Nat.le_of_ble_eq_true rfl) rfl (by decide) (Nat.le_of_ble_eq_true rfl) (ok_Tape_length G  M ) (fun r216 => ?_)
    show pm_R _ _ _ (11, [(0, .inr (.inr (7, 66)))], [.inl r216, .inl (M 66 6)], 119, pm_RF, M) _ _
    refine R_ic ho rfl (tgt := 44) rfl ?_
    refine R_ge ?_ ?_
    · exact R_ret rfl
    · refine R_st ho 4 (q' := (22, [(0, .inr (.inr (7, 66)))], [.inl (M 66 6), .inr (.inr (9, 37))], 119, pm_RF, M)) rfl ?_
      refine R_callV ho mv_Tape_at lk_7_119 rfl (As := [.inl (M 66 6)]) (kd := 9) (a := 37) (st := []) rfl rfl (Nat.le_of_ble_eq_true rfl) rfl (by decide) (Nat.le_of_ble_eq_true rfl) (ok_Tape_at G (M 66 6) M ) (fun r217 => ?_)
      show pm_R _ _ _ (25, [(0, .inr (.inr (7, 66)))], [.inl r217], 119, pm_RF, M) _ _
      refine R_callS ho ms_Reader_isLetter lk_7_122 rfl (As := [.inl r217]) (st := []) rfl (Nat.le_of_ble_eq_true rfl) rfl (by decide) (Nat.le_of_ble_eq_true rfl) (ok_Reader_isLetter G r217 M ) (fun r218 => ?_)
      show pm_R _ _ _ (28, [(0, .inr (.inr (7, 66)))], [.inl r218], 119, pm_RF, M) _ _
      refine R_if ho rfl (tgt := 44) rfl ?_
      refine R_eq ?_ ?_
      · exact R_ret rfl
      · refine R_st ho 6 (q' := (41, [(0, .inr (.inr (7, 66)))], [], 119, pm_RF, (pm_ms M 66 6 (i_ad (M 66 6) 1)))) rfl ?_
        refine R_nm fun M219 => ?_
        refine R_st ho 1 (q' := (0, [(0, .inr (.inr (7, 66)))], [], 119, pm_RF, M219)) rfl ?_
        exact ih_ M219
theorem ok_Reader_word_L59 (G : pm_G)    : ∀ (n_ : Nat) (y1 : Int) (y2 : Int) (y3 : Int) (y4 : Int) (M : pm_M), pm_R G mt_Reader_word 7 (59, [(0, .inr (.inr (7, 66))), (1, .inl y1), (2, .inl y2), (3, .inl y3), (4, .inl y4)], [], 119, pm_RF, M) (f_Reader_word_L59 n_ y1 y2 y3 y4 M) (fun e_ q_ => q_ = (168, [], [], 119, pm_RF, e_)) := by
  have ho : pm_oG G mt_Reader_word := (oa_Reader_word).g G
  intro n_
  induction n_ with
  | zero => intro _ _ _ _ _; exact R_none
  | succ n_ ih_ =>
    intro y1 y2 y3 y4 M
    rw [f_Reader_word_L59]
    refine R_st ho 1 (q' := (61, [(0, .inr (.inr (7, 66))), (1, .inl y1), (2, .inl y2), (3, .inl y3), (4, .inl y4)], [.inl y4], 119, pm_RF, M)) rfl ?_
    refine R_ldcS0 ho rfl rfl (Nat.le_of_ble_eq_true rfl) ?_
    refine R_x_len ho rfl rfl (Nat.le_of_ble_eq_true rfl) (by decide) (fun r222 => ?_)
    show pm_R _ _ _ (66, [(0, .inr (.inr (7, 66))), (1, .inl y1), (2, .inl y2), (3, .inl y3), (4, .inl y4)], [.inl r222, .inl y4], 119, pm_RF, M) _ _
    refine R_ic ho rfl (tgt := 168) rfl ?_
    refine R_ge ?_ ?_
    · refine R_pk [] rfl ?_
      exact R_ret rfl
    · refine R_st ho 3 (q' := (75, [(0, .inr (.inr (7, 66))), (1, .inl y1), (2, .inl y2), (3, .inl y3), (4, .inl y4)], [.inl 39, .inl (M 66 3)], 119, pm_RF, M)) rfl ?_
      refine R_ic ho rfl (tgt := 168) rfl ?_
      refine R_ne ?_ ?_
      · refine R_ldcS0 ho rfl rfl (Nat.le_of_ble_eq_true rfl) ?_
        refine R_st ho 1 (q' := (82, [(0, .inr (.inr (7, 66))), (1, .inl y1), (2, .inl y2), (3, .inl y3), (4, .inl y4)], [.inl y4, .inr (.inr (31, 0))], 119, pm_RF, M)) rfl ?_
        refine R_x_chr ho rfl rfl (Nat.le_of_ble_eq_true rfl) (by decide) (fun r223 => ?_)
        show pm_R _ _ _ (85, [(0, .inr (.inr (7, 66))), (1, .inl y1), (2, .inl y2), (3, .inl y3), (4, .inl y4)], [.inl r223], 119, pm_RF, M) _ _
        refine R_st ho 3 (q' := (91, [(5, .inl r223), (0, .inr (.inr (7, 66))), (1, .inl y1), (2, .inl y2), (3, .inl y3), (4, .inl y4)], [.inl 32, .inl r223], 119, pm_RF, M)) rfl ?_
        refine R_ic ho rfl (tgt := 126) rfl ?_
        refine R_eq ?_ ?_
        · refine R_st ho 4 (q' := (131, [(5, .inl r223), (0, .inr (.inr (7, 66))), (1, .inl y1), (2, .inl y2), (3, .inl y3), (4, .inl y4)], [.inl (i_sb y4 y3), .inl y2], 119, pm_RF, M)) rfl ?_
          refine R_ic ho rfl (tgt := 152) rfl ?_
          refine R_ne ?_ ?_
          · refine R_st ho 6 (q' := (144, [(5, .inl r223), (0, .inr (.inr (7, 66))), (1, .inl y1), (2, .inl y2), (3, .inl y3), (4, .inl y4)], [.inl (i_sb (M 66 6) (M 66 5)), .inl y2], 119, pm_RF, M)) rfl ?_
            refine R_ic ho rfl (tgt := 152) rfl ?_
            refine R_ne ?_ ?_
            · refine R_st ho 3 (q' := (152, [(5, .inl r223), (0, .inr (.inr (7, 66))), (1, .inl y1), (2, .inl y2), (3, .inl y3), (4, .inl y4)], [], 119, pm_RF, (pm_ms M 66 3 y1))) rfl ?_
              refine R_nm fun M224 => ?_
              refine R_st ho 9 (q' := (59, [(4, .inl (i_ad y4 1)), (3, .inl (i_ad y4 1)), (2, .inl 0), (1, .inl (i_ad y1 1)), (5, .inl r223), (0, .inr (.inr (7, 66)))], [], 119, pm_RF, M224)) rfl ?_
              refine R_pk [0, 1, 2, 3, 4] rfl ?_
              exact ih_ (i_ad y1 1) 0 (i_ad y4 1) (i_ad y4 1) M224
            · refine R_st ho 9 (q' := (59, [(4, .inl (i_ad y4 1)), (3, .inl (i_ad y4 1)), (2, .inl 0), (1, .inl (i_ad y1 1)), (5, .inl r223), (0, .inr (.inr (7, 66)))], [], 119, pm_RF, M)) rfl ?_
              refine R_pk [0, 1, 2, 3, 4] rfl ?_
              exact ih_ (i_ad y1 1) 0 (i_ad y4 1) (i_ad y4 1) M
          · refine R_st ho 9 (q' := (59, [(4, .inl (i_ad y4 1)), (3, .inl (i_ad y4 1)), (2, .inl 0), (1, .inl (i_ad y1 1)), (5, .inl r223), (0, .inr (.inr (7, 66)))], [], 119, pm_RF, M)) rfl ?_
            refine R_pk [0, 1, 2, 3, 4] rfl ?_
            exact ih_ (i_ad y1 1) 0 (i_ad y4 1) (i_ad y4 1) M
        · refine R_st ho 10 (q' := (110, [(5, .inl r223), (0, .inr (.inr (7, 66))), (1, .inl y1), (2, .inl y2), (3, .inl y3), (4, .inl y4)], [.inl (i_sb (i_ad (M 66 5) y4) y3), .inr (.inr (9, 37)), .inl r223, .inl y2], 119, pm_RF, M)) rfl ?_
          refine R_callV ho mv_Tape_at lk_7_119 rfl (As := [.inl (i_sb (i_ad (M 66 5) y4) y3)]) (kd := 9) (a := 37) (st := [.inl r223, .inl y2]) rfl rfl (Nat.le_of_ble_eq_true rfl) rfl (by decide) (Nat.le_of_ble_eq_true rfl) (ok_Tape_at G (i_sb (i_ad (M 66 5) y4) y3) M ) (fun r225 => ?_)
          show pm_R _ _ _ (113, [(5, .inl r223), (0, .inr (.inr (7, 66))), (1, .inl y1), (2, .inl y2), (3, .inl y3), (4, .inl y4)], [.inl r225, .inl r223, .inl y2], 119, pm_RF, M) _ _
          refine R_ic ho rfl (tgt := 120) rfl ?_
          refine R_ne ?_ ?_
          · refine R_st ho 7 (q' := (59, [(4, .inl (i_ad y4 1)), (2, .inl (i_ad y2 1)), (5, .inl r223), (0, .inr (.inr (7, 66))), (1, .inl y1), (3, .inl y3)], [], 119, pm_RF, M)) rfl ?_
            refine R_pk [0, 1, 2, 3, 4] rfl ?_
            exact ih_ y1 (i_ad y2 1) y3 (i_ad y4 1) M
          · refine R_st ho 6 (q' := (59, [(4, .inl (i_ad y4 1)), (2, .inl (i_ad y2 0)), (5, .inl r223), (0, .inr (.inr (7, 66))), (1, .inl y1), (3, .inl y3)], [], 119, pm_RF, M)) rfl ?_
            refine R_pk [0, 1, 2, 3, 4] rfl ?_
            exact ih_ y1 (i_ad y2 0) y3 (i_ad y4 1) M
      · refine R_pk [] rfl ?_
        exact R_ret rfl
theorem ok_Reader_word (G : pm_G)  (M : pm_M)  : pm_R G mt_Reader_word 7 (0, [(0, .inr (.inr (7, 66)))], [], 119, pm_RF, M) (f_Reader_word M) (pm_Zr mt_Reader_word pm_gV) := by
  have ho : pm_oG G mt_Reader_word := (oa_Reader_word).g G
  unfold f_Reader_word
  refine R_bind (ok_Reader_word_L0 G pm_F M) ?_
  intro e220 q_ hq_
  obtain rfl : q_ = (44, [(0, .inr (.inr (7, 66)))], [], 119, pm_RF, e220) := hq_
  refine R_st ho 3 (q' := (50, [(0, .inr (.inr (7, 66)))], [], 119, pm_RF, (pm_ms e220 66 3 39))) rfl ?_
  refine R_nm fun M221 => ?_
  refine R_st ho 8 (q' := (59, [(4, .inl 0), (3, .inl 0), (2, .inl 0), (1, .inl 0), (0, .inr (.inr (7, 66)))], [], 119, pm_RF, M221)) rfl ?_
  refine R_pk [0, 1, 2, 3, 4] rfl ?_
  refine R_bind (ok_Reader_word_L59 G pm_F 0 0 0 0 M221) ?_
  intro e226 q_ hq_
  obtain rfl : q_ = (168, [], [], 119, pm_RF, e226) := hq_
  exact R_end (v := none) rfl rfl rfl rfl
theorem ok_Reader_advance_L0 (G : pm_G)    : ∀ (n_ : Nat) (M : pm_M), pm_R G mt_Reader_advance 8 (0, [(0, .inr (.inr (7, 66)))], [], 119, pm_RF, M) (f_Reader_advance_L0 n_ M) (fun e_ q_ => q_ = (59, [(0, .inr (.inr (7, 66)))], [], 119, pm_RF, e_)) := by
  have ho : pm_oG G mt_Reader_advance := (oa_Reader_advance).g G
  intro n_
  induction n_ with
  | zero => intro _; exact R_none
  | succ n_ ih_ =>
    intro M
    rw [f_Reader_advance_L0]
    refine R_st ho 4 (q' := (8, [(0, .inr (.inr (7, 66)))], [.inr (.inr (9, 37)), .inl (M 66 6)], 119, pm_RF, M)) rfl ?_
    refine R_callV ho mv_Tape_length lk_7_114 rfl (As := []) (kd := 9) (a := 37) (st := [.inl (M 66 6)]) rfl rfl (Nat.le_of_ble_eq_true rfl) rfl (by decide) (Nat.le_of_ble_eq_true rfl) (ok_Tape_length G  M ) (fun r174 => ?_)
    show pm_R _ _ _ (11, [(0, .inr (.inr (7, 66)))], [.inl r174, .inl (M 66 6)], 119, pm_RF, M) _ _
    refine R_ic ho rfl (tgt := 59) rfl ?_
    refine R_ge ?_ ?_
    · exact R_ret rfl
    · refine R_st ho 4 (q' := (22, [(0, .inr (.inr (7, 66)))], [.inl (M 66 6), .inr (.inr (9, 37))], 119, pm_RF, M)) rfl ?_
      refine R_callV ho mv_Tape_at lk_7_119 rfl (As := [.inl (M 66 6)]) (kd := 9) (a := 37) (st := []) rfl rfl (Nat.le_of_ble_eq_true rfl) rfl (by decide) (Nat.le_of_ble_eq_true rfl) (ok_Tape_at G (M 66 6) M ) (fun r175 => ?_)
      show pm_R _ _ _ (25, [(0, .inr (.inr (7, 66)))], [.inl r175], 119, pm_RF, M) _ _
      refine R_st ho 1 (q' := (27, [(0, .inr (.inr (7, 66)))], [.inl 32, .inl r175], 119, pm_RF, M)) rfl ?_
      refine R_ic ho rfl (tgt := 46) rfl ?_
      refine R_eq ?_ ?_
      · refine R_st ho 6 (q' := (56, [(0, .inr (.inr (7, 66)))], [], 119, pm_RF, (pm_ms M 66 6 (i_ad (M 66 6) 1)))) rfl ?_
        refine R_nm fun M176 => ?_
        refine R_st ho 1 (q' := (0, [(0, .inr (.inr (7, 66)))], [], 119, pm_RF, M176)) rfl ?_
        exact ih_ M176
      · refine R_st ho 4 (q' := (38, [(0, .inr (.inr (7, 66)))], [.inl (M 66 6), .inr (.inr (9, 37))], 119, pm_RF, M)) rfl ?_
        refine R_callV ho mv_Tape_at lk_7_119 rfl (As := [.inl (M 66 6)]) (kd := 9) (a := 37) (st := []) rfl rfl (Nat.le_of_ble_eq_true rfl) rfl (by decide) (Nat.le_of_ble_eq_true rfl) (ok_Tape_at G (M 66 6) M ) (fun r177 => ?_)
        show pm_R _ _ _ (41, [(0, .inr (.inr (7, 66)))], [.inl r177], 119, pm_RF, M) _ _
        refine R_st ho 1 (q' := (43, [(0, .inr (.inr (7, 66)))], [.inl 10, .inl r177], 119, pm_RF, M)) rfl ?_
        refine R_ic ho rfl (tgt := 59) rfl ?_
        refine R_ne ?_ ?_
        · refine R_st ho 6 (q' := (56, [(0, .inr (.inr (7, 66)))], [], 119, pm_RF, (pm_ms M 66 6 (i_ad (M 66 6) 1)))) rfl ?_
          refine R_nm fun M178 => ?_
          refine R_st ho 1 (q' := (0, [(0, .inr (.inr (7, 66)))], [], 119, pm_RF, M178)) rfl ?_
          exact ih_ M178
        · exact R_ret rfl
theorem ok_Reader_advance (G : pm_G)  (M : pm_M)  : pm_R G mt_Reader_advance 8 (0, [(0, .inr (.inr (7, 66)))], [], 119, pm_RF, M) (f_Reader_advance M) (pm_Zr mt_Reader_advance pm_gV) := by
  have ho : pm_oG G mt_Reader_advance := (oa_Reader_advance).g G
  unfold f_Reader_advance
  refine R_bind (ok_Reader_advance_L0 G pm_F M) ?_
  intro e179 q_ hq_
  obtain rfl : q_ = (59, [(0, .inr (.inr (7, 66)))], [], 119, pm_RF, e179) := hq_
  refine R_st ho 4 (q' := (67, [(0, .inr (.inr (7, 66)))], [], 119, pm_RF, (pm_ms e179 66 5 (e179 66 6)))) rfl ?_
  refine R_nm fun M180 => ?_
  refine R_st ho 4 (q' := (75, [(0, .inr (.inr (7, 66)))], [.inl (M180 66 5), .inr (.inr (9, 37))], 119, pm_RF, M180)) rfl ?_
  refine R_callV ho mv_Tape_at lk_7_119 rfl (As := [.inl (M180 66 5)]) (kd := 9) (a := 37) (st := []) rfl rfl (Nat.le_of_ble_eq_true rfl) rfl (by decide) (Nat.le_of_ble_eq_true rfl) (ok_Tape_at G (M180 66 5) M180 ) (fun r181 => ?_)
  show pm_R _ _ _ (78, [(0, .inr (.inr (7, 66)))], [.inl r181], 119, pm_RF, M180) _ _
  refine R_st ho 3 (q' := (81, [(1, .inl r181), (0, .inr (.inr (7, 66)))], [.inl (-1), .inl r181], 119, pm_RF, M180)) rfl ?_
  refine R_ic ho rfl (tgt := 93) rfl ?_
  refine R_ne ?_ ?_
  · refine R_st ho 3 (q' := (90, [(1, .inl r181), (0, .inr (.inr (7, 66)))], [], 119, pm_RF, (pm_ms M180 66 3 38))) rfl ?_
    refine R_nm fun M182 => ?_
    refine R_st ho 1 (q' := (127, [(1, .inl r181), (0, .inr (.inr (7, 66)))], [], 119, pm_RF, M182)) rfl ?_
    exact R_end (v := none) rfl rfl rfl rfl
  · refine R_st ho 1 (q' := (94, [(1, .inl r181), (0, .inr (.inr (7, 66)))], [.inl r181], 119, pm_RF, M180)) rfl ?_
    refine R_callS ho ms_Reader_isLetter lk_7_122 rfl (As := [.inl r181]) (st := []) rfl (Nat.le_of_ble_eq_true rfl) rfl (by decide) (Nat.le_of_ble_eq_true rfl) (ok_Reader_isLetter G r181 M180 ) (fun r183 => ?_)
    show pm_R _ _ _ (97, [(1, .inl r181), (0, .inr (.inr (7, 66)))], [.inl r183], 119, pm_RF, M180) _ _
    refine R_if ho rfl (tgt := 107) rfl ?_
    refine R_eq ?_ ?_
    · refine R_st ho 1 (q' := (108, [(1, .inl r181), (0, .inr (.inr (7, 66)))], [.inl r181], 119, pm_RF, M180)) rfl ?_
      refine R_callS ho ms_Reader_isDigit lk_7_128 rfl (As := [.inl r181]) (st := []) rfl (Nat.le_of_ble_eq_true rfl) rfl (by decide) (Nat.le_of_ble_eq_true rfl) (ok_Reader_isDigit G r181 M180 ) (fun r184 => ?_)
      show pm_R _ _ _ (111, [(1, .inl r181), (0, .inr (.inr (7, 66)))], [.inl r184], 119, pm_RF, M180) _ _
      refine R_if ho rfl (tgt := 121) rfl ?_
      refine R_eq ?_ ?_
      · refine R_st ho 3 (q' := (124, [(1, .inl r181), (0, .inr (.inr (7, 66)))], [.inl (i_2c r181), .inr (.inr (7, 66))], 119, pm_RF, M180)) rfl ?_
        refine R_callV ho mv_Reader_sign lk_7_134 rfl (As := [.inl (i_2c r181)]) (kd := 7) (a := 66) (st := []) rfl rfl (Nat.le_of_ble_eq_true rfl) rfl (by decide) (Nat.le_of_ble_eq_true rfl) (ok_Reader_sign G (i_2c r181) M180 ) (fun M205 => ?_)
        show pm_R _ _ _ (127, [(1, .inl r181), (0, .inr (.inr (7, 66)))], [], 119, pm_RF, M205) _ _
        exact R_end (v := none) rfl rfl rfl rfl
      · refine R_st ho 1 (q' := (115, [(1, .inl r181), (0, .inr (.inr (7, 66)))], [.inr (.inr (7, 66))], 119, pm_RF, M180)) rfl ?_
        refine R_callV ho mv_Reader_digits lk_7_131 rfl (As := []) (kd := 7) (a := 66) (st := []) rfl rfl (Nat.le_of_ble_eq_true rfl) rfl (by decide) (Nat.le_of_ble_eq_true rfl) (ok_Reader_digits G  M180 ) (fun M215 => ?_)
        show pm_R _ _ _ (118, [(1, .inl r181), (0, .inr (.inr (7, 66)))], [], 119, pm_RF, M215) _ _
        refine R_st ho 1 (q' := (127, [(1, .inl r181), (0, .inr (.inr (7, 66)))], [], 119, pm_RF, M215)) rfl ?_
        exact R_end (v := none) rfl rfl rfl rfl
    · refine R_st ho 1 (q' := (101, [(1, .inl r181), (0, .inr (.inr (7, 66)))], [.inr (.inr (7, 66))], 119, pm_RF, M180)) rfl ?_
      refine R_callV ho mv_Reader_word lk_7_125 rfl (As := []) (kd := 7) (a := 66) (st := []) rfl rfl (Nat.le_of_ble_eq_true rfl) rfl (by decide) (Nat.le_of_ble_eq_true rfl) (ok_Reader_word G  M180 ) (fun M227 => ?_)
      show pm_R _ _ _ (104, [(1, .inl r181), (0, .inr (.inr (7, 66)))], [], 119, pm_RF, M227) _ _
      refine R_st ho 1 (q' := (127, [(1, .inl r181), (0, .inr (.inr (7, 66)))], [], 119, pm_RF, M227)) rfl ?_
      exact R_end (v := none) rfl rfl rfl rfl
theorem ok_Text_isFull (G : pm_G) (t0 : Nat) (M : pm_M) (ht0 : pm_isT t0) : pm_R G mt_Text_isFull 1 (0, [(0, .inr (.inr (10, t0)))], [], 119, pm_RF, M) (f_Text_isFull t0 M) (pm_Zr mt_Text_isFull (pm_gi M)) := by
  have ho : pm_oG G mt_Text_isFull := (oa_Text_isFull).g G
  unfold f_Text_isFull
  refine R_st ho 3 (q' := (6, [(0, .inr (.inr (10, t0)))], [.inl 24, .inl (M t0 5)], 119, pm_RF, M)) rfl ?_
  refine R_ic ho rfl (tgt := 13) rfl ?_
  refine R_lt ?_ ?_
  · refine R_st ho 1 (q' := (14, [(0, .inr (.inr (10, t0)))], [.inl 0], 119, pm_RF, M)) rfl ?_
    exact R_end (v := some (.inl 0)) rfl (Or.inr ⟨rfl, Or.inl rfl⟩) rfl rfl
  · refine R_st ho 2 (q' := (14, [(0, .inr (.inr (10, t0)))], [.inl 1], 119, pm_RF, M)) rfl ?_
    exact R_end (v := some (.inl 1)) rfl (Or.inr ⟨rfl, Or.inr rfl⟩) rfl rfl
theorem ok_Text_codeLength (G : pm_G) (t0 : Nat) (M : pm_M) (ht0 : pm_isT t0) : pm_R G mt_Text_codeLength 1 (0, [(0, .inr (.inr (10, t0)))], [], 119, pm_RF, M) (f_Text_codeLength t0 M) (pm_Zr mt_Text_codeLength (pm_gi M)) := by
  have ho : pm_oG G mt_Text_codeLength := (oa_Text_codeLength).g G
  unfold f_Text_codeLength
  refine R_st ho 2 (q' := (4, [(0, .inr (.inr (10, t0)))], [.inl (M t0 6)], 119, pm_RF, M)) rfl ?_
  exact R_end (v := some (.inl (M t0 6))) rfl (Or.inl rfl) rfl rfl
theorem ok_Reader_joins (G : pm_G) (x1 : Int) (M : pm_M)  : pm_R G mt_Reader_joins 1 (0, [(0, .inr (.inr (7, 66))), (1, .inl x1)], [], 119, pm_RF, M) (f_Reader_joins x1 M) (pm_Zr mt_Reader_joins (pm_gi M)) := by
  have ho : pm_oG G mt_Reader_joins := (oa_Reader_joins).g G
  unfold f_Reader_joins
  refine R_st ho 1 (q' := (1, [(0, .inr (.inr (7, 66))), (1, .inl x1)], [.inl x1], 119, pm_RF, M)) rfl ?_
  refine R_cs (fun z_ => (1, [(0, .inr (.inr (7, 66))), (1, .inl x1)], [.inl z_], 119, pm_RF, M)) ?_ (fun h238 => ?_)
  · refine R_swk ho rfl (by decide) rfl (tgt := 36) rfl (by decide +kernel) ?_
    refine R_st ho 3 (q' := (42, [(0, .inr (.inr (7, 66))), (1, .inl x1)], [.inl 11, .inl (M 66 3)], 119, pm_RF, M)) rfl ?_
    refine R_ic ho rfl (tgt := 49) rfl ?_
    refine R_ne ?_ ?_
    · refine R_st ho 2 (q' := (123, [(0, .inr (.inr (7, 66))), (1, .inl x1)], [.inl 1], 119, pm_RF, M)) rfl ?_
      exact R_end (v := some (.inl 1)) rfl (Or.inr ⟨rfl, Or.inr rfl⟩) rfl rfl
    · refine R_st ho 2 (q' := (123, [(0, .inr (.inr (7, 66))), (1, .inl x1)], [.inl 0], 119, pm_RF, M)) rfl ?_
      exact R_end (v := some (.inl 0)) rfl (Or.inr ⟨rfl, Or.inl rfl⟩) rfl rfl
  refine R_cs (fun z_ => (1, [(0, .inr (.inr (7, 66))), (1, .inl x1)], [.inl z_], 119, pm_RF, M)) ?_ (fun h239 => ?_)
  · refine R_swk ho rfl (by decide) rfl (tgt := 53) rfl (by decide +kernel) ?_
    refine R_st ho 3 (q' := (59, [(0, .inr (.inr (7, 66))), (1, .inl x1)], [.inl 12, .inl (M 66 3)], 119, pm_RF, M)) rfl ?_
    refine R_ic ho rfl (tgt := 66) rfl ?_
    refine R_ne ?_ ?_
    · refine R_st ho 2 (q' := (123, [(0, .inr (.inr (7, 66))), (1, .inl x1)], [.inl 1], 119, pm_RF, M)) rfl ?_
      exact R_end (v := some (.inl 1)) rfl (Or.inr ⟨rfl, Or.inr rfl⟩) rfl rfl
    · refine R_st ho 2 (q' := (123, [(0, .inr (.inr (7, 66))), (1, .inl x1)], [.inl 0], 119, pm_RF, M)) rfl ?_
      exact R_end (v := some (.inl 0)) rfl (Or.inr ⟨rfl, Or.inl rfl⟩) rfl rfl
  refine R_cs (fun z_ => (1, [(0, .inr (.inr (7, 66))), (1, .inl x1)], [.inl z_], 119, pm_RF, M)) ?_ (fun h240 => ?_)
  · refine R_swk ho rfl (by decide) rfl (tgt := 122) rfl (by decide +kernel) ?_
    refine R_st ho 1 (q' := (123, [(0, .inr (.inr (7, 66))), (1, .inl x1)], [.inl 0], 119, pm_RF, M)) rfl ?_
    exact R_end (v := some (.inl 0)) rfl (Or.inr ⟨rfl, Or.inl rfl⟩) rfl rfl
  refine R_cs (fun z_ => (1, [(0, .inr (.inr (7, 66))), (1, .inl x1)], [.inl z_], 119, pm_RF, M)) ?_ (fun h241 => ?_)
  · refine R_swk ho rfl (by decide) rfl (tgt := 70) rfl (by decide +kernel) ?_
    refine R_st ho 3 (q' := (76, [(0, .inr (.inr (7, 66))), (1, .inl x1)], [.inl 28, .inl (M 66 3)], 119, pm_RF, M)) rfl ?_
    refine R_ic ho rfl (tgt := 88) rfl ?_
    refine R_eq ?_ ?_
    · refine R_st ho 2 (q' := (123, [(0, .inr (.inr (7, 66))), (1, .inl x1)], [.inl 1], 119, pm_RF, M)) rfl ?_
      exact R_end (v := some (.inl 1)) rfl (Or.inr ⟨rfl, Or.inr rfl⟩) rfl rfl
    · refine R_st ho 3 (q' := (85, [(0, .inr (.inr (7, 66))), (1, .inl x1)], [.inl 29, .inl (M 66 3)], 119, pm_RF, M)) rfl ?_
      refine R_ic ho rfl (tgt := 92) rfl ?_
      refine R_ne ?_ ?_
      · refine R_st ho 2 (q' := (123, [(0, .inr (.inr (7, 66))), (1, .inl x1)], [.inl 1], 119, pm_RF, M)) rfl ?_
        exact R_end (v := some (.inl 1)) rfl (Or.inr ⟨rfl, Or.inr rfl⟩) rfl rfl
      · refine R_st ho 2 (q' := (123, [(0, .inr (.inr (7, 66))), (1, .inl x1)], [.inl 0], 119, pm_RF, M)) rfl ?_
        exact R_end (v := some (.inl 0)) rfl (Or.inr ⟨rfl, Or.inl rfl⟩) rfl rfl
  refine R_cs (fun z_ => (1, [(0, .inr (.inr (7, 66))), (1, .inl x1)], [.inl z_], 119, pm_RF, M)) ?_ (fun h242 => ?_)
  · refine R_swk ho rfl (by decide) rfl (tgt := 96) rfl (by decide +kernel) ?_
    refine R_st ho 3 (q' := (102, [(0, .inr (.inr (7, 66))), (1, .inl x1)], [.inl 30, .inl (M 66 3)], 119, pm_RF, M)) rfl ?_
    refine R_ic ho rfl (tgt := 114) rfl ?_
    refine R_eq ?_ ?_
    · refine R_st ho 2 (q' := (123, [(0, .inr (.inr (7, 66))), (1, .inl x1)], [.inl 1], 119, pm_RF, M)) rfl ?_
      exact R_end (v := some (.inl 1)) rfl (Or.inr ⟨rfl, Or.inr rfl⟩) rfl rfl
    · refine R_st ho 3 (q' := (111, [(0, .inr (.inr (7, 66))), (1, .inl x1)], [.inl 31, .inl (M 66 3)], 119, pm_RF, M)) rfl ?_
      refine R_ic ho rfl (tgt := 118) rfl ?_
      refine R_ne ?_ ?_
      · refine R_st ho 2 (q' := (123, [(0, .inr (.inr (7, 66))), (1, .inl x1)], [.inl 1], 119, pm_RF, M)) rfl ?_
        exact R_end (v := some (.inl 1)) rfl (Or.inr ⟨rfl, Or.inr rfl⟩) rfl rfl
      · refine R_st ho 2 (q' := (123, [(0, .inr (.inr (7, 66))), (1, .inl x1)], [.inl 0], 119, pm_RF, M)) rfl ?_
        exact R_end (v := some (.inl 0)) rfl (Or.inr ⟨rfl, Or.inl rfl⟩) rfl rfl
  refine R_swd ho rfl (by omega) rfl (by decide +kernel) ?_
  refine R_st ho 1 (q' := (123, [(0, .inr (.inr (7, 66))), (1, .inl x1)], [.inl 0], 119, pm_RF, M)) rfl ?_
  exact R_end (v := some (.inl 0)) rfl (Or.inr ⟨rfl, Or.inl rfl⟩) rfl rfl
theorem ok_Text_emit (G : pm_G) (t0 : Nat) (x1 : Int) (M : pm_M) (ht0 : pm_isT t0) : pm_R G mt_Text_emit 1 (0, [(0, .inr (.inr (10, t0))), (1, .inl x1)], [], 119, pm_RF, M) (f_Text_emit t0 x1 M) (pm_Zr mt_Text_emit pm_gV) := by
  have ho : pm_oG G mt_Text_emit := (oa_Text_emit).g G
  unfold f_Text_emit
  refine R_st ho 3 (q' := (5, [(0, .inr (.inr (10, t0))), (1, .inl x1)], [.inr (.inr (10, t0)), .inl (M t0 6)], 119, pm_RF, M)) rfl ?_
  refine R_getT ho rfl rfl (f := 4) (by decide) ht0 (c := (t0 + 1 + 4)) rfl ?_
  refine R_alen ho (len := 300) (pm_lnT 4 ht0 (by decide)) rfl ?_
  refine R_ic ho rfl (tgt := 32) rfl ?_
  refine R_ge ?_ ?_
  · exact R_end (v := none) rfl rfl rfl rfl
  · refine R_st ho 1 (q' := (13, [(0, .inr (.inr (10, t0))), (1, .inl x1)], [.inr (.inr (10, t0))], 119, pm_RF, M)) rfl ?_
    refine R_getT ho rfl rfl (f := 4) (by decide) ht0 (c := (t0 + 1 + 4)) rfl ?_
    refine R_st ho 3 (q' := (21, [(0, .inr (.inr (10, t0))), (1, .inl x1)], [.inl x1, .inl (M t0 6), .inr (.inr (20, (t0 + 1 + 4)))], 119, pm_RF, M)) rfl ?_
    refine R_iast ho (pm_lnT 4 ht0 (by decide)) rfl ?_
    refine R_nm fun M247 => ?_
    refine R_st ho 6 (q' := (32, [(0, .inr (.inr (10, t0))), (1, .inl x1)], [], 119, pm_RF, (pm_ms M247 t0 6 (i_ad (M247 t0 6) 1)))) rfl ?_
    refine R_nm fun M248 => ?_
    exact R_end (v := none) rfl rfl rfl rfl
theorem ok_Reader_emit (G : pm_G) (x1 : Int) (M : pm_M)  : pm_R G mt_Reader_emit 2 (0, [(0, .inr (.inr (7, 66))), (1, .inl x1)], [], 119, pm_RF, M) (f_Reader_emit x1 M) (pm_Zr mt_Reader_emit pm_gV) := by
  have ho : pm_oG G mt_Reader_emit := (oa_Reader_emit).g G
  unfold f_Reader_emit
  refine R_st ho 1 (q' := (1, [(0, .inr (.inr (7, 66))), (1, .inl x1)], [.inr (.inr (7, 66))], 119, pm_RF, M)) rfl ?_
  refine R_getI ho rfl rfl (fun h246 => ?_)
  refine R_st ho 3 (q' := (9, [(0, .inr (.inr (7, 66))), (1, .inl x1)], [.inl (i_ad 10000 x1), .inr (.inr (10, (M 66 1 - 1).toNat))], 119, pm_RF, M)) rfl ?_
  refine R_callV ho mv_Text_emit lk_7_107 rfl (As := [.inl (i_ad 10000 x1)]) (kd := 10) (a := (M 66 1 - 1).toNat) (st := []) rfl rfl (Nat.le_of_ble_eq_true rfl) rfl (by decide) (Nat.le_of_ble_eq_true rfl) (ok_Text_emit G (M 66 1 - 1).toNat (i_ad 10000 x1) M h246) (fun M249 => ?_)
  show pm_R _ _ _ (12, [(0, .inr (.inr (7, 66))), (1, .inl x1)], [], 119, pm_RF, M249) _ _
  exact R_end (v := none) rfl rfl rfl rfl
theorem ok_Reader_joined_L12 (G : pm_G) (D : Nat) (hD : 10 ≤ D) (rc : Nat → Int → Int → pm_M → Option (Int × pm_M)) (hr0 : ∀ (a b : Int) (M : pm_M), pm_R G mt_Reader_joined D (0, [(0, .inr (.inr (7, 66))), (1, .inl a), (2, .inl b)], [], 119, pm_RF, M) (rc 0 a b M) (pm_Zr mt_Reader_joined pm_gI)) (hr1 : ∀ (a b : Int) (M : pm_M), pm_R G mt_Reader_part D (0, [(0, .inr (.inr (7, 66))), (1, .inl a), (2, .inl b)], [], 119, pm_RF, M) (rc 1 a b M) (pm_Zr mt_Reader_part pm_gI)) (hr2 : ∀ (a : Int) (M : pm_M), pm_R G mt_Reader_ask D (0, [(0, .inr (.inr (7, 66))), (1, .inl a)], [], 119, pm_RF, M) (rc 2 a 0 M) (pm_Zr mt_Reader_ask pm_gI)) (hr3 : ∀ (a : Int) (M : pm_M), pm_R G mt_Reader_one D (0, [(0, .inr (.inr (7, 66))), (1, .inl a)], [], 119, pm_RF, M) (rc 3 a 0 M) (pm_Zr mt_Reader_one pm_gI))  : ∀ (n_ : Nat) (y1 : Int) (y2 : Int) (y3 : Int) (y4 : Int) (M : pm_M), pm_R G mt_Reader_joined (D + 1) (12, [(0, .inr (.inr (7, 66))), (1, .inl y1), (2, .inl y2), (3, .inl y3), (4, .inl y4)], [], 119, pm_RF, M) (f_Reader_joined_L12 rc n_ y1 y2 y3 y4 M) (fun e_ q_ => q_ = (63, [(3, .inl e_.1)], [], 119, pm_RF, e_.2)) := by
  have ho : pm_oG G mt_Reader_joined := (oa_Reader_joined).g G
  intro n_
  induction n_ with
  | zero => intro _ _ _ _ _; exact R_none
  | succ n_ ih_ =>
    intro y1 y2 y3 y4 M
    rw [f_Reader_joined_L12]
    refine R_st ho 1 (q' := (13, [(0, .inr (.inr (7, 66))), (1, .inl y1), (2, .inl y2), (3, .inl y3), (4, .inl y4)], [.inl y3], 119, pm_RF, M)) rfl ?_
    refine R_if ho rfl (tgt := 63) rfl ?_
    refine R_eq ?_ ?_
    · refine R_pk [3] rfl ?_
      exact R_ret rfl
    · refine R_st ho 2 (q' := (18, [(0, .inr (.inr (7, 66))), (1, .inl y1), (2, .inl y2), (3, .inl y3), (4, .inl y4)], [.inl y1, .inr (.inr (7, 66))], 119, pm_RF, M)) rfl ?_
      refine R_callV ho mv_Reader_joins lk_7_85 rfl (As := [.inl y1]) (kd := 7) (a := 66) (st := []) rfl rfl (Nat.le_of_ble_eq_true rfl) rfl (by omega) (Nat.le_of_ble_eq_true rfl) (ok_Reader_joins G y1 M ) (fun r243 => ?_)
      show pm_R _ _ _ (21, [(0, .inr (.inr (7, 66))), (1, .inl y1), (2, .inl y2), (3, .inl y3), (4, .inl y4)], [.inl r243], 119, pm_RF, M) _ _
      refine R_if ho rfl (tgt := 63) rfl ?_
      refine R_eq ?_ ?_
      · refine R_pk [3] rfl ?_
        exact R_ret rfl
      · refine R_st ho 2 (q' := (29, [(0, .inr (.inr (7, 66))), (1, .inl y1), (2, .inl y2), (3, .inl y3), (4, .inl y4)], [.inl 300, .inl y4], 119, pm_RF, M)) rfl ?_
        refine R_ic ho rfl (tgt := 63) rfl ?_
        refine R_ge ?_ ?_
        · refine R_pk [3] rfl ?_
          exact R_ret rfl
        · refine R_st ho 4 (q' := (39, [(5, .inl (M 66 3)), (0, .inr (.inr (7, 66))), (1, .inl y1), (2, .inl y2), (3, .inl y3), (4, .inl y4)], [.inr (.inr (7, 66))], 119, pm_RF, M)) rfl ?_
          refine R_callV ho mv_Reader_advance lk_7_34 rfl (As := []) (kd := 7) (a := 66) (st := []) rfl rfl (Nat.le_of_ble_eq_true rfl) rfl (by omega) (Nat.le_of_ble_eq_true rfl) (ok_Reader_advance G  M ) (fun M244 => ?_)
          show pm_R _ _ _ (42, [(5, .inl (M 66 3)), (0, .inr (.inr (7, 66))), (1, .inl y1), (2, .inl y2), (3, .inl y3), (4, .inl y4)], [], 119, pm_RF, M244) _ _
          refine R_st ho 5 (q' := (47, [(5, .inl (M 66 3)), (0, .inr (.inr (7, 66))), (1, .inl y1), (2, .inl y2), (3, .inl y3), (4, .inl y4)], [.inl y2, .inl (i_ad y1 1), .inr (.inr (7, 66))], 119, pm_RF, M244)) rfl ?_
          refine R_callV ho mv_Reader_part lk_7_82 rfl (As := [.inl (i_ad y1 1), .inl y2]) (kd := 7) (a := 66) (st := []) rfl rfl (Nat.le_of_ble_eq_true rfl) rfl (by omega) (Nat.le_of_ble_eq_true rfl) (hr1 (i_ad y1 1) y2 M244) (fun r245 => ?_)
          show pm_R _ _ _ (50, [(5, .inl (M 66 3)), (0, .inr (.inr (7, 66))), (1, .inl y1), (2, .inl y2), (3, .inl y3), (4, .inl y4)], [.inl r245.1], 119, pm_RF, r245.2) _ _
          refine R_st ho 3 (q' := (54, [(3, .inl r245.1), (5, .inl (M 66 3)), (0, .inr (.inr (7, 66))), (1, .inl y1), (2, .inl y2), (4, .inl y4)], [.inl (M 66 3), .inr (.inr (7, 66))], 119, pm_RF, r245.2)) rfl ?_
          refine R_callV ho mv_Reader_emit lk_7_88 rfl (As := [.inl (M 66 3)]) (kd := 7) (a := 66) (st := []) rfl rfl (Nat.le_of_ble_eq_true rfl) rfl (by omega) (Nat.le_of_ble_eq_true rfl) (ok_Reader_emit G (M 66 3) r245.2 ) (fun M250 => ?_)
          show pm_R _ _ _ (57, [(3, .inl r245.1), (5, .inl (M 66 3)), (0, .inr (.inr (7, 66))), (1, .inl y1), (2, .inl y2), (4, .inl y4)], [], 119, pm_RF, M250) _ _
          refine R_st ho 2 (q' := (12, [(4, .inl (i_ad y4 1)), (3, .inl r245.1), (5, .inl (M 66 3)), (0, .inr (.inr (7, 66))), (1, .inl y1), (2, .inl y2)], [], 119, pm_RF, M250)) rfl ?_
          refine R_pk [0, 1, 2, 3, 4] rfl ?_
          exact ih_ y1 y2 r245.1 (i_ad y4 1) M250
theorem ok_Reader_joined (G : pm_G) (D : Nat) (hD : 10 ≤ D) (rc : Nat → Int → Int → pm_M → Option (Int × pm_M)) (x1 : Int) (x2 : Int) (M : pm_M) (hr0 : ∀ (a b : Int) (M : pm_M), pm_R G mt_Reader_joined D (0, [(0, .inr (.inr (7, 66))), (1, .inl a), (2, .inl b)], [], 119, pm_RF, M) (rc 0 a b M) (pm_Zr mt_Reader_joined pm_gI)) (hr1 : ∀ (a b : Int) (M : pm_M), pm_R G mt_Reader_part D (0, [(0, .inr (.inr (7, 66))), (1, .inl a), (2, .inl b)], [], 119, pm_RF, M) (rc 1 a b M) (pm_Zr mt_Reader_part pm_gI)) (hr2 : ∀ (a : Int) (M : pm_M), pm_R G mt_Reader_ask D (0, [(0, .inr (.inr (7, 66))), (1, .inl a)], [], 119, pm_RF, M) (rc 2 a 0 M) (pm_Zr mt_Reader_ask pm_gI)) (hr3 : ∀ (a : Int) (M : pm_M), pm_R G mt_Reader_one D (0, [(0, .inr (.inr (7, 66))), (1, .inl a)], [], 119, pm_RF, M) (rc 3 a 0 M) (pm_Zr mt_Reader_one pm_gI)) : pm_R G mt_Reader_joined (D + 1) (0, [(0, .inr (.inr (7, 66))), (1, .inl x1), (2, .inl x2)], [], 119, pm_RF, M) (f_Reader_joined rc x1 x2 M) (pm_Zr mt_Reader_joined pm_gI) := by
  have ho : pm_oG G mt_Reader_joined := (oa_Reader_joined).g G
  unfold f_Reader_joined
  refine R_st ho 5 (q' := (5, [(0, .inr (.inr (7, 66))), (1, .inl x1), (2, .inl x2)], [.inl x2, .inl (i_ad x1 1), .inr (.inr (7, 66))], 119, pm_RF, M)) rfl ?_
  refine R_callV ho mv_Reader_part lk_7_82 rfl (As := [.inl (i_ad x1 1), .inl x2]) (kd := 7) (a := 66) (st := []) rfl rfl (Nat.le_of_ble_eq_true rfl) rfl (by omega) (Nat.le_of_ble_eq_true rfl) (hr1 (i_ad x1 1) x2 M) (fun r237 => ?_)
  show pm_R _ _ _ (8, [(0, .inr (.inr (7, 66))), (1, .inl x1), (2, .inl x2)], [.inl r237.1], 119, pm_RF, r237.2) _ _
  refine R_st ho 3 (q' := (12, [(4, .inl 0), (3, .inl r237.1), (0, .inr (.inr (7, 66))), (1, .inl x1), (2, .inl x2)], [], 119, pm_RF, r237.2)) rfl ?_
  refine R_pk [0, 1, 2, 3, 4] rfl ?_
  refine R_bind (ok_Reader_joined_L12 G D hD rc hr0 hr1 hr2 hr3 pm_F x1 x2 r237.1 0 r237.2) ?_
  intro e251 q_ hq_
  obtain rfl : q_ = (63, [(3, .inl e251.1)], [], 119, pm_RF, e251.2) := hq_
  refine R_st ho 1 (q' := (64, [(3, .inl e251.1)], [.inl e251.1], 119, pm_RF, e251.2)) rfl ?_
  exact R_gd (fun h_ => R_end (v := some (.inl e251.1)) rfl (Or.inr ⟨rfl, h_⟩) rfl rfl)
theorem ok_Text_addClause (G : pm_G) (t0 : Nat) (x1 : Int) (x2 : Int) (x3 : Int) (M : pm_M) (ht0 : pm_isT t0) : pm_R G mt_Text_addClause 2 (0, [(0, .inr (.inr (10, t0))), (1, .inl x1), (2, .inl x2), (3, .inl x3)], [], 119, pm_RF, M) (f_Text_addClause t0 x1 x2 x3 M) (pm_Zr mt_Text_addClause pm_gV) := by
  have ho : pm_oG G mt_Text_addClause := (oa_Text_addClause).g G
  unfold f_Text_addClause
  refine R_st ho 1 (q' := (1, [(0, .inr (.inr (10, t0))), (1, .inl x1), (2, .inl x2), (3, .inl x3)], [.inr (.inr (10, t0))], 119, pm_RF, M)) rfl ?_
  refine R_callV ho mv_Text_isFull lk_10_40 rfl (As := []) (kd := 10) (a := t0) (st := []) rfl rfl (Nat.le_of_ble_eq_true rfl) rfl (by decide) (Nat.le_of_ble_eq_true rfl) (ok_Text_isFull G t0 M ht0) (fun r256 => ?_)
  show pm_R _ _ _ (4, [(0, .inr (.inr (10, t0))), (1, .inl x1), (2, .inl x2), (3, .inl x3)], [.inl r256], 119, pm_RF, M) _ _
  refine R_if ho rfl (tgt := 8) rfl ?_
  refine R_eq ?_ ?_
  · refine R_st ho 1 (q' := (9, [(0, .inr (.inr (10, t0))), (1, .inl x1), (2, .inl x2), (3, .inl x3)], [.inr (.inr (10, t0))], 119, pm_RF, M)) rfl ?_
    refine R_getT ho rfl rfl (f := 0) (by decide) ht0 (c := (t0 + 1 + 0)) rfl ?_
    refine R_st ho 3 (q' := (17, [(0, .inr (.inr (10, t0))), (1, .inl x1), (2, .inl x2), (3, .inl x3)], [.inl x1, .inl (M t0 5), .inr (.inr (20, (t0 + 1 + 0)))], 119, pm_RF, M)) rfl ?_
    refine R_iast ho (pm_lnT 0 ht0 (by decide)) rfl ?_
    refine R_nm fun M257 => ?_
    refine R_st ho 1 (q' := (19, [(0, .inr (.inr (10, t0))), (1, .inl x1), (2, .inl x2), (3, .inl x3)], [.inr (.inr (10, t0))], 119, pm_RF, M257)) rfl ?_
    refine R_getT ho rfl rfl (f := 1) (by decide) ht0 (c := (t0 + 1 + 1)) rfl ?_
    refine R_st ho 3 (q' := (27, [(0, .inr (.inr (10, t0))), (1, .inl x1), (2, .inl x2), (3, .inl x3)], [.inl x2, .inl (M257 t0 5), .inr (.inr (20, (t0 + 1 + 1)))], 119, pm_RF, M257)) rfl ?_
    refine R_iast ho (pm_lnT 1 ht0 (by decide)) rfl ?_
    refine R_nm fun M258 => ?_
    refine R_st ho 1 (q' := (29, [(0, .inr (.inr (10, t0))), (1, .inl x1), (2, .inl x2), (3, .inl x3)], [.inr (.inr (10, t0))], 119, pm_RF, M258)) rfl ?_
    refine R_getT ho rfl rfl (f := 2) (by decide) ht0 (c := (t0 + 1 + 2)) rfl ?_
    refine R_st ho 3 (q' := (37, [(0, .inr (.inr (10, t0))), (1, .inl x1), (2, .inl x2), (3, .inl x3)], [.inl x3, .inl (M258 t0 5), .inr (.inr (20, (t0 + 1 + 2)))], 119, pm_RF, M258)) rfl ?_
    refine R_iast ho (pm_lnT 2 ht0 (by decide)) rfl ?_
    refine R_nm fun M259 => ?_
    refine R_st ho 2 (q' := (40, [(0, .inr (.inr (10, t0))), (1, .inl x1), (2, .inl x2), (3, .inl x3)], [.inl 4, .inl x1], 119, pm_RF, M259)) rfl ?_
    refine R_ic ho rfl (tgt := 53) rfl ?_
    refine R_gt ?_ ?_
    · refine R_st ho 6 (q' := (63, [(0, .inr (.inr (10, t0))), (1, .inl x1), (2, .inl x2), (3, .inl x3)], [], 119, pm_RF, (pm_ms M259 t0 5 (i_ad (M259 t0 5) 1)))) rfl ?_
      refine R_nm fun M260 => ?_
      exact R_end (v := none) rfl rfl rfl rfl
    · refine R_st ho 1 (q' := (44, [(0, .inr (.inr (10, t0))), (1, .inl x1), (2, .inl x2), (3, .inl x3)], [.inr (.inr (10, t0))], 119, pm_RF, M259)) rfl ?_
      refine R_getT ho rfl rfl (f := 3) (by decide) ht0 (c := (t0 + 1 + 3)) rfl ?_
      refine R_st ho 3 (q' := (52, [(0, .inr (.inr (10, t0))), (1, .inl x1), (2, .inl x2), (3, .inl x3)], [.inl (M259 t0 5), .inl x1, .inr (.inr (20, (t0 + 1 + 3)))], 119, pm_RF, M259)) rfl ?_
      refine R_iast ho (pm_lnT 3 ht0 (by decide)) rfl ?_
      refine R_nm fun M261 => ?_
      refine R_st ho 6 (q' := (63, [(0, .inr (.inr (10, t0))), (1, .inl x1), (2, .inl x2), (3, .inl x3)], [], 119, pm_RF, (pm_ms M261 t0 5 (i_ad (M261 t0 5) 1)))) rfl ?_
      refine R_nm fun M262 => ?_
      exact R_end (v := none) rfl rfl rfl rfl
  · exact R_end (v := none) rfl rfl rfl rfl
theorem ok_Reader_fail (G : pm_G) (x1 : Int) (M : pm_M)  : pm_R G mt_Reader_fail 1 (0, [(0, .inr (.inr (7, 66))), (1, .inl x1)], [], 119, pm_RF, M) (f_Reader_fail x1 M) (pm_Zr mt_Reader_fail pm_gI) := by
  have ho : pm_oG G mt_Reader_fail := (oa_Reader_fail).g G
  unfold f_Reader_fail
  refine R_st ho 3 (q' := (5, [(0, .inr (.inr (7, 66))), (1, .inl x1)], [], 119, pm_RF, (pm_ms M 66 7 x1))) rfl ?_
  refine R_nm fun M265 => ?_
  refine R_st ho 4 (q' := (13, [(0, .inr (.inr (7, 66))), (1, .inl x1)], [], 119, pm_RF, (pm_ms M265 66 8 (M265 66 5)))) rfl ?_
  refine R_nm fun M266 => ?_
  refine R_st ho 1 (q' := (14, [(0, .inr (.inr (7, 66))), (1, .inl x1)], [.inl 0], 119, pm_RF, M266)) rfl ?_
  exact R_end (v := some (.inl 0)) rfl (Or.inr ⟨rfl, Or.inl rfl⟩) rfl rfl
theorem ok_Reader_expect (G : pm_G) (x1 : Int) (M : pm_M)  : pm_R G mt_Reader_expect 9 (0, [(0, .inr (.inr (7, 66))), (1, .inl x1)], [], 119, pm_RF, M) (f_Reader_expect x1 M) (pm_Zr mt_Reader_expect pm_gI) := by
  have ho : pm_oG G mt_Reader_expect := (oa_Reader_expect).g G
  unfold f_Reader_expect
  refine R_st ho 3 (q' := (5, [(0, .inr (.inr (7, 66))), (1, .inl x1)], [.inl x1, .inl (M 66 3)], 119, pm_RF, M)) rfl ?_
  refine R_ic ho rfl (tgt := 14) rfl ?_
  refine R_eq ?_ ?_
  · refine R_st ho 1 (q' := (15, [(0, .inr (.inr (7, 66))), (1, .inl x1)], [.inr (.inr (7, 66))], 119, pm_RF, M)) rfl ?_
    refine R_callV ho mv_Reader_advance lk_7_34 rfl (As := []) (kd := 7) (a := 66) (st := []) rfl rfl (Nat.le_of_ble_eq_true rfl) rfl (by decide) (Nat.le_of_ble_eq_true rfl) (ok_Reader_advance G  M ) (fun M264 => ?_)
    show pm_R _ _ _ (18, [(0, .inr (.inr (7, 66))), (1, .inl x1)], [], 119, pm_RF, M264) _ _
    refine R_st ho 1 (q' := (19, [(0, .inr (.inr (7, 66))), (1, .inl x1)], [.inl 1], 119, pm_RF, M264)) rfl ?_
    exact R_end (v := some (.inl 1)) rfl (Or.inr ⟨rfl, Or.inr rfl⟩) rfl rfl
  · refine R_st ho 2 (q' := (10, [(0, .inr (.inr (7, 66))), (1, .inl x1)], [.inl 1, .inr (.inr (7, 66))], 119, pm_RF, M)) rfl ?_
    refine R_callV ho mv_Reader_fail lk_7_44 rfl (As := [.inl 1]) (kd := 7) (a := 66) (st := []) rfl rfl (Nat.le_of_ble_eq_true rfl) rfl (by decide) (Nat.le_of_ble_eq_true rfl) (ok_Reader_fail G 1 M ) (fun r267 => ?_)
    show pm_R _ _ _ (13, [(0, .inr (.inr (7, 66))), (1, .inl x1)], [.inl r267.1], 119, pm_RF, r267.2) _ _
    exact R_gd (fun h_ => R_end (v := some (.inl r267.1)) rfl (Or.inr ⟨rfl, h_⟩) rfl rfl)
theorem ok_Reader_numberUpTo (G : pm_G) (x1 : Int) (M : pm_M)  : pm_R G mt_Reader_numberUpTo 9 (0, [(0, .inr (.inr (7, 66))), (1, .inl x1)], [], 119, pm_RF, M) (f_Reader_numberUpTo x1 M) (pm_Zr mt_Reader_numberUpTo pm_gI) := by
  have ho : pm_oG G mt_Reader_numberUpTo := (oa_Reader_numberUpTo).g G
  unfold f_Reader_numberUpTo
  refine R_st ho 3 (q' := (6, [(0, .inr (.inr (7, 66))), (1, .inl x1)], [.inl 37, .inl (M 66 3)], 119, pm_RF, M)) rfl ?_
  refine R_ic ho rfl (tgt := 15) rfl ?_
  refine R_eq ?_ ?_
  · refine R_st ho 3 (q' := (20, [(0, .inr (.inr (7, 66))), (1, .inl x1)], [.inl x1, .inl (M 66 4)], 119, pm_RF, M)) rfl ?_
    refine R_ic ho rfl (tgt := 29) rfl ?_
    refine R_le ?_ ?_
    · refine R_st ho 1 (q' := (30, [(0, .inr (.inr (7, 66))), (1, .inl x1)], [.inr (.inr (7, 66))], 119, pm_RF, M)) rfl ?_
      refine R_callV ho mv_Reader_advance lk_7_34 rfl (As := []) (kd := 7) (a := 66) (st := []) rfl rfl (Nat.le_of_ble_eq_true rfl) rfl (by decide) (Nat.le_of_ble_eq_true rfl) (ok_Reader_advance G  M ) (fun M275 => ?_)
      show pm_R _ _ _ (33, [(0, .inr (.inr (7, 66))), (1, .inl x1)], [], 119, pm_RF, M275) _ _
      refine R_st ho 1 (q' := (34, [(0, .inr (.inr (7, 66))), (1, .inl x1)], [.inl 1], 119, pm_RF, M275)) rfl ?_
      exact R_end (v := some (.inl 1)) rfl (Or.inr ⟨rfl, Or.inr rfl⟩) rfl rfl
    · refine R_st ho 2 (q' := (25, [(0, .inr (.inr (7, 66))), (1, .inl x1)], [.inl 2, .inr (.inr (7, 66))], 119, pm_RF, M)) rfl ?_
      refine R_callV ho mv_Reader_fail lk_7_44 rfl (As := [.inl 2]) (kd := 7) (a := 66) (st := []) rfl rfl (Nat.le_of_ble_eq_true rfl) rfl (by decide) (Nat.le_of_ble_eq_true rfl) (ok_Reader_fail G 2 M ) (fun r276 => ?_)
      show pm_R _ _ _ (28, [(0, .inr (.inr (7, 66))), (1, .inl x1)], [.inl r276.1], 119, pm_RF, r276.2) _ _
      exact R_gd (fun h_ => R_end (v := some (.inl r276.1)) rfl (Or.inr ⟨rfl, h_⟩) rfl rfl)
  · refine R_st ho 2 (q' := (11, [(0, .inr (.inr (7, 66))), (1, .inl x1)], [.inl 1, .inr (.inr (7, 66))], 119, pm_RF, M)) rfl ?_
    refine R_callV ho mv_Reader_fail lk_7_44 rfl (As := [.inl 1]) (kd := 7) (a := 66) (st := []) rfl rfl (Nat.le_of_ble_eq_true rfl) rfl (by decide) (Nat.le_of_ble_eq_true rfl) (ok_Reader_fail G 1 M ) (fun r277 => ?_)
    show pm_R _ _ _ (14, [(0, .inr (.inr (7, 66))), (1, .inl x1)], [.inl r277.1], 119, pm_RF, r277.2) _ _
    exact R_gd (fun h_ => R_end (v := some (.inl r277.1)) rfl (Or.inr ⟨rfl, h_⟩) rfl rfl)
theorem ok_Reader_deed_J53 (G : pm_G)     (y1 : Int) (y3 : Int) (M : pm_M) : pm_R G mt_Reader_deed 10 (53, [(0, .inr (.inr (7, 66))), (1, .inl y1), (3, .inl y3)], [], 119, pm_RF, M) (f_Reader_deed_J53 y1 y3 M) (pm_Zr mt_Reader_deed pm_gI) := by
  have ho : pm_oG G mt_Reader_deed := (oa_Reader_deed).g G
  unfold f_Reader_deed_J53
  refine R_st ho 3 (q' := (56, [(0, .inr (.inr (7, 66))), (1, .inl y1), (3, .inl y3)], [.inl 5, .inl y1, .inr (.inr (7, 66))], 119, pm_RF, M)) rfl ?_
  refine R_ic ho rfl (tgt := 64) rfl ?_
  refine R_ne ?_ ?_
  · refine R_st ho 2 (q' := (66, [(0, .inr (.inr (7, 66))), (1, .inl y1), (3, .inl y3)], [.inl 9, .inr (.inr (7, 66))], 119, pm_RF, M)) rfl ?_
    refine R_callV ho mv_Reader_expect lk_7_73 rfl (As := [.inl 9]) (kd := 7) (a := 66) (st := []) rfl rfl (Nat.le_of_ble_eq_true rfl) rfl (by decide) (Nat.le_of_ble_eq_true rfl) (ok_Reader_expect G 9 M ) (fun r279 => ?_)
    show pm_R _ _ _ (69, [(0, .inr (.inr (7, 66))), (1, .inl y1), (3, .inl y3)], [.inl r279.1], 119, pm_RF, r279.2) _ _
    refine R_if ho rfl (tgt := 74) rfl ?_
    refine R_ne ?_ ?_
    · refine R_st ho 1 (q' := (73, [(0, .inr (.inr (7, 66))), (1, .inl y1), (3, .inl y3)], [.inl 0], 119, pm_RF, r279.2)) rfl ?_
      exact R_end (v := some (.inl 0)) rfl (Or.inr ⟨rfl, Or.inl rfl⟩) rfl rfl
    · refine R_st ho 5 (q' := (83, [(4, .inl (r279.2 66 4)), (0, .inr (.inr (7, 66))), (1, .inl y1), (3, .inl y3)], [.inl 7, .inr (.inr (7, 66))], 119, pm_RF, r279.2)) rfl ?_
      refine R_callV ho mv_Reader_numberUpTo lk_7_79 rfl (As := [.inl 7]) (kd := 7) (a := 66) (st := []) rfl rfl (Nat.le_of_ble_eq_true rfl) rfl (by decide) (Nat.le_of_ble_eq_true rfl) (ok_Reader_numberUpTo G 7 r279.2 ) (fun r280 => ?_)
      show pm_R _ _ _ (86, [(4, .inl (r279.2 66 4)), (0, .inr (.inr (7, 66))), (1, .inl y1), (3, .inl y3)], [.inl r280.1], 119, pm_RF, r280.2) _ _
      refine R_if ho rfl (tgt := 91) rfl ?_
      refine R_ne ?_ ?_
      · refine R_st ho 1 (q' := (90, [(4, .inl (r279.2 66 4)), (0, .inr (.inr (7, 66))), (1, .inl y1), (3, .inl y3)], [.inl 0], 119, pm_RF, r280.2)) rfl ?_
        exact R_end (v := some (.inl 0)) rfl (Or.inr ⟨rfl, Or.inl rfl⟩) rfl rfl
      · refine R_st ho 1 (q' := (92, [(4, .inl (r279.2 66 4)), (0, .inr (.inr (7, 66))), (1, .inl y1), (3, .inl y3)], [.inr (.inr (7, 66))], 119, pm_RF, r280.2)) rfl ?_
        refine R_getI ho rfl rfl (fun h281 => ?_)
        refine R_st ho 3 (q' := (99, [(4, .inl (r279.2 66 4)), (0, .inr (.inr (7, 66))), (1, .inl y1), (3, .inl y3)], [.inl (r279.2 66 4), .inl y3, .inl y1, .inr (.inr (10, (r280.2 66 1 - 1).toNat))], 119, pm_RF, r280.2)) rfl ?_
        refine R_callV ho mv_Text_addClause lk_7_69 rfl (As := [.inl y1, .inl y3, .inl (r279.2 66 4)]) (kd := 10) (a := (r280.2 66 1 - 1).toNat) (st := []) rfl rfl (Nat.le_of_ble_eq_true rfl) rfl (by decide) (Nat.le_of_ble_eq_true rfl) (ok_Text_addClause G (r280.2 66 1 - 1).toNat y1 y3 (r279.2 66 4) r280.2 h281) (fun M282 => ?_)
        show pm_R _ _ _ (102, [(4, .inl (r279.2 66 4)), (0, .inr (.inr (7, 66))), (1, .inl y1), (3, .inl y3)], [], 119, pm_RF, M282) _ _
        refine R_st ho 2 (q' := (105, [(4, .inl (r279.2 66 4)), (0, .inr (.inr (7, 66))), (1, .inl y1), (3, .inl y3)], [.inl 34, .inr (.inr (7, 66))], 119, pm_RF, M282)) rfl ?_
        refine R_callV ho mv_Reader_expect lk_7_73 rfl (As := [.inl 34]) (kd := 7) (a := 66) (st := []) rfl rfl (Nat.le_of_ble_eq_true rfl) rfl (by decide) (Nat.le_of_ble_eq_true rfl) (ok_Reader_expect G 34 M282 ) (fun r283 => ?_)
        show pm_R _ _ _ (108, [(4, .inl (r279.2 66 4)), (0, .inr (.inr (7, 66))), (1, .inl y1), (3, .inl y3)], [.inl r283.1], 119, pm_RF, r283.2) _ _
        exact R_gd (fun h_ => R_end (v := some (.inl r283.1)) rfl (Or.inr ⟨rfl, h_⟩) rfl rfl)
  · refine R_st ho 1 (q' := (66, [(0, .inr (.inr (7, 66))), (1, .inl y1), (3, .inl y3)], [.inl 10, .inr (.inr (7, 66))], 119, pm_RF, M)) rfl ?_
    refine R_callV ho mv_Reader_expect lk_7_73 rfl (As := [.inl 10]) (kd := 7) (a := 66) (st := []) rfl rfl (Nat.le_of_ble_eq_true rfl) rfl (by decide) (Nat.le_of_ble_eq_true rfl) (ok_Reader_expect G 10 M ) (fun r284 => ?_)
    show pm_R _ _ _ (69, [(0, .inr (.inr (7, 66))), (1, .inl y1), (3, .inl y3)], [.inl r284.1], 119, pm_RF, r284.2) _ _
    refine R_if ho rfl (tgt := 74) rfl ?_
    refine R_ne ?_ ?_
    · refine R_st ho 1 (q' := (73, [(0, .inr (.inr (7, 66))), (1, .inl y1), (3, .inl y3)], [.inl 0], 119, pm_RF, r284.2)) rfl ?_
      exact R_end (v := some (.inl 0)) rfl (Or.inr ⟨rfl, Or.inl rfl⟩) rfl rfl
    · refine R_st ho 5 (q' := (83, [(4, .inl (r284.2 66 4)), (0, .inr (.inr (7, 66))), (1, .inl y1), (3, .inl y3)], [.inl 7, .inr (.inr (7, 66))], 119, pm_RF, r284.2)) rfl ?_
      refine R_callV ho mv_Reader_numberUpTo lk_7_79 rfl (As := [.inl 7]) (kd := 7) (a := 66) (st := []) rfl rfl (Nat.le_of_ble_eq_true rfl) rfl (by decide) (Nat.le_of_ble_eq_true rfl) (ok_Reader_numberUpTo G 7 r284.2 ) (fun r285 => ?_)
      show pm_R _ _ _ (86, [(4, .inl (r284.2 66 4)), (0, .inr (.inr (7, 66))), (1, .inl y1), (3, .inl y3)], [.inl r285.1], 119, pm_RF, r285.2) _ _
      refine R_if ho rfl (tgt := 91) rfl ?_
      refine R_ne ?_ ?_
      · refine R_st ho 1 (q' := (90, [(4, .inl (r284.2 66 4)), (0, .inr (.inr (7, 66))), (1, .inl y1), (3, .inl y3)], [.inl 0], 119, pm_RF, r285.2)) rfl ?_
        exact R_end (v := some (.inl 0)) rfl (Or.inr ⟨rfl, Or.inl rfl⟩) rfl rfl
      · refine R_st ho 1 (q' := (92, [(4, .inl (r284.2 66 4)), (0, .inr (.inr (7, 66))), (1, .inl y1), (3, .inl y3)], [.inr (.inr (7, 66))], 119, pm_RF, r285.2)) rfl ?_
        refine R_getI ho rfl rfl (fun h286 => ?_)
        refine R_st ho 3 (q' := (99, [(4, .inl (r284.2 66 4)), (0, .inr (.inr (7, 66))), (1, .inl y1), (3, .inl y3)], [.inl (r284.2 66 4), .inl y3, .inl y1, .inr (.inr (10, (r285.2 66 1 - 1).toNat))], 119, pm_RF, r285.2)) rfl ?_
        refine R_callV ho mv_Text_addClause lk_7_69 rfl (As := [.inl y1, .inl y3, .inl (r284.2 66 4)]) (kd := 10) (a := (r285.2 66 1 - 1).toNat) (st := []) rfl rfl (Nat.le_of_ble_eq_true rfl) rfl (by decide) (Nat.le_of_ble_eq_true rfl) (ok_Text_addClause G (r285.2 66 1 - 1).toNat y1 y3 (r284.2 66 4) r285.2 h286) (fun M287 => ?_)
        show pm_R _ _ _ (102, [(4, .inl (r284.2 66 4)), (0, .inr (.inr (7, 66))), (1, .inl y1), (3, .inl y3)], [], 119, pm_RF, M287) _ _
        refine R_st ho 2 (q' := (105, [(4, .inl (r284.2 66 4)), (0, .inr (.inr (7, 66))), (1, .inl y1), (3, .inl y3)], [.inl 34, .inr (.inr (7, 66))], 119, pm_RF, M287)) rfl ?_
        refine R_callV ho mv_Reader_expect lk_7_73 rfl (As := [.inl 34]) (kd := 7) (a := 66) (st := []) rfl rfl (Nat.le_of_ble_eq_true rfl) rfl (by decide) (Nat.le_of_ble_eq_true rfl) (ok_Reader_expect G 34 M287 ) (fun r288 => ?_)
        show pm_R _ _ _ (108, [(4, .inl (r284.2 66 4)), (0, .inr (.inr (7, 66))), (1, .inl y1), (3, .inl y3)], [.inl r288.1], 119, pm_RF, r288.2) _ _
        exact R_gd (fun h_ => R_end (v := some (.inl r288.1)) rfl (Or.inr ⟨rfl, h_⟩) rfl rfl)
theorem ok_Reader_deed (G : pm_G) (x1 : Int) (M : pm_M)  : pm_R G mt_Reader_deed 10 (0, [(0, .inr (.inr (7, 66))), (1, .inl x1)], [], 119, pm_RF, M) (f_Reader_deed x1 M) (pm_Zr mt_Reader_deed pm_gI) := by
  have ho : pm_oG G mt_Reader_deed := (oa_Reader_deed).g G
  unfold f_Reader_deed
  refine R_st ho 2 (q' := (3, [(0, .inr (.inr (7, 66))), (1, .inl x1)], [.inl 8, .inl x1], 119, pm_RF, M)) rfl ?_
  refine R_ic ho rfl (tgt := 11) rfl ?_
  refine R_ne ?_ ?_
  · refine R_st ho 8 (q' := (31, [(3, .inl (M 66 4)), (2, .inl 99), (0, .inr (.inr (7, 66))), (1, .inl x1)], [.inl 99, .inr (.inr (7, 66))], 119, pm_RF, M)) rfl ?_
    refine R_callV ho mv_Reader_numberUpTo lk_7_79 rfl (As := [.inl 99]) (kd := 7) (a := 66) (st := []) rfl rfl (Nat.le_of_ble_eq_true rfl) rfl (by decide) (Nat.le_of_ble_eq_true rfl) (ok_Reader_numberUpTo G 99 M ) (fun r278 => ?_)
    show pm_R _ _ _ (34, [(3, .inl (M 66 4)), (2, .inl 99), (0, .inr (.inr (7, 66))), (1, .inl x1)], [.inl r278.1], 119, pm_RF, r278.2) _ _
    refine R_if ho rfl (tgt := 39) rfl ?_
    refine R_ne ?_ ?_
    · refine R_st ho 1 (q' := (38, [(3, .inl (M 66 4)), (2, .inl 99), (0, .inr (.inr (7, 66))), (1, .inl x1)], [.inl 0], 119, pm_RF, r278.2)) rfl ?_
      exact R_end (v := some (.inl 0)) rfl (Or.inr ⟨rfl, Or.inl rfl⟩) rfl rfl
    · refine R_st ho 4 (q' := (44, [(4, .inl (-1)), (3, .inl (M 66 4)), (2, .inl 99), (0, .inr (.inr (7, 66))), (1, .inl x1)], [.inl 5, .inl x1], 119, pm_RF, r278.2)) rfl ?_
      refine R_ic ho rfl (tgt := 53) rfl ?_
      refine R_eq ?_ ?_
      · refine R_pk [0, 1, 3] rfl ?_
        exact ok_Reader_deed_J53 G x1 (M 66 4) r278.2
      · refine R_st ho 2 (q' := (50, [(4, .inl (-1)), (3, .inl (M 66 4)), (2, .inl 99), (0, .inr (.inr (7, 66))), (1, .inl x1)], [.inl 7, .inl x1], 119, pm_RF, r278.2)) rfl ?_
        refine R_ic ho rfl (tgt := 91) rfl ?_
        refine R_ne ?_ ?_
        · refine R_pk [0, 1, 3] rfl ?_
          exact ok_Reader_deed_J53 G x1 (M 66 4) r278.2
        · refine R_st ho 1 (q' := (92, [(4, .inl (-1)), (3, .inl (M 66 4)), (2, .inl 99), (0, .inr (.inr (7, 66))), (1, .inl x1)], [.inr (.inr (7, 66))], 119, pm_RF, r278.2)) rfl ?_
          refine R_getI ho rfl rfl (fun h289 => ?_)
          refine R_st ho 3 (q' := (99, [(4, .inl (-1)), (3, .inl (M 66 4)), (2, .inl 99), (0, .inr (.inr (7, 66))), (1, .inl x1)], [.inl (-1), .inl (M 66 4), .inl x1, .inr (.inr (10, (r278.2 66 1 - 1).toNat))], 119, pm_RF, r278.2)) rfl ?_
          refine R_callV ho mv_Text_addClause lk_7_69 rfl (As := [.inl x1, .inl (M 66 4), .inl (-1)]) (kd := 10) (a := (r278.2 66 1 - 1).toNat) (st := []) rfl rfl (Nat.le_of_ble_eq_true rfl) rfl (by decide) (Nat.le_of_ble_eq_true rfl) (ok_Text_addClause G (r278.2 66 1 - 1).toNat x1 (M 66 4) (-1) r278.2 h289) (fun M290 => ?_)
          show pm_R _ _ _ (102, [(4, .inl (-1)), (3, .inl (M 66 4)), (2, .inl 99), (0, .inr (.inr (7, 66))), (1, .inl x1)], [], 119, pm_RF, M290) _ _
          refine R_st ho 2 (q' := (105, [(4, .inl (-1)), (3, .inl (M 66 4)), (2, .inl 99), (0, .inr (.inr (7, 66))), (1, .inl x1)], [.inl 34, .inr (.inr (7, 66))], 119, pm_RF, M290)) rfl ?_
          refine R_callV ho mv_Reader_expect lk_7_73 rfl (As := [.inl 34]) (kd := 7) (a := 66) (st := []) rfl rfl (Nat.le_of_ble_eq_true rfl) rfl (by decide) (Nat.le_of_ble_eq_true rfl) (ok_Reader_expect G 34 M290 ) (fun r291 => ?_)
          show pm_R _ _ _ (108, [(4, .inl (-1)), (3, .inl (M 66 4)), (2, .inl 99), (0, .inr (.inr (7, 66))), (1, .inl x1)], [.inl r291.1], 119, pm_RF, r291.2) _ _
          exact R_gd (fun h_ => R_end (v := some (.inl r291.1)) rfl (Or.inr ⟨rfl, h_⟩) rfl rfl)
  · refine R_st ho 2 (q' := (13, [(0, .inr (.inr (7, 66))), (1, .inl x1)], [.inl 5, .inl x1], 119, pm_RF, M)) rfl ?_
    refine R_ic ho rfl (tgt := 21) rfl ?_
    refine R_ne ?_ ?_
    · refine R_st ho 8 (q' := (31, [(3, .inl (M 66 4)), (2, .inl 11), (0, .inr (.inr (7, 66))), (1, .inl x1)], [.inl 11, .inr (.inr (7, 66))], 119, pm_RF, M)) rfl ?_
      refine R_callV ho mv_Reader_numberUpTo lk_7_79 rfl (As := [.inl 11]) (kd := 7) (a := 66) (st := []) rfl rfl (Nat.le_of_ble_eq_true rfl) rfl (by decide) (Nat.le_of_ble_eq_true rfl) (ok_Reader_numberUpTo G 11 M ) (fun r292 => ?_)
      show pm_R _ _ _ (34, [(3, .inl (M 66 4)), (2, .inl 11), (0, .inr (.inr (7, 66))), (1, .inl x1)], [.inl r292.1], 119, pm_RF, r292.2) _ _
      refine R_if ho rfl (tgt := 39) rfl ?_
      refine R_ne ?_ ?_
      · refine R_st ho 1 (q' := (38, [(3, .inl (M 66 4)), (2, .inl 11), (0, .inr (.inr (7, 66))), (1, .inl x1)], [.inl 0], 119, pm_RF, r292.2)) rfl ?_
        exact R_end (v := some (.inl 0)) rfl (Or.inr ⟨rfl, Or.inl rfl⟩) rfl rfl
      · refine R_st ho 4 (q' := (44, [(4, .inl (-1)), (3, .inl (M 66 4)), (2, .inl 11), (0, .inr (.inr (7, 66))), (1, .inl x1)], [.inl 5, .inl x1], 119, pm_RF, r292.2)) rfl ?_
        refine R_ic ho rfl (tgt := 53) rfl ?_
        refine R_eq ?_ ?_
        · refine R_pk [0, 1, 3] rfl ?_
          exact ok_Reader_deed_J53 G x1 (M 66 4) r292.2
        · refine R_st ho 2 (q' := (50, [(4, .inl (-1)), (3, .inl (M 66 4)), (2, .inl 11), (0, .inr (.inr (7, 66))), (1, .inl x1)], [.inl 7, .inl x1], 119, pm_RF, r292.2)) rfl ?_
          refine R_ic ho rfl (tgt := 91) rfl ?_
          refine R_ne ?_ ?_
          · refine R_pk [0, 1, 3] rfl ?_
            exact ok_Reader_deed_J53 G x1 (M 66 4) r292.2
          · refine R_st ho 1 (q' := (92, [(4, .inl (-1)), (3, .inl (M 66 4)), (2, .inl 11), (0, .inr (.inr (7, 66))), (1, .inl x1)], [.inr (.inr (7, 66))], 119, pm_RF, r292.2)) rfl ?_
            refine R_getI ho rfl rfl (fun h293 => ?_)
            refine R_st ho 3 (q' := (99, [(4, .inl (-1)), (3, .inl (M 66 4)), (2, .inl 11), (0, .inr (.inr (7, 66))), (1, .inl x1)], [.inl (-1), .inl (M 66 4), .inl x1, .inr (.inr (10, (r292.2 66 1 - 1).toNat))], 119, pm_RF, r292.2)) rfl ?_
            refine R_callV ho mv_Text_addClause lk_7_69 rfl (As := [.inl x1, .inl (M 66 4), .inl (-1)]) (kd := 10) (a := (r292.2 66 1 - 1).toNat) (st := []) rfl rfl (Nat.le_of_ble_eq_true rfl) rfl (by decide) (Nat.le_of_ble_eq_true rfl) (ok_Text_addClause G (r292.2 66 1 - 1).toNat x1 (M 66 4) (-1) r292.2 h293) (fun M294 => ?_)
            show pm_R _ _ _ (102, [(4, .inl (-1)), (3, .inl (M 66 4)), (2, .inl 11), (0, .inr (.inr (7, 66))), (1, .inl x1)], [], 119, pm_RF, M294) _ _
            refine R_st ho 2 (q' := (105, [(4, .inl (-1)), (3, .inl (M 66 4)), (2, .inl 11), (0, .inr (.inr (7, 66))), (1, .inl x1)], [.inl 34, .inr (.inr (7, 66))], 119, pm_RF, M294)) rfl ?_
            refine R_callV ho mv_Reader_expect lk_7_73 rfl (As := [.inl 34]) (kd := 7) (a := 66) (st := []) rfl rfl (Nat.le_of_ble_eq_true rfl) rfl (by decide) (Nat.le_of_ble_eq_true rfl) (ok_Reader_expect G 34 M294 ) (fun r295 => ?_)
            show pm_R _ _ _ (108, [(4, .inl (-1)), (3, .inl (M 66 4)), (2, .inl 11), (0, .inr (.inr (7, 66))), (1, .inl x1)], [.inl r295.1], 119, pm_RF, r295.2) _ _
            exact R_gd (fun h_ => R_end (v := some (.inl r295.1)) rfl (Or.inr ⟨rfl, h_⟩) rfl rfl)
    · refine R_st ho 7 (q' := (31, [(3, .inl (M 66 4)), (2, .inl 7), (0, .inr (.inr (7, 66))), (1, .inl x1)], [.inl 7, .inr (.inr (7, 66))], 119, pm_RF, M)) rfl ?_
      refine R_callV ho mv_Reader_numberUpTo lk_7_79 rfl (As := [.inl 7]) (kd := 7) (a := 66) (st := []) rfl rfl (Nat.le_of_ble_eq_true rfl) rfl (by decide) (Nat.le_of_ble_eq_true rfl) (ok_Reader_numberUpTo G 7 M ) (fun r296 => ?_)
      show pm_R _ _ _ (34, [(3, .inl (M 66 4)), (2, .inl 7), (0, .inr (.inr (7, 66))), (1, .inl x1)], [.inl r296.1], 119, pm_RF, r296.2) _ _
      refine R_if ho rfl (tgt := 39) rfl ?_
      refine R_ne ?_ ?_
      · refine R_st ho 1 (q' := (38, [(3, .inl (M 66 4)), (2, .inl 7), (0, .inr (.inr (7, 66))), (1, .inl x1)], [.inl 0], 119, pm_RF, r296.2)) rfl ?_
        exact R_end (v := some (.inl 0)) rfl (Or.inr ⟨rfl, Or.inl rfl⟩) rfl rfl
      · refine R_st ho 4 (q' := (44, [(4, .inl (-1)), (3, .inl (M 66 4)), (2, .inl 7), (0, .inr (.inr (7, 66))), (1, .inl x1)], [.inl 5, .inl x1], 119, pm_RF, r296.2)) rfl ?_
        refine R_ic ho rfl (tgt := 53) rfl ?_
        refine R_eq ?_ ?_
        · refine R_pk [0, 1, 3] rfl ?_
          exact ok_Reader_deed_J53 G x1 (M 66 4) r296.2
        · refine R_st ho 2 (q' := (50, [(4, .inl (-1)), (3, .inl (M 66 4)), (2, .inl 7), (0, .inr (.inr (7, 66))), (1, .inl x1)], [.inl 7, .inl x1], 119, pm_RF, r296.2)) rfl ?_
          refine R_ic ho rfl (tgt := 91) rfl ?_
          refine R_ne ?_ ?_
          · refine R_pk [0, 1, 3] rfl ?_
            exact ok_Reader_deed_J53 G x1 (M 66 4) r296.2
          · refine R_st ho 1 (q' := (92, [(4, .inl (-1)), (3, .inl (M 66 4)), (2, .inl 7), (0, .inr (.inr (7, 66))), (1, .inl x1)], [.inr (.inr (7, 66))], 119, pm_RF, r296.2)) rfl ?_
            refine R_getI ho rfl rfl (fun h297 => ?_)
            refine R_st ho 3 (q' := (99, [(4, .inl (-1)), (3, .inl (M 66 4)), (2, .inl 7), (0, .inr (.inr (7, 66))), (1, .inl x1)], [.inl (-1), .inl (M 66 4), .inl x1, .inr (.inr (10, (r296.2 66 1 - 1).toNat))], 119, pm_RF, r296.2)) rfl ?_
            refine R_callV ho mv_Text_addClause lk_7_69 rfl (As := [.inl x1, .inl (M 66 4), .inl (-1)]) (kd := 10) (a := (r296.2 66 1 - 1).toNat) (st := []) rfl rfl (Nat.le_of_ble_eq_true rfl) rfl (by decide) (Nat.le_of_ble_eq_true rfl) (ok_Text_addClause G (r296.2 66 1 - 1).toNat x1 (M 66 4) (-1) r296.2 h297) (fun M298 => ?_)
            show pm_R _ _ _ (102, [(4, .inl (-1)), (3, .inl (M 66 4)), (2, .inl 7), (0, .inr (.inr (7, 66))), (1, .inl x1)], [], 119, pm_RF, M298) _ _
            refine R_st ho 2 (q' := (105, [(4, .inl (-1)), (3, .inl (M 66 4)), (2, .inl 7), (0, .inr (.inr (7, 66))), (1, .inl x1)], [.inl 34, .inr (.inr (7, 66))], 119, pm_RF, M298)) rfl ?_
            refine R_callV ho mv_Reader_expect lk_7_73 rfl (As := [.inl 34]) (kd := 7) (a := 66) (st := []) rfl rfl (Nat.le_of_ble_eq_true rfl) rfl (by decide) (Nat.le_of_ble_eq_true rfl) (ok_Reader_expect G 34 M298 ) (fun r299 => ?_)
            show pm_R _ _ _ (108, [(4, .inl (-1)), (3, .inl (M 66 4)), (2, .inl 7), (0, .inr (.inr (7, 66))), (1, .inl x1)], [.inl r299.1], 119, pm_RF, r299.2) _ _
            exact R_gd (fun h_ => R_end (v := some (.inl r299.1)) rfl (Or.inr ⟨rfl, h_⟩) rfl rfl)
theorem ok_Reader_compares (G : pm_G) (x0 : Int) (M : pm_M)  : pm_R G mt_Reader_compares 1 (0, [(0, .inl x0)], [], 119, pm_RF, M) (f_Reader_compares x0 M) (pm_Zr mt_Reader_compares (pm_gi M)) := by
  have ho : pm_oG G mt_Reader_compares := (oa_Reader_compares).g G
  unfold f_Reader_compares
  refine R_st ho 2 (q' := (3, [(0, .inl x0)], [.inl 24, .inl x0], 119, pm_RF, M)) rfl ?_
  refine R_ic ho rfl (tgt := 12) rfl ?_
  refine R_lt ?_ ?_
  · refine R_st ho 2 (q' := (15, [(0, .inl x0)], [.inl 35, .inl x0], 119, pm_RF, M)) rfl ?_
    refine R_ic ho rfl (tgt := 24) rfl ?_
    refine R_eq ?_ ?_
    · refine R_st ho 2 (q' := (29, [(0, .inl x0)], [.inl 1], 119, pm_RF, M)) rfl ?_
      exact R_end (v := some (.inl 1)) rfl (Or.inr ⟨rfl, Or.inr rfl⟩) rfl rfl
    · refine R_st ho 2 (q' := (21, [(0, .inl x0)], [.inl 36, .inl x0], 119, pm_RF, M)) rfl ?_
      refine R_ic ho rfl (tgt := 28) rfl ?_
      refine R_ne ?_ ?_
      · refine R_st ho 2 (q' := (29, [(0, .inl x0)], [.inl 1], 119, pm_RF, M)) rfl ?_
        exact R_end (v := some (.inl 1)) rfl (Or.inr ⟨rfl, Or.inr rfl⟩) rfl rfl
      · refine R_st ho 1 (q' := (29, [(0, .inl x0)], [.inl 0], 119, pm_RF, M)) rfl ?_
        exact R_end (v := some (.inl 0)) rfl (Or.inr ⟨rfl, Or.inl rfl⟩) rfl rfl
  · refine R_st ho 2 (q' := (9, [(0, .inl x0)], [.inl 27, .inl x0], 119, pm_RF, M)) rfl ?_
    refine R_ic ho rfl (tgt := 24) rfl ?_
    refine R_le ?_ ?_
    · refine R_st ho 2 (q' := (29, [(0, .inl x0)], [.inl 1], 119, pm_RF, M)) rfl ?_
      exact R_end (v := some (.inl 1)) rfl (Or.inr ⟨rfl, Or.inr rfl⟩) rfl rfl
    · refine R_st ho 2 (q' := (15, [(0, .inl x0)], [.inl 35, .inl x0], 119, pm_RF, M)) rfl ?_
      refine R_ic ho rfl (tgt := 24) rfl ?_
      refine R_eq ?_ ?_
      · refine R_st ho 2 (q' := (29, [(0, .inl x0)], [.inl 1], 119, pm_RF, M)) rfl ?_
        exact R_end (v := some (.inl 1)) rfl (Or.inr ⟨rfl, Or.inr rfl⟩) rfl rfl
      · refine R_st ho 2 (q' := (21, [(0, .inl x0)], [.inl 36, .inl x0], 119, pm_RF, M)) rfl ?_
        refine R_ic ho rfl (tgt := 28) rfl ?_
        refine R_ne ?_ ?_
        · refine R_st ho 2 (q' := (29, [(0, .inl x0)], [.inl 1], 119, pm_RF, M)) rfl ?_
          exact R_end (v := some (.inl 1)) rfl (Or.inr ⟨rfl, Or.inr rfl⟩) rfl rfl
        · refine R_st ho 1 (q' := (29, [(0, .inl x0)], [.inl 0], 119, pm_RF, M)) rfl ?_
          exact R_end (v := some (.inl 0)) rfl (Or.inr ⟨rfl, Or.inl rfl⟩) rfl rfl
theorem ok_Reader_named (G : pm_G)  (M : pm_M)  : pm_R G mt_Reader_named 9 (0, [(0, .inr (.inr (7, 66)))], [], 119, pm_RF, M) (f_Reader_named M) (pm_Zr mt_Reader_named pm_gI) := by
  have ho : pm_oG G mt_Reader_named := (oa_Reader_named).g G
  unfold f_Reader_named
  refine R_st ho 3 (q' := (6, [(0, .inr (.inr (7, 66)))], [.inl 18, .inl (M 66 3)], 119, pm_RF, M)) rfl ?_
  refine R_ic ho rfl (tgt := 13) rfl ?_
  refine R_ne ?_ ?_
  · refine R_st ho 6 (q' := (21, [(1, .inl 1), (0, .inr (.inr (7, 66)))], [.inl 18, .inl (M 66 3)], 119, pm_RF, M)) rfl ?_
    refine R_ic ho rfl (tgt := 28) rfl ?_
    refine R_ge ?_ ?_
    · refine R_st ho 8 (q' := (40, [(2, .inl 0), (1, .inl 1), (0, .inr (.inr (7, 66)))], [.inl 3, .inl (M 66 2), .inl 1], 119, pm_RF, M)) rfl ?_
      refine R_ic ho rfl (tgt := 47) rfl ?_
      refine R_ne ?_ ?_
      · refine R_st ho 6 (q' := (62, [(2, .inl 0), (1, .inl 1), (0, .inr (.inr (7, 66)))], [.inl (M 66 3), .inr (.inr (7, 66))], 119, pm_RF, M)) rfl ?_
        refine R_callV ho mv_Reader_emit lk_7_88 rfl (As := [.inl (M 66 3)]) (kd := 7) (a := 66) (st := []) rfl rfl (Nat.le_of_ble_eq_true rfl) rfl (by decide) (Nat.le_of_ble_eq_true rfl) (ok_Reader_emit G (M 66 3) M ) (fun M1359 => ?_)
        show pm_R _ _ _ (65, [(2, .inl 0), (1, .inl 1), (0, .inr (.inr (7, 66)))], [], 119, pm_RF, M1359) _ _
        refine R_st ho 1 (q' := (66, [(2, .inl 0), (1, .inl 1), (0, .inr (.inr (7, 66)))], [.inr (.inr (7, 66))], 119, pm_RF, M1359)) rfl ?_
        refine R_callV ho mv_Reader_advance lk_7_34 rfl (As := []) (kd := 7) (a := 66) (st := []) rfl rfl (Nat.le_of_ble_eq_true rfl) rfl (by decide) (Nat.le_of_ble_eq_true rfl) (ok_Reader_advance G  M1359 ) (fun M1360 => ?_)
        show pm_R _ _ _ (69, [(2, .inl 0), (1, .inl 1), (0, .inr (.inr (7, 66)))], [], 119, pm_RF, M1360) _ _
        refine R_st ho 1 (q' := (70, [(2, .inl 0), (1, .inl 1), (0, .inr (.inr (7, 66)))], [.inl 1], 119, pm_RF, M1360)) rfl ?_
        exact R_end (v := some (.inl 1)) rfl (Or.inr ⟨rfl, Or.inr rfl⟩) rfl rfl
      · refine R_st ho 4 (q' := (53, [(2, .inl 0), (1, .inl 1), (0, .inr (.inr (7, 66)))], [.inl 5, .inr (.inr (7, 66))], 119, pm_RF, M)) rfl ?_
        refine R_callV ho mv_Reader_fail lk_7_44 rfl (As := [.inl 5]) (kd := 7) (a := 66) (st := []) rfl rfl (Nat.le_of_ble_eq_true rfl) rfl (by decide) (Nat.le_of_ble_eq_true rfl) (ok_Reader_fail G 5 M ) (fun r1361 => ?_)
        show pm_R _ _ _ (56, [(2, .inl 0), (1, .inl 1), (0, .inr (.inr (7, 66)))], [.inl r1361.1], 119, pm_RF, r1361.2) _ _
        exact R_gd (fun h_ => R_end (v := some (.inl r1361.1)) rfl (Or.inr ⟨rfl, h_⟩) rfl rfl)
    · refine R_st ho 8 (q' := (62, [(2, .inl 1), (1, .inl 1), (0, .inr (.inr (7, 66)))], [.inl (M 66 3), .inr (.inr (7, 66))], 119, pm_RF, M)) rfl ?_
      refine R_callV ho mv_Reader_emit lk_7_88 rfl (As := [.inl (M 66 3)]) (kd := 7) (a := 66) (st := []) rfl rfl (Nat.le_of_ble_eq_true rfl) rfl (by decide) (Nat.le_of_ble_eq_true rfl) (ok_Reader_emit G (M 66 3) M ) (fun M1362 => ?_)
      show pm_R _ _ _ (65, [(2, .inl 1), (1, .inl 1), (0, .inr (.inr (7, 66)))], [], 119, pm_RF, M1362) _ _
      refine R_st ho 1 (q' := (66, [(2, .inl 1), (1, .inl 1), (0, .inr (.inr (7, 66)))], [.inr (.inr (7, 66))], 119, pm_RF, M1362)) rfl ?_
      refine R_callV ho mv_Reader_advance lk_7_34 rfl (As := []) (kd := 7) (a := 66) (st := []) rfl rfl (Nat.le_of_ble_eq_true rfl) rfl (by decide) (Nat.le_of_ble_eq_true rfl) (ok_Reader_advance G  M1362 ) (fun M1363 => ?_)
      show pm_R _ _ _ (69, [(2, .inl 1), (1, .inl 1), (0, .inr (.inr (7, 66)))], [], 119, pm_RF, M1363) _ _
      refine R_st ho 1 (q' := (70, [(2, .inl 1), (1, .inl 1), (0, .inr (.inr (7, 66)))], [.inl 1], 119, pm_RF, M1363)) rfl ?_
      exact R_end (v := some (.inl 1)) rfl (Or.inr ⟨rfl, Or.inr rfl⟩) rfl rfl
  · refine R_st ho 5 (q' := (21, [(1, .inl 0), (0, .inr (.inr (7, 66)))], [.inl 18, .inl (M 66 3)], 119, pm_RF, M)) rfl ?_
    refine R_ic ho rfl (tgt := 28) rfl ?_
    refine R_ge ?_ ?_
    · refine R_st ho 8 (q' := (40, [(2, .inl 0), (1, .inl 0), (0, .inr (.inr (7, 66)))], [.inl 3, .inl (M 66 2), .inl 0], 119, pm_RF, M)) rfl ?_
      refine R_ic ho rfl (tgt := 47) rfl ?_
      refine R_ne ?_ ?_
      · refine R_st ho 5 (q' := (53, [(2, .inl 0), (1, .inl 0), (0, .inr (.inr (7, 66)))], [.inl 5, .inr (.inr (7, 66))], 119, pm_RF, M)) rfl ?_
        refine R_callV ho mv_Reader_fail lk_7_44 rfl (As := [.inl 5]) (kd := 7) (a := 66) (st := []) rfl rfl (Nat.le_of_ble_eq_true rfl) rfl (by decide) (Nat.le_of_ble_eq_true rfl) (ok_Reader_fail G 5 M ) (fun r1364 => ?_)
        show pm_R _ _ _ (56, [(2, .inl 0), (1, .inl 0), (0, .inr (.inr (7, 66)))], [.inl r1364.1], 119, pm_RF, r1364.2) _ _
        exact R_gd (fun h_ => R_end (v := some (.inl r1364.1)) rfl (Or.inr ⟨rfl, h_⟩) rfl rfl)
      · refine R_st ho 5 (q' := (62, [(2, .inl 0), (1, .inl 0), (0, .inr (.inr (7, 66)))], [.inl (M 66 3), .inr (.inr (7, 66))], 119, pm_RF, M)) rfl ?_
        refine R_callV ho mv_Reader_emit lk_7_88 rfl (As := [.inl (M 66 3)]) (kd := 7) (a := 66) (st := []) rfl rfl (Nat.le_of_ble_eq_true rfl) rfl (by decide) (Nat.le_of_ble_eq_true rfl) (ok_Reader_emit G (M 66 3) M ) (fun M1365 => ?_)
        show pm_R _ _ _ (65, [(2, .inl 0), (1, .inl 0), (0, .inr (.inr (7, 66)))], [], 119, pm_RF, M1365) _ _
        refine R_st ho 1 (q' := (66, [(2, .inl 0), (1, .inl 0), (0, .inr (.inr (7, 66)))], [.inr (.inr (7, 66))], 119, pm_RF, M1365)) rfl ?_
        refine R_callV ho mv_Reader_advance lk_7_34 rfl (As := []) (kd := 7) (a := 66) (st := []) rfl rfl (Nat.le_of_ble_eq_true rfl) rfl (by decide) (Nat.le_of_ble_eq_true rfl) (ok_Reader_advance G  M1365 ) (fun M1366 => ?_)
        show pm_R _ _ _ (69, [(2, .inl 0), (1, .inl 0), (0, .inr (.inr (7, 66)))], [], 119, pm_RF, M1366) _ _
        refine R_st ho 1 (q' := (70, [(2, .inl 0), (1, .inl 0), (0, .inr (.inr (7, 66)))], [.inl 1], 119, pm_RF, M1366)) rfl ?_
        exact R_end (v := some (.inl 1)) rfl (Or.inr ⟨rfl, Or.inr rfl⟩) rfl rfl
    · refine R_st ho 8 (q' := (62, [(2, .inl 1), (1, .inl 0), (0, .inr (.inr (7, 66)))], [.inl (M 66 3), .inr (.inr (7, 66))], 119, pm_RF, M)) rfl ?_
      refine R_callV ho mv_Reader_emit lk_7_88 rfl (As := [.inl (M 66 3)]) (kd := 7) (a := 66) (st := []) rfl rfl (Nat.le_of_ble_eq_true rfl) rfl (by decide) (Nat.le_of_ble_eq_true rfl) (ok_Reader_emit G (M 66 3) M ) (fun M1367 => ?_)
      show pm_R _ _ _ (65, [(2, .inl 1), (1, .inl 0), (0, .inr (.inr (7, 66)))], [], 119, pm_RF, M1367) _ _
      refine R_st ho 1 (q' := (66, [(2, .inl 1), (1, .inl 0), (0, .inr (.inr (7, 66)))], [.inr (.inr (7, 66))], 119, pm_RF, M1367)) rfl ?_
      refine R_callV ho mv_Reader_advance lk_7_34 rfl (As := []) (kd := 7) (a := 66) (st := []) rfl rfl (Nat.le_of_ble_eq_true rfl) rfl (by decide) (Nat.le_of_ble_eq_true rfl) (ok_Reader_advance G  M1367 ) (fun M1368 => ?_)
      show pm_R _ _ _ (69, [(2, .inl 1), (1, .inl 0), (0, .inr (.inr (7, 66)))], [], 119, pm_RF, M1368) _ _
      refine R_st ho 1 (q' := (70, [(2, .inl 1), (1, .inl 0), (0, .inr (.inr (7, 66)))], [.inl 1], 119, pm_RF, M1368)) rfl ?_
      exact R_end (v := some (.inl 1)) rfl (Or.inr ⟨rfl, Or.inr rfl⟩) rfl rfl
theorem ok_Reader_part (G : pm_G) (D : Nat) (hD : 10 ≤ D) (rc : Nat → Int → Int → pm_M → Option (Int × pm_M)) (x1 : Int) (x2 : Int) (M : pm_M) (hr0 : ∀ (a b : Int) (M : pm_M), pm_R G mt_Reader_joined D (0, [(0, .inr (.inr (7, 66))), (1, .inl a), (2, .inl b)], [], 119, pm_RF, M) (rc 0 a b M) (pm_Zr mt_Reader_joined pm_gI)) (hr1 : ∀ (a b : Int) (M : pm_M), pm_R G mt_Reader_part D (0, [(0, .inr (.inr (7, 66))), (1, .inl a), (2, .inl b)], [], 119, pm_RF, M) (rc 1 a b M) (pm_Zr mt_Reader_part pm_gI)) (hr2 : ∀ (a : Int) (M : pm_M), pm_R G mt_Reader_ask D (0, [(0, .inr (.inr (7, 66))), (1, .inl a)], [], 119, pm_RF, M) (rc 2 a 0 M) (pm_Zr mt_Reader_ask pm_gI)) (hr3 : ∀ (a : Int) (M : pm_M), pm_R G mt_Reader_one D (0, [(0, .inr (.inr (7, 66))), (1, .inl a)], [], 119, pm_RF, M) (rc 3 a 0 M) (pm_Zr mt_Reader_one pm_gI)) : pm_R G mt_Reader_part (D + 1) (0, [(0, .inr (.inr (7, 66))), (1, .inl x1), (2, .inl x2)], [], 119, pm_RF, M) (f_Reader_part rc x1 x2 M) (pm_Zr mt_Reader_part pm_gI) := by
  have ho : pm_oG G mt_Reader_part := (oa_Reader_part).g G
  unfold f_Reader_part
  refine R_st ho 2 (q' := (2, [(0, .inr (.inr (7, 66))), (1, .inl x1), (2, .inl x2)], [.inl 2, .inl x1], 119, pm_RF, M)) rfl ?_
  refine R_ic ho rfl (tgt := 11) rfl ?_
  refine R_ne ?_ ?_
  · refine R_st ho 2 (q' := (7, [(0, .inr (.inr (7, 66))), (1, .inl x1), (2, .inl x2)], [.inl x2, .inr (.inr (7, 66))], 119, pm_RF, M)) rfl ?_
    refine R_callV ho mv_Reader_ask lk_7_92 rfl (As := [.inl x2]) (kd := 7) (a := 66) (st := []) rfl rfl (Nat.le_of_ble_eq_true rfl) rfl (by omega) (Nat.le_of_ble_eq_true rfl) (hr2 x2 M) (fun r1335 => ?_)
    show pm_R _ _ _ (10, [(0, .inr (.inr (7, 66))), (1, .inl x1), (2, .inl x2)], [.inl r1335.1], 119, pm_RF, r1335.2) _ _
    exact R_gd (fun h_ => R_end (v := some (.inl r1335.1)) rfl (Or.inr ⟨rfl, h_⟩) rfl rfl)
  · refine R_st ho 2 (q' := (13, [(0, .inr (.inr (7, 66))), (1, .inl x1), (2, .inl x2)], [.inl 5, .inl x1], 119, pm_RF, M)) rfl ?_
    refine R_ic ho rfl (tgt := 24) rfl ?_
    refine R_ne ?_ ?_
    · refine R_st ho 2 (q' := (18, [(0, .inr (.inr (7, 66))), (1, .inl x1), (2, .inl x2)], [.inl x2, .inr (.inr (7, 66))], 119, pm_RF, M)) rfl ?_
      refine R_callV ho mv_Reader_one lk_7_95 rfl (As := [.inl x2]) (kd := 7) (a := 66) (st := []) rfl rfl (Nat.le_of_ble_eq_true rfl) rfl (by omega) (Nat.le_of_ble_eq_true rfl) (hr3 x2 M) (fun r1336 => ?_)
      show pm_R _ _ _ (21, [(0, .inr (.inr (7, 66))), (1, .inl x1), (2, .inl x2)], [.inl r1336.1], 119, pm_RF, r1336.2) _ _
      refine R_st ho 1 (q' := (30, [(0, .inr (.inr (7, 66))), (1, .inl x1), (2, .inl x2)], [.inl r1336.1], 119, pm_RF, r1336.2)) rfl ?_
      exact R_gd (fun h_ => R_end (v := some (.inl r1336.1)) rfl (Or.inr ⟨rfl, h_⟩) rfl rfl)
    · refine R_st ho 3 (q' := (27, [(0, .inr (.inr (7, 66))), (1, .inl x1), (2, .inl x2)], [.inl x2, .inl x1, .inr (.inr (7, 66))], 119, pm_RF, M)) rfl ?_
      refine R_callV ho mv_Reader_joined lk_7_65 rfl (As := [.inl x1, .inl x2]) (kd := 7) (a := 66) (st := []) rfl rfl (Nat.le_of_ble_eq_true rfl) rfl (by omega) (Nat.le_of_ble_eq_true rfl) (hr0 x1 x2 M) (fun r1337 => ?_)
      show pm_R _ _ _ (30, [(0, .inr (.inr (7, 66))), (1, .inl x1), (2, .inl x2)], [.inl r1337.1], 119, pm_RF, r1337.2) _ _
      exact R_gd (fun h_ => R_end (v := some (.inl r1337.1)) rfl (Or.inr ⟨rfl, h_⟩) rfl rfl)
theorem ok_Reader_ask (G : pm_G) (D : Nat) (hD : 10 ≤ D) (rc : Nat → Int → Int → pm_M → Option (Int × pm_M)) (x1 : Int) (M : pm_M) (hr0 : ∀ (a b : Int) (M : pm_M), pm_R G mt_Reader_joined D (0, [(0, .inr (.inr (7, 66))), (1, .inl a), (2, .inl b)], [], 119, pm_RF, M) (rc 0 a b M) (pm_Zr mt_Reader_joined pm_gI)) (hr1 : ∀ (a b : Int) (M : pm_M), pm_R G mt_Reader_part D (0, [(0, .inr (.inr (7, 66))), (1, .inl a), (2, .inl b)], [], 119, pm_RF, M) (rc 1 a b M) (pm_Zr mt_Reader_part pm_gI)) (hr2 : ∀ (a : Int) (M : pm_M), pm_R G mt_Reader_ask D (0, [(0, .inr (.inr (7, 66))), (1, .inl a)], [], 119, pm_RF, M) (rc 2 a 0 M) (pm_Zr mt_Reader_ask pm_gI)) (hr3 : ∀ (a : Int) (M : pm_M), pm_R G mt_Reader_one D (0, [(0, .inr (.inr (7, 66))), (1, .inl a)], [], 119, pm_RF, M) (rc 3 a 0 M) (pm_Zr mt_Reader_one pm_gI)) : pm_R G mt_Reader_ask (D + 1) (0, [(0, .inr (.inr (7, 66))), (1, .inl x1)], [], 119, pm_RF, M) (f_Reader_ask rc x1 M) (pm_Zr mt_Reader_ask pm_gI) := by
  have ho : pm_oG G mt_Reader_ask := (oa_Reader_ask).g G
  unfold f_Reader_ask
  refine R_st ho 3 (q' := (6, [(0, .inr (.inr (7, 66))), (1, .inl x1)], [.inl 13, .inl (M 66 3)], 119, pm_RF, M)) rfl ?_
  refine R_ic ho rfl (tgt := 41) rfl ?_
  refine R_ne ?_ ?_
  · refine R_st ho 2 (q' := (12, [(0, .inr (.inr (7, 66))), (1, .inl x1)], [.inl 8, .inl x1], 119, pm_RF, M)) rfl ?_
    refine R_ic ho rfl (tgt := 21) rfl ?_
    refine R_lt ?_ ?_
    · refine R_st ho 1 (q' := (22, [(0, .inr (.inr (7, 66))), (1, .inl x1)], [.inr (.inr (7, 66))], 119, pm_RF, M)) rfl ?_
      refine R_callV ho mv_Reader_advance lk_7_34 rfl (As := []) (kd := 7) (a := 66) (st := []) rfl rfl (Nat.le_of_ble_eq_true rfl) rfl (by omega) (Nat.le_of_ble_eq_true rfl) (ok_Reader_advance G  M ) (fun M1338 => ?_)
      show pm_R _ _ _ (25, [(0, .inr (.inr (7, 66))), (1, .inl x1)], [], 119, pm_RF, M1338) _ _
      refine R_st ho 4 (q' := (29, [(0, .inr (.inr (7, 66))), (1, .inl x1)], [.inl (i_ad x1 1), .inr (.inr (7, 66))], 119, pm_RF, M1338)) rfl ?_
      refine R_callV ho mv_Reader_ask lk_7_92 rfl (As := [.inl (i_ad x1 1)]) (kd := 7) (a := 66) (st := []) rfl rfl (Nat.le_of_ble_eq_true rfl) rfl (by omega) (Nat.le_of_ble_eq_true rfl) (hr2 (i_ad x1 1) M1338) (fun r1339 => ?_)
      show pm_R _ _ _ (32, [(0, .inr (.inr (7, 66))), (1, .inl x1)], [.inl r1339.1], 119, pm_RF, r1339.2) _ _
      refine R_st ho 3 (q' := (36, [(2, .inl r1339.1), (0, .inr (.inr (7, 66))), (1, .inl x1)], [.inl 13, .inr (.inr (7, 66))], 119, pm_RF, r1339.2)) rfl ?_
      refine R_callV ho mv_Reader_emit lk_7_88 rfl (As := [.inl 13]) (kd := 7) (a := 66) (st := []) rfl rfl (Nat.le_of_ble_eq_true rfl) rfl (by omega) (Nat.le_of_ble_eq_true rfl) (ok_Reader_emit G 13 r1339.2 ) (fun M1340 => ?_)
      show pm_R _ _ _ (39, [(2, .inl r1339.1), (0, .inr (.inr (7, 66))), (1, .inl x1)], [], 119, pm_RF, M1340) _ _
      refine R_st ho 1 (q' := (40, [(2, .inl r1339.1), (0, .inr (.inr (7, 66))), (1, .inl x1)], [.inl r1339.1], 119, pm_RF, M1340)) rfl ?_
      exact R_gd (fun h_ => R_end (v := some (.inl r1339.1)) rfl (Or.inr ⟨rfl, h_⟩) rfl rfl)
    · refine R_st ho 2 (q' := (17, [(0, .inr (.inr (7, 66))), (1, .inl x1)], [.inl 3, .inr (.inr (7, 66))], 119, pm_RF, M)) rfl ?_
      refine R_callV ho mv_Reader_fail lk_7_44 rfl (As := [.inl 3]) (kd := 7) (a := 66) (st := []) rfl rfl (Nat.le_of_ble_eq_true rfl) rfl (by omega) (Nat.le_of_ble_eq_true rfl) (ok_Reader_fail G 3 M ) (fun r1341 => ?_)
      show pm_R _ _ _ (20, [(0, .inr (.inr (7, 66))), (1, .inl x1)], [.inl r1341.1], 119, pm_RF, r1341.2) _ _
      exact R_gd (fun h_ => R_end (v := some (.inl r1341.1)) rfl (Or.inr ⟨rfl, h_⟩) rfl rfl)
  · refine R_st ho 3 (q' := (44, [(0, .inr (.inr (7, 66))), (1, .inl x1)], [.inl x1, .inl 3, .inr (.inr (7, 66))], 119, pm_RF, M)) rfl ?_
    refine R_callV ho mv_Reader_joined lk_7_65 rfl (As := [.inl 3, .inl x1]) (kd := 7) (a := 66) (st := []) rfl rfl (Nat.le_of_ble_eq_true rfl) rfl (by omega) (Nat.le_of_ble_eq_true rfl) (hr0 3 x1 M) (fun r1342 => ?_)
    show pm_R _ _ _ (47, [(0, .inr (.inr (7, 66))), (1, .inl x1)], [.inl r1342.1], 119, pm_RF, r1342.2) _ _
    refine R_if ho rfl (tgt := 52) rfl ?_
    refine R_ne ?_ ?_
    · refine R_st ho 1 (q' := (51, [(0, .inr (.inr (7, 66))), (1, .inl x1)], [.inl 0], 119, pm_RF, r1342.2)) rfl ?_
      exact R_end (v := some (.inl 0)) rfl (Or.inr ⟨rfl, Or.inl rfl⟩) rfl rfl
    · refine R_st ho 4 (q' := (58, [(2, .inl (r1342.2 66 3)), (0, .inr (.inr (7, 66))), (1, .inl x1)], [.inl (r1342.2 66 3)], 119, pm_RF, r1342.2)) rfl ?_
      refine R_callS ho ms_Reader_compares lk_7_98 rfl (As := [.inl (r1342.2 66 3)]) (st := []) rfl (Nat.le_of_ble_eq_true rfl) rfl (by omega) (Nat.le_of_ble_eq_true rfl) (ok_Reader_compares G (r1342.2 66 3) r1342.2 ) (fun r1343 => ?_)
      show pm_R _ _ _ (61, [(2, .inl (r1342.2 66 3)), (0, .inr (.inr (7, 66))), (1, .inl x1)], [.inl r1343], 119, pm_RF, r1342.2) _ _
      refine R_if ho rfl (tgt := 70) rfl ?_
      refine R_ne ?_ ?_
      · refine R_st ho 2 (q' := (66, [(2, .inl (r1342.2 66 3)), (0, .inr (.inr (7, 66))), (1, .inl x1)], [.inl 1, .inr (.inr (7, 66))], 119, pm_RF, r1342.2)) rfl ?_
        refine R_callV ho mv_Reader_fail lk_7_44 rfl (As := [.inl 1]) (kd := 7) (a := 66) (st := []) rfl rfl (Nat.le_of_ble_eq_true rfl) rfl (by omega) (Nat.le_of_ble_eq_true rfl) (ok_Reader_fail G 1 r1342.2 ) (fun r1344 => ?_)
        show pm_R _ _ _ (69, [(2, .inl (r1342.2 66 3)), (0, .inr (.inr (7, 66))), (1, .inl x1)], [.inl r1344.1], 119, pm_RF, r1344.2) _ _
        exact R_gd (fun h_ => R_end (v := some (.inl r1344.1)) rfl (Or.inr ⟨rfl, h_⟩) rfl rfl)
      · refine R_st ho 1 (q' := (71, [(2, .inl (r1342.2 66 3)), (0, .inr (.inr (7, 66))), (1, .inl x1)], [.inr (.inr (7, 66))], 119, pm_RF, r1342.2)) rfl ?_
        refine R_callV ho mv_Reader_advance lk_7_34 rfl (As := []) (kd := 7) (a := 66) (st := []) rfl rfl (Nat.le_of_ble_eq_true rfl) rfl (by omega) (Nat.le_of_ble_eq_true rfl) (ok_Reader_advance G  r1342.2 ) (fun M1345 => ?_)
        show pm_R _ _ _ (74, [(2, .inl (r1342.2 66 3)), (0, .inr (.inr (7, 66))), (1, .inl x1)], [], 119, pm_RF, M1345) _ _
        refine R_st ho 3 (q' := (77, [(2, .inl (r1342.2 66 3)), (0, .inr (.inr (7, 66))), (1, .inl x1)], [.inl x1, .inl 3, .inr (.inr (7, 66))], 119, pm_RF, M1345)) rfl ?_
        refine R_callV ho mv_Reader_joined lk_7_65 rfl (As := [.inl 3, .inl x1]) (kd := 7) (a := 66) (st := []) rfl rfl (Nat.le_of_ble_eq_true rfl) rfl (by omega) (Nat.le_of_ble_eq_true rfl) (hr0 3 x1 M1345) (fun r1346 => ?_)
        show pm_R _ _ _ (80, [(2, .inl (r1342.2 66 3)), (0, .inr (.inr (7, 66))), (1, .inl x1)], [.inl r1346.1], 119, pm_RF, r1346.2) _ _
        refine R_st ho 3 (q' := (83, [(3, .inl r1346.1), (2, .inl (r1342.2 66 3)), (0, .inr (.inr (7, 66))), (1, .inl x1)], [.inl (r1342.2 66 3), .inr (.inr (7, 66))], 119, pm_RF, r1346.2)) rfl ?_
        refine R_callV ho mv_Reader_emit lk_7_88 rfl (As := [.inl (r1342.2 66 3)]) (kd := 7) (a := 66) (st := []) rfl rfl (Nat.le_of_ble_eq_true rfl) rfl (by omega) (Nat.le_of_ble_eq_true rfl) (ok_Reader_emit G (r1342.2 66 3) r1346.2 ) (fun M1347 => ?_)
        show pm_R _ _ _ (86, [(3, .inl r1346.1), (2, .inl (r1342.2 66 3)), (0, .inr (.inr (7, 66))), (1, .inl x1)], [], 119, pm_RF, M1347) _ _
        refine R_st ho 1 (q' := (87, [(3, .inl r1346.1), (2, .inl (r1342.2 66 3)), (0, .inr (.inr (7, 66))), (1, .inl x1)], [.inl r1346.1], 119, pm_RF, M1347)) rfl ?_
        exact R_gd (fun h_ => R_end (v := some (.inl r1346.1)) rfl (Or.inr ⟨rfl, h_⟩) rfl rfl)
theorem ok_Reader_one_J81 (G : pm_G) (D : Nat) (hD : 10 ≤ D) (rc : Nat → Int → Int → pm_M → Option (Int × pm_M)) (hr0 : ∀ (a b : Int) (M : pm_M), pm_R G mt_Reader_joined D (0, [(0, .inr (.inr (7, 66))), (1, .inl a), (2, .inl b)], [], 119, pm_RF, M) (rc 0 a b M) (pm_Zr mt_Reader_joined pm_gI)) (hr1 : ∀ (a b : Int) (M : pm_M), pm_R G mt_Reader_part D (0, [(0, .inr (.inr (7, 66))), (1, .inl a), (2, .inl b)], [], 119, pm_RF, M) (rc 1 a b M) (pm_Zr mt_Reader_part pm_gI)) (hr2 : ∀ (a : Int) (M : pm_M), pm_R G mt_Reader_ask D (0, [(0, .inr (.inr (7, 66))), (1, .inl a)], [], 119, pm_RF, M) (rc 2 a 0 M) (pm_Zr mt_Reader_ask pm_gI)) (hr3 : ∀ (a : Int) (M : pm_M), pm_R G mt_Reader_one D (0, [(0, .inr (.inr (7, 66))), (1, .inl a)], [], 119, pm_RF, M) (rc 3 a 0 M) (pm_Zr mt_Reader_one pm_gI))   (y1 : Int) (M : pm_M) : pm_R G mt_Reader_one (D + 1) (81, [(0, .inr (.inr (7, 66))), (1, .inl y1)], [], 119, pm_RF, M) (f_Reader_one_J81 rc y1 M) (pm_Zr mt_Reader_one pm_gI) := by
  have ho : pm_oG G mt_Reader_one := (oa_Reader_one).g G
  unfold f_Reader_one_J81
  refine R_st ho 2 (q' := (84, [(0, .inr (.inr (7, 66))), (1, .inl y1)], [.inl 8, .inl y1], 119, pm_RF, M)) rfl ?_
  refine R_ic ho rfl (tgt := 93) rfl ?_
  refine R_lt ?_ ?_
  · refine R_st ho 3 (q' := (99, [(0, .inr (.inr (7, 66))), (1, .inl y1)], [.inl 32, .inl (M 66 3)], 119, pm_RF, M)) rfl ?_
    refine R_ic ho rfl (tgt := 106) rfl ?_
    refine R_ne ?_ ?_
    · refine R_st ho 4 (q' := (109, [(2, .inl 1), (0, .inr (.inr (7, 66))), (1, .inl y1)], [.inr (.inr (7, 66))], 119, pm_RF, M)) rfl ?_
      refine R_callV ho mv_Reader_advance lk_7_34 rfl (As := []) (kd := 7) (a := 66) (st := []) rfl rfl (Nat.le_of_ble_eq_true rfl) rfl (by omega) (Nat.le_of_ble_eq_true rfl) (ok_Reader_advance G  M ) (fun M1351 => ?_)
      show pm_R _ _ _ (112, [(2, .inl 1), (0, .inr (.inr (7, 66))), (1, .inl y1)], [], 119, pm_RF, M1351) _ _
      refine R_st ho 7 (q' := (121, [(2, .inl 1), (0, .inr (.inr (7, 66))), (1, .inl y1)], [.inl (i_ad y1 1), .inl 3, .inr (.inr (7, 66))], 119, pm_RF, M1351)) rfl ?_
      refine R_callV ho mv_Reader_joined lk_7_65 rfl (As := [.inl 3, .inl (i_ad y1 1)]) (kd := 7) (a := 66) (st := []) rfl rfl (Nat.le_of_ble_eq_true rfl) rfl (by omega) (Nat.le_of_ble_eq_true rfl) (hr0 3 (i_ad y1 1) M1351) (fun r1352 => ?_)
      show pm_R _ _ _ (124, [(2, .inl 1), (0, .inr (.inr (7, 66))), (1, .inl y1)], [.inl r1352.1], 119, pm_RF, r1352.2) _ _
      refine R_if ho rfl (tgt := 140) rfl ?_
      refine R_eq ?_ ?_
      · refine R_st ho 1 (q' := (141, [(2, .inl 1), (0, .inr (.inr (7, 66))), (1, .inl y1)], [.inl 0], 119, pm_RF, r1352.2)) rfl ?_
        exact R_end (v := some (.inl 0)) rfl (Or.inr ⟨rfl, Or.inl rfl⟩) rfl rfl
      · refine R_st ho 2 (q' := (130, [(2, .inl 1), (0, .inr (.inr (7, 66))), (1, .inl y1)], [.inl 33, .inr (.inr (7, 66))], 119, pm_RF, r1352.2)) rfl ?_
        refine R_callV ho mv_Reader_expect lk_7_73 rfl (As := [.inl 33]) (kd := 7) (a := 66) (st := []) rfl rfl (Nat.le_of_ble_eq_true rfl) rfl (by omega) (Nat.le_of_ble_eq_true rfl) (ok_Reader_expect G 33 r1352.2 ) (fun r1353 => ?_)
        show pm_R _ _ _ (133, [(2, .inl 1), (0, .inr (.inr (7, 66))), (1, .inl y1)], [.inl r1353.1], 119, pm_RF, r1353.2) _ _
        refine R_if ho rfl (tgt := 140) rfl ?_
        refine R_eq ?_ ?_
        · refine R_st ho 1 (q' := (141, [(2, .inl 1), (0, .inr (.inr (7, 66))), (1, .inl y1)], [.inl 0], 119, pm_RF, r1353.2)) rfl ?_
          exact R_end (v := some (.inl 0)) rfl (Or.inr ⟨rfl, Or.inl rfl⟩) rfl rfl
        · refine R_st ho 2 (q' := (141, [(2, .inl 1), (0, .inr (.inr (7, 66))), (1, .inl y1)], [.inl 1], 119, pm_RF, r1353.2)) rfl ?_
          exact R_end (v := some (.inl 1)) rfl (Or.inr ⟨rfl, Or.inr rfl⟩) rfl rfl
    · refine R_st ho 3 (q' := (109, [(2, .inl 0), (0, .inr (.inr (7, 66))), (1, .inl y1)], [.inr (.inr (7, 66))], 119, pm_RF, M)) rfl ?_
      refine R_callV ho mv_Reader_advance lk_7_34 rfl (As := []) (kd := 7) (a := 66) (st := []) rfl rfl (Nat.le_of_ble_eq_true rfl) rfl (by omega) (Nat.le_of_ble_eq_true rfl) (ok_Reader_advance G  M ) (fun M1354 => ?_)
      show pm_R _ _ _ (112, [(2, .inl 0), (0, .inr (.inr (7, 66))), (1, .inl y1)], [], 119, pm_RF, M1354) _ _
      refine R_st ho 6 (q' := (146, [(2, .inl 0), (0, .inr (.inr (7, 66))), (1, .inl y1)], [.inl (i_ad y1 1), .inr (.inr (7, 66))], 119, pm_RF, M1354)) rfl ?_
      refine R_callV ho mv_Reader_one lk_7_95 rfl (As := [.inl (i_ad y1 1)]) (kd := 7) (a := 66) (st := []) rfl rfl (Nat.le_of_ble_eq_true rfl) rfl (by omega) (Nat.le_of_ble_eq_true rfl) (hr3 (i_ad y1 1) M1354) (fun r1355 => ?_)
      show pm_R _ _ _ (149, [(2, .inl 0), (0, .inr (.inr (7, 66))), (1, .inl y1)], [.inl r1355.1], 119, pm_RF, r1355.2) _ _
      refine R_st ho 3 (q' := (153, [(3, .inl r1355.1), (2, .inl 0), (0, .inr (.inr (7, 66))), (1, .inl y1)], [.inl 40, .inr (.inr (7, 66))], 119, pm_RF, r1355.2)) rfl ?_
      refine R_callV ho mv_Reader_emit lk_7_88 rfl (As := [.inl 40]) (kd := 7) (a := 66) (st := []) rfl rfl (Nat.le_of_ble_eq_true rfl) rfl (by omega) (Nat.le_of_ble_eq_true rfl) (ok_Reader_emit G 40 r1355.2 ) (fun M1356 => ?_)
      show pm_R _ _ _ (156, [(3, .inl r1355.1), (2, .inl 0), (0, .inr (.inr (7, 66))), (1, .inl y1)], [], 119, pm_RF, M1356) _ _
      refine R_st ho 1 (q' := (157, [(3, .inl r1355.1), (2, .inl 0), (0, .inr (.inr (7, 66))), (1, .inl y1)], [.inl r1355.1], 119, pm_RF, M1356)) rfl ?_
      exact R_gd (fun h_ => R_end (v := some (.inl r1355.1)) rfl (Or.inr ⟨rfl, h_⟩) rfl rfl)
  · refine R_st ho 2 (q' := (89, [(0, .inr (.inr (7, 66))), (1, .inl y1)], [.inl 3, .inr (.inr (7, 66))], 119, pm_RF, M)) rfl ?_
    refine R_callV ho mv_Reader_fail lk_7_44 rfl (As := [.inl 3]) (kd := 7) (a := 66) (st := []) rfl rfl (Nat.le_of_ble_eq_true rfl) rfl (by omega) (Nat.le_of_ble_eq_true rfl) (ok_Reader_fail G 3 M ) (fun r1357 => ?_)
    show pm_R _ _ _ (92, [(0, .inr (.inr (7, 66))), (1, .inl y1)], [.inl r1357.1], 119, pm_RF, r1357.2) _ _
    exact R_gd (fun h_ => R_end (v := some (.inl r1357.1)) rfl (Or.inr ⟨rfl, h_⟩) rfl rfl)
theorem ok_Reader_one_J57 (G : pm_G) (D : Nat) (hD : 10 ≤ D) (rc : Nat → Int → Int → pm_M → Option (Int × pm_M)) (hr0 : ∀ (a b : Int) (M : pm_M), pm_R G mt_Reader_joined D (0, [(0, .inr (.inr (7, 66))), (1, .inl a), (2, .inl b)], [], 119, pm_RF, M) (rc 0 a b M) (pm_Zr mt_Reader_joined pm_gI)) (hr1 : ∀ (a b : Int) (M : pm_M), pm_R G mt_Reader_part D (0, [(0, .inr (.inr (7, 66))), (1, .inl a), (2, .inl b)], [], 119, pm_RF, M) (rc 1 a b M) (pm_Zr mt_Reader_part pm_gI)) (hr2 : ∀ (a : Int) (M : pm_M), pm_R G mt_Reader_ask D (0, [(0, .inr (.inr (7, 66))), (1, .inl a)], [], 119, pm_RF, M) (rc 2 a 0 M) (pm_Zr mt_Reader_ask pm_gI)) (hr3 : ∀ (a : Int) (M : pm_M), pm_R G mt_Reader_one D (0, [(0, .inr (.inr (7, 66))), (1, .inl a)], [], 119, pm_RF, M) (rc 3 a 0 M) (pm_Zr mt_Reader_one pm_gI))   (y1 : Int) (M : pm_M) : pm_R G mt_Reader_one (D + 1) (57, [(0, .inr (.inr (7, 66))), (1, .inl y1)], [], 119, pm_RF, M) (f_Reader_one_J57 rc y1 M) (pm_Zr mt_Reader_one pm_gI) := by
  have ho : pm_oG G mt_Reader_one := (oa_Reader_one).g G
  unfold f_Reader_one_J57
  refine R_st ho 3 (q' := (63, [(0, .inr (.inr (7, 66))), (1, .inl y1)], [.inl 32, .inl (M 66 3)], 119, pm_RF, M)) rfl ?_
  refine R_ic ho rfl (tgt := 81) rfl ?_
  refine R_eq ?_ ?_
  · exact ok_Reader_one_J81 G D hD rc hr0 hr1 hr2 hr3 y1 M
  · refine R_st ho 3 (q' := (72, [(0, .inr (.inr (7, 66))), (1, .inl y1)], [.inl 29, .inl (M 66 3)], 119, pm_RF, M)) rfl ?_
    refine R_ic ho rfl (tgt := 81) rfl ?_
    refine R_eq ?_ ?_
    · exact ok_Reader_one_J81 G D hD rc hr0 hr1 hr2 hr3 y1 M
    · refine R_st ho 2 (q' := (77, [(0, .inr (.inr (7, 66))), (1, .inl y1)], [.inl 1, .inr (.inr (7, 66))], 119, pm_RF, M)) rfl ?_
      refine R_callV ho mv_Reader_fail lk_7_44 rfl (As := [.inl 1]) (kd := 7) (a := 66) (st := []) rfl rfl (Nat.le_of_ble_eq_true rfl) rfl (by omega) (Nat.le_of_ble_eq_true rfl) (ok_Reader_fail G 1 M ) (fun r1358 => ?_)
      show pm_R _ _ _ (80, [(0, .inr (.inr (7, 66))), (1, .inl y1)], [.inl r1358.1], 119, pm_RF, r1358.2) _ _
      exact R_gd (fun h_ => R_end (v := some (.inl r1358.1)) rfl (Or.inr ⟨rfl, h_⟩) rfl rfl)
theorem ok_Reader_one (G : pm_G) (D : Nat) (hD : 10 ≤ D) (rc : Nat → Int → Int → pm_M → Option (Int × pm_M)) (x1 : Int) (M : pm_M) (hr0 : ∀ (a b : Int) (M : pm_M), pm_R G mt_Reader_joined D (0, [(0, .inr (.inr (7, 66))), (1, .inl a), (2, .inl b)], [], 119, pm_RF, M) (rc 0 a b M) (pm_Zr mt_Reader_joined pm_gI)) (hr1 : ∀ (a b : Int) (M : pm_M), pm_R G mt_Reader_part D (0, [(0, .inr (.inr (7, 66))), (1, .inl a), (2, .inl b)], [], 119, pm_RF, M) (rc 1 a b M) (pm_Zr mt_Reader_part pm_gI)) (hr2 : ∀ (a : Int) (M : pm_M), pm_R G mt_Reader_ask D (0, [(0, .inr (.inr (7, 66))), (1, .inl a)], [], 119, pm_RF, M) (rc 2 a 0 M) (pm_Zr mt_Reader_ask pm_gI)) (hr3 : ∀ (a : Int) (M : pm_M), pm_R G mt_Reader_one D (0, [(0, .inr (.inr (7, 66))), (1, .inl a)], [], 119, pm_RF, M) (rc 3 a 0 M) (pm_Zr mt_Reader_one pm_gI)) : pm_R G mt_Reader_one (D + 1) (0, [(0, .inr (.inr (7, 66))), (1, .inl x1)], [], 119, pm_RF, M) (f_Reader_one rc x1 M) (pm_Zr mt_Reader_one pm_gI) := by
  have ho : pm_oG G mt_Reader_one := (oa_Reader_one).g G
  unfold f_Reader_one
  refine R_st ho 3 (q' := (6, [(0, .inr (.inr (7, 66))), (1, .inl x1)], [.inl 37, .inl (M 66 3)], 119, pm_RF, M)) rfl ?_
  refine R_ic ho rfl (tgt := 34) rfl ?_
  refine R_ne ?_ ?_
  · refine R_st ho 1 (q' := (10, [(0, .inr (.inr (7, 66))), (1, .inl x1)], [.inr (.inr (7, 66))], 119, pm_RF, M)) rfl ?_
    refine R_getI ho rfl rfl (fun h1348 => ?_)
    refine R_st ho 3 (q' := (20, [(0, .inr (.inr (7, 66))), (1, .inl x1)], [.inl 9999, .inl (M 66 4), .inr (.inr (10, (M 66 1 - 1).toNat))], 119, pm_RF, M)) rfl ?_
    refine R_i_mn ho lk_7_101 rfl (Nat.le_of_ble_eq_true rfl) ?_
    refine R_callV ho mv_Text_emit lk_7_107 rfl (As := [.inl (i_mn (M 66 4) 9999)]) (kd := 10) (a := (M 66 1 - 1).toNat) (st := []) rfl rfl (Nat.le_of_ble_eq_true rfl) rfl (by omega) (Nat.le_of_ble_eq_true rfl) (ok_Text_emit G (M 66 1 - 1).toNat (i_mn (M 66 4) 9999) M h1348) (fun M1349 => ?_)
    show pm_R _ _ _ (26, [(0, .inr (.inr (7, 66))), (1, .inl x1)], [], 119, pm_RF, M1349) _ _
    refine R_st ho 2 (q' := (30, [(0, .inr (.inr (7, 66))), (1, .inl x1)], [.inl 9999, .inr (.inr (7, 66))], 119, pm_RF, M1349)) rfl ?_
    refine R_callV ho mv_Reader_numberUpTo lk_7_79 rfl (As := [.inl 9999]) (kd := 7) (a := 66) (st := []) rfl rfl (Nat.le_of_ble_eq_true rfl) rfl (by omega) (Nat.le_of_ble_eq_true rfl) (ok_Reader_numberUpTo G 9999 M1349 ) (fun r1350 => ?_)
    show pm_R _ _ _ (33, [(0, .inr (.inr (7, 66))), (1, .inl x1)], [.inl r1350.1], 119, pm_RF, r1350.2) _ _
    exact R_gd (fun h_ => R_end (v := some (.inl r1350.1)) rfl (Or.inr ⟨rfl, h_⟩) rfl rfl)
  · refine R_st ho 3 (q' := (40, [(0, .inr (.inr (7, 66))), (1, .inl x1)], [.inl 14, .inl (M 66 3)], 119, pm_RF, M)) rfl ?_
    refine R_ic ho rfl (tgt := 57) rfl ?_
    refine R_lt ?_ ?_
    · exact ok_Reader_one_J57 G D hD rc hr0 hr1 hr2 hr3 x1 M
    · refine R_st ho 3 (q' := (49, [(0, .inr (.inr (7, 66))), (1, .inl x1)], [.inl 23, .inl (M 66 3)], 119, pm_RF, M)) rfl ?_
      refine R_ic ho rfl (tgt := 57) rfl ?_
      refine R_gt ?_ ?_
      · exact ok_Reader_one_J57 G D hD rc hr0 hr1 hr2 hr3 x1 M
      · refine R_st ho 1 (q' := (53, [(0, .inr (.inr (7, 66))), (1, .inl x1)], [.inr (.inr (7, 66))], 119, pm_RF, M)) rfl ?_
        refine R_callV ho mv_Reader_named lk_7_108 rfl (As := []) (kd := 7) (a := 66) (st := []) rfl rfl (Nat.le_of_ble_eq_true rfl) rfl (by omega) (Nat.le_of_ble_eq_true rfl) (ok_Reader_named G  M ) (fun r1369 => ?_)
        show pm_R _ _ _ (56, [(0, .inr (.inr (7, 66))), (1, .inl x1)], [.inl r1369.1], 119, pm_RF, r1369.2) _ _
        exact R_gd (fun h_ => R_end (v := some (.inl r1369.1)) rfl (Or.inr ⟨rfl, h_⟩) rfl rfl)
theorem ok_rd (G : pm_G) : ∀ k_ : Nat, (∀ (a b : Int) (M : pm_M), pm_R G mt_Reader_joined (10 + k_) (0, [(0, .inr (.inr (7, 66))), (1, .inl a), (2, .inl b)], [], 119, pm_RF, M) (f_rd k_ 0 a b M) (pm_Zr mt_Reader_joined pm_gI)) ∧ (∀ (a b : Int) (M : pm_M), pm_R G mt_Reader_part (10 + k_) (0, [(0, .inr (.inr (7, 66))), (1, .inl a), (2, .inl b)], [], 119, pm_RF, M) (f_rd k_ 1 a b M) (pm_Zr mt_Reader_part pm_gI)) ∧ (∀ (a : Int) (M : pm_M), pm_R G mt_Reader_ask (10 + k_) (0, [(0, .inr (.inr (7, 66))), (1, .inl a)], [], 119, pm_RF, M) (f_rd k_ 2 a 0 M) (pm_Zr mt_Reader_ask pm_gI)) ∧ (∀ (a : Int) (M : pm_M), pm_R G mt_Reader_one (10 + k_) (0, [(0, .inr (.inr (7, 66))), (1, .inl a)], [], 119, pm_RF, M) (f_rd k_ 3 a 0 M) (pm_Zr mt_Reader_one pm_gI))
  | 0 => ⟨fun _ _ _ => R_none, fun _ _ _ => R_none, fun _ _ => R_none, fun _ _ => R_none⟩
  | k_ + 1 => by
    obtain ⟨h0, h1, h2, h3⟩ := ok_rd G k_
    refine ⟨fun a b M => ?_, fun a b M => ?_, fun a M => ?_, fun a M => ?_⟩
    · rw [f_rd]
      exact ok_Reader_joined G (10 + k_) (Nat.le_add_right _ _) (f_rd k_) a b M h0 h1 h2 h3
    · rw [f_rd]
      exact ok_Reader_part G (10 + k_) (Nat.le_add_right _ _) (f_rd k_) a b M h0 h1 h2 h3
    · rw [f_rd]
      exact ok_Reader_ask G (10 + k_) (Nat.le_add_right _ _) (f_rd k_) a M h0 h1 h2 h3
    · rw [f_rd]
      exact ok_Reader_one G (10 + k_) (Nat.le_add_right _ _) (f_rd k_) a M h0 h1 h2 h3
theorem ok_rd0 (G : pm_G) (k_ : Nat) (a b : Int) (M : pm_M) : pm_R G mt_Reader_joined (10 + k_) (0, [(0, .inr (.inr (7, 66))), (1, .inl a), (2, .inl b)], [], 119, pm_RF, M) (f_rd k_ 0 a b M) (pm_Zr mt_Reader_joined pm_gI) := (ok_rd G k_).1 a b M
theorem ok_rd1 (G : pm_G) (k_ : Nat) (a b : Int) (M : pm_M) : pm_R G mt_Reader_part (10 + k_) (0, [(0, .inr (.inr (7, 66))), (1, .inl a), (2, .inl b)], [], 119, pm_RF, M) (f_rd k_ 1 a b M) (pm_Zr mt_Reader_part pm_gI) := (ok_rd G k_).2.1 a b M
theorem ok_rd2 (G : pm_G) (k_ : Nat) (a : Int) (M : pm_M) : pm_R G mt_Reader_ask (10 + k_) (0, [(0, .inr (.inr (7, 66))), (1, .inl a)], [], 119, pm_RF, M) (f_rd k_ 2 a 0 M) (pm_Zr mt_Reader_ask pm_gI) := (ok_rd G k_).2.2.1 a M
theorem ok_rd3 (G : pm_G) (k_ : Nat) (a : Int) (M : pm_M) : pm_R G mt_Reader_one (10 + k_) (0, [(0, .inr (.inr (7, 66))), (1, .inl a)], [], 119, pm_RF, M) (f_rd k_ 3 a 0 M) (pm_Zr mt_Reader_one pm_gI) := (ok_rd G k_).2.2.2 a M
theorem ok_Reader_clause (G : pm_G)  (M : pm_M)  : pm_R G mt_Reader_clause 111 (0, [(0, .inr (.inr (7, 66)))], [], 119, pm_RF, M) (f_Reader_clause M) (pm_Zr mt_Reader_clause pm_gI) := by
  have ho : pm_oG G mt_Reader_clause := (oa_Reader_clause).g G
  unfold f_Reader_clause
  refine R_st ho 5 (q' := (8, [(1, .inl (M 66 3)), (0, .inr (.inr (7, 66)))], [.inl 8, .inl (M 66 3)], 119, pm_RF, M)) rfl ?_
  refine R_ic ho rfl (tgt := 17) rfl ?_
  refine R_le ?_ ?_
  · refine R_st ho 1 (q' := (18, [(1, .inl (M 66 3)), (0, .inr (.inr (7, 66)))], [.inr (.inr (7, 66))], 119, pm_RF, M)) rfl ?_
    refine R_getI ho rfl rfl (fun h229 => ?_)
    refine R_st ho 1 (q' := (22, [(1, .inl (M 66 3)), (0, .inr (.inr (7, 66)))], [.inl (M 66 3), .inr (.inr (10, (M 66 1 - 1).toNat))], 119, pm_RF, M)) rfl ?_
    refine R_callV ho mv_Text_clauseOf lk_7_48 rfl (As := [.inl (M 66 3)]) (kd := 10) (a := (M 66 1 - 1).toNat) (st := []) rfl rfl (Nat.le_of_ble_eq_true rfl) rfl (by decide) (Nat.le_of_ble_eq_true rfl) (ok_Text_clauseOf G (M 66 1 - 1).toNat (M 66 3) M h229) (fun r230 => ?_)
    show pm_R _ _ _ (25, [(1, .inl (M 66 3)), (0, .inr (.inr (7, 66)))], [.inl r230], 119, pm_RF, M) _ _
    refine R_st ho 1 (q' := (26, [(1, .inl (M 66 3)), (0, .inr (.inr (7, 66)))], [.inl (-1), .inl r230], 119, pm_RF, M)) rfl ?_
    refine R_ic ho rfl (tgt := 35) rfl ?_
    refine R_eq ?_ ?_
    · refine R_st ho 1 (q' := (36, [(1, .inl (M 66 3)), (0, .inr (.inr (7, 66)))], [.inr (.inr (7, 66))], 119, pm_RF, M)) rfl ?_
      refine R_getI ho rfl rfl (fun h231 => ?_)
      refine R_callV ho mv_Text_isFull lk_7_52 rfl (As := []) (kd := 10) (a := (M 66 1 - 1).toNat) (st := []) rfl rfl (Nat.le_of_ble_eq_true rfl) rfl (by decide) (Nat.le_of_ble_eq_true rfl) (ok_Text_isFull G (M 66 1 - 1).toNat M h231) (fun r232 => ?_)
      show pm_R _ _ _ (42, [(1, .inl (M 66 3)), (0, .inr (.inr (7, 66)))], [.inl r232], 119, pm_RF, M) _ _
      refine R_if ho rfl (tgt := 52) rfl ?_
      refine R_eq ?_ ?_
      · refine R_st ho 1 (q' := (53, [(1, .inl (M 66 3)), (0, .inr (.inr (7, 66)))], [.inr (.inr (7, 66))], 119, pm_RF, M)) rfl ?_
        refine R_callV ho mv_Reader_advance lk_7_34 rfl (As := []) (kd := 7) (a := 66) (st := []) rfl rfl (Nat.le_of_ble_eq_true rfl) rfl (by decide) (Nat.le_of_ble_eq_true rfl) (ok_Reader_advance G  M ) (fun M233 => ?_)
        show pm_R _ _ _ (56, [(1, .inl (M 66 3)), (0, .inr (.inr (7, 66)))], [], 119, pm_RF, M233) _ _
        refine R_st ho 2 (q' := (58, [(1, .inl (M 66 3)), (0, .inr (.inr (7, 66)))], [.inl 4, .inl (M 66 3)], 119, pm_RF, M233)) rfl ?_
        refine R_ic ho rfl (tgt := 67) rfl ?_
        refine R_le ?_ ?_
        · refine R_st ho 3 (q' := (72, [(1, .inl (M 66 3)), (0, .inr (.inr (7, 66)))], [], 119, pm_RF, (pm_ms M233 66 2 (M 66 3)))) rfl ?_
          refine R_nm fun M234 => ?_
          refine R_st ho 1 (q' := (73, [(1, .inl (M 66 3)), (0, .inr (.inr (7, 66)))], [.inr (.inr (7, 66))], 119, pm_RF, M234)) rfl ?_
          refine R_getI ho rfl rfl (fun h235 => ?_)
          refine R_callV ho mv_Text_codeLength lk_7_61 rfl (As := []) (kd := 10) (a := (M234 66 1 - 1).toNat) (st := []) rfl rfl (Nat.le_of_ble_eq_true rfl) rfl (by decide) (Nat.le_of_ble_eq_true rfl) (ok_Text_codeLength G (M234 66 1 - 1).toNat M234 h235) (fun r236 => ?_)
          show pm_R _ _ _ (79, [(1, .inl (M 66 3)), (0, .inr (.inr (7, 66)))], [.inl r236], 119, pm_RF, M234) _ _
          refine R_st ho 4 (q' := (83, [(2, .inl r236), (1, .inl (M 66 3)), (0, .inr (.inr (7, 66)))], [.inl 4, .inl (M 66 3), .inr (.inr (7, 66))], 119, pm_RF, M234)) rfl ?_
          refine R_ic ho rfl (tgt := 90) rfl ?_
          refine R_ne ?_ ?_
          · refine R_st ho 3 (q' := (92, [(2, .inl r236), (1, .inl (M 66 3)), (0, .inr (.inr (7, 66)))], [.inl 0, .inl 0, .inr (.inr (7, 66))], 119, pm_RF, M234)) rfl ?_
            refine R_callV ho mv_Reader_joined lk_7_65 rfl (As := [.inl 0, .inl 0]) (kd := 7) (a := 66) (st := []) rfl rfl (Nat.le_of_ble_eq_true rfl) rfl (by decide) (Nat.le_of_ble_eq_true rfl) (ok_rd0 G 100 0 0 M234) (fun r252 => ?_)
            show pm_R _ _ _ (95, [(2, .inl r236), (1, .inl (M 66 3)), (0, .inr (.inr (7, 66)))], [.inl r252.1], 119, pm_RF, r252.2) _ _
            refine R_if ho rfl (tgt := 100) rfl ?_
            refine R_ne ?_ ?_
            · refine R_st ho 1 (q' := (99, [(2, .inl r236), (1, .inl (M 66 3)), (0, .inr (.inr (7, 66)))], [.inl 0], 119, pm_RF, r252.2)) rfl ?_
              exact R_end (v := some (.inl 0)) rfl (Or.inr ⟨rfl, Or.inl rfl⟩) rfl rfl
            · refine R_st ho 1 (q' := (101, [(2, .inl r236), (1, .inl (M 66 3)), (0, .inr (.inr (7, 66)))], [.inr (.inr (7, 66))], 119, pm_RF, r252.2)) rfl ?_
              refine R_getI ho rfl rfl (fun h253 => ?_)
              refine R_st ho 3 (q' := (107, [(2, .inl r236), (1, .inl (M 66 3)), (0, .inr (.inr (7, 66)))], [.inr (.inr (7, 66)), .inl r236, .inl (M 66 3), .inr (.inr (10, (r252.2 66 1 - 1).toNat))], 119, pm_RF, r252.2)) rfl ?_
              refine R_getI ho rfl rfl (fun h254 => ?_)
              refine R_callV ho mv_Text_codeLength lk_7_61 rfl (As := []) (kd := 10) (a := (r252.2 66 1 - 1).toNat) (st := [.inl r236, .inl (M 66 3), .inr (.inr (10, (r252.2 66 1 - 1).toNat))]) rfl rfl (Nat.le_of_ble_eq_true rfl) rfl (by decide) (Nat.le_of_ble_eq_true rfl) (ok_Text_codeLength G (r252.2 66 1 - 1).toNat r252.2 h254) (fun r255 => ?_)
              show pm_R _ _ _ (113, [(2, .inl r236), (1, .inl (M 66 3)), (0, .inr (.inr (7, 66)))], [.inl r255, .inl r236, .inl (M 66 3), .inr (.inr (10, (r252.2 66 1 - 1).toNat))], 119, pm_RF, r252.2) _ _
              refine R_callV ho mv_Text_addClause lk_7_69 rfl (As := [.inl (M 66 3), .inl r236, .inl r255]) (kd := 10) (a := (r252.2 66 1 - 1).toNat) (st := []) rfl rfl (Nat.le_of_ble_eq_true rfl) rfl (by decide) (Nat.le_of_ble_eq_true rfl) (ok_Text_addClause G (r252.2 66 1 - 1).toNat (M 66 3) r236 r255 r252.2 h254) (fun M263 => ?_)
              show pm_R _ _ _ (116, [(2, .inl r236), (1, .inl (M 66 3)), (0, .inr (.inr (7, 66)))], [], 119, pm_RF, M263) _ _
              refine R_st ho 2 (q' := (119, [(2, .inl r236), (1, .inl (M 66 3)), (0, .inr (.inr (7, 66)))], [.inl 34, .inr (.inr (7, 66))], 119, pm_RF, M263)) rfl ?_
              refine R_callV ho mv_Reader_expect lk_7_73 rfl (As := [.inl 34]) (kd := 7) (a := 66) (st := []) rfl rfl (Nat.le_of_ble_eq_true rfl) rfl (by decide) (Nat.le_of_ble_eq_true rfl) (ok_Reader_expect G 34 M263 ) (fun r268 => ?_)
              show pm_R _ _ _ (122, [(2, .inl r236), (1, .inl (M 66 3)), (0, .inr (.inr (7, 66)))], [.inl r268.1], 119, pm_RF, r268.2) _ _
              exact R_gd (fun h_ => R_end (v := some (.inl r268.1)) rfl (Or.inr ⟨rfl, h_⟩) rfl rfl)
          · refine R_st ho 2 (q' := (92, [(2, .inl r236), (1, .inl (M 66 3)), (0, .inr (.inr (7, 66)))], [.inl 0, .inl 3, .inr (.inr (7, 66))], 119, pm_RF, M234)) rfl ?_
            refine R_callV ho mv_Reader_joined lk_7_65 rfl (As := [.inl 3, .inl 0]) (kd := 7) (a := 66) (st := []) rfl rfl (Nat.le_of_ble_eq_true rfl) rfl (by decide) (Nat.le_of_ble_eq_true rfl) (ok_rd0 G 100 3 0 M234) (fun r269 => ?_)
            show pm_R _ _ _ (95, [(2, .inl r236), (1, .inl (M 66 3)), (0, .inr (.inr (7, 66)))], [.inl r269.1], 119, pm_RF, r269.2) _ _
            refine R_if ho rfl (tgt := 100) rfl ?_
            refine R_ne ?_ ?_
            · refine R_st ho 1 (q' := (99, [(2, .inl r236), (1, .inl (M 66 3)), (0, .inr (.inr (7, 66)))], [.inl 0], 119, pm_RF, r269.2)) rfl ?_
              exact R_end (v := some (.inl 0)) rfl (Or.inr ⟨rfl, Or.inl rfl⟩) rfl rfl
            · refine R_st ho 1 (q' := (101, [(2, .inl r236), (1, .inl (M 66 3)), (0, .inr (.inr (7, 66)))], [.inr (.inr (7, 66))], 119, pm_RF, r269.2)) rfl ?_
              refine R_getI ho rfl rfl (fun h270 => ?_)
              refine R_st ho 3 (q' := (107, [(2, .inl r236), (1, .inl (M 66 3)), (0, .inr (.inr (7, 66)))], [.inr (.inr (7, 66)), .inl r236, .inl (M 66 3), .inr (.inr (10, (r269.2 66 1 - 1).toNat))], 119, pm_RF, r269.2)) rfl ?_
              refine R_getI ho rfl rfl (fun h271 => ?_)
              refine R_callV ho mv_Text_codeLength lk_7_61 rfl (As := []) (kd := 10) (a := (r269.2 66 1 - 1).toNat) (st := [.inl r236, .inl (M 66 3), .inr (.inr (10, (r269.2 66 1 - 1).toNat))]) rfl rfl (Nat.le_of_ble_eq_true rfl) rfl (by decide) (Nat.le_of_ble_eq_true rfl) (ok_Text_codeLength G (r269.2 66 1 - 1).toNat r269.2 h271) (fun r272 => ?_)
              show pm_R _ _ _ (113, [(2, .inl r236), (1, .inl (M 66 3)), (0, .inr (.inr (7, 66)))], [.inl r272, .inl r236, .inl (M 66 3), .inr (.inr (10, (r269.2 66 1 - 1).toNat))], 119, pm_RF, r269.2) _ _
              refine R_callV ho mv_Text_addClause lk_7_69 rfl (As := [.inl (M 66 3), .inl r236, .inl r272]) (kd := 10) (a := (r269.2 66 1 - 1).toNat) (st := []) rfl rfl (Nat.le_of_ble_eq_true rfl) rfl (by decide) (Nat.le_of_ble_eq_true rfl) (ok_Text_addClause G (r269.2 66 1 - 1).toNat (M 66 3) r236 r272 r269.2 h271) (fun M273 => ?_)
              show pm_R _ _ _ (116, [(2, .inl r236), (1, .inl (M 66 3)), (0, .inr (.inr (7, 66)))], [], 119, pm_RF, M273) _ _
              refine R_st ho 2 (q' := (119, [(2, .inl r236), (1, .inl (M 66 3)), (0, .inr (.inr (7, 66)))], [.inl 34, .inr (.inr (7, 66))], 119, pm_RF, M273)) rfl ?_
              refine R_callV ho mv_Reader_expect lk_7_73 rfl (As := [.inl 34]) (kd := 7) (a := 66) (st := []) rfl rfl (Nat.le_of_ble_eq_true rfl) rfl (by decide) (Nat.le_of_ble_eq_true rfl) (ok_Reader_expect G 34 M273 ) (fun r274 => ?_)
              show pm_R _ _ _ (122, [(2, .inl r236), (1, .inl (M 66 3)), (0, .inr (.inr (7, 66)))], [.inl r274.1], 119, pm_RF, r274.2) _ _
              exact R_gd (fun h_ => R_end (v := some (.inl r274.1)) rfl (Or.inr ⟨rfl, h_⟩) rfl rfl)
        · refine R_st ho 2 (q' := (63, [(1, .inl (M 66 3)), (0, .inr (.inr (7, 66)))], [.inl (M 66 3), .inr (.inr (7, 66))], 119, pm_RF, M233)) rfl ?_
          refine R_callV ho mv_Reader_deed lk_7_55 rfl (As := [.inl (M 66 3)]) (kd := 7) (a := 66) (st := []) rfl rfl (Nat.le_of_ble_eq_true rfl) rfl (by decide) (Nat.le_of_ble_eq_true rfl) (ok_Reader_deed G (M 66 3) M233 ) (fun r300 => ?_)
          show pm_R _ _ _ (66, [(1, .inl (M 66 3)), (0, .inr (.inr (7, 66)))], [.inl r300.1], 119, pm_RF, r300.2) _ _
          exact R_gd (fun h_ => R_end (v := some (.inl r300.1)) rfl (Or.inr ⟨rfl, h_⟩) rfl rfl)
      · refine R_st ho 2 (q' := (48, [(1, .inl (M 66 3)), (0, .inr (.inr (7, 66)))], [.inl 6, .inr (.inr (7, 66))], 119, pm_RF, M)) rfl ?_
        refine R_callV ho mv_Reader_fail lk_7_44 rfl (As := [.inl 6]) (kd := 7) (a := 66) (st := []) rfl rfl (Nat.le_of_ble_eq_true rfl) rfl (by decide) (Nat.le_of_ble_eq_true rfl) (ok_Reader_fail G 6 M ) (fun r301 => ?_)
        show pm_R _ _ _ (51, [(1, .inl (M 66 3)), (0, .inr (.inr (7, 66)))], [.inl r301.1], 119, pm_RF, r301.2) _ _
        exact R_gd (fun h_ => R_end (v := some (.inl r301.1)) rfl (Or.inr ⟨rfl, h_⟩) rfl rfl)
    · refine R_st ho 2 (q' := (31, [(1, .inl (M 66 3)), (0, .inr (.inr (7, 66)))], [.inl 4, .inr (.inr (7, 66))], 119, pm_RF, M)) rfl ?_
      refine R_callV ho mv_Reader_fail lk_7_44 rfl (As := [.inl 4]) (kd := 7) (a := 66) (st := []) rfl rfl (Nat.le_of_ble_eq_true rfl) rfl (by decide) (Nat.le_of_ble_eq_true rfl) (ok_Reader_fail G 4 M ) (fun r302 => ?_)
      show pm_R _ _ _ (34, [(1, .inl (M 66 3)), (0, .inr (.inr (7, 66)))], [.inl r302.1], 119, pm_RF, r302.2) _ _
      exact R_gd (fun h_ => R_end (v := some (.inl r302.1)) rfl (Or.inr ⟨rfl, h_⟩) rfl rfl)
  · refine R_st ho 2 (q' := (13, [(1, .inl (M 66 3)), (0, .inr (.inr (7, 66)))], [.inl 1, .inr (.inr (7, 66))], 119, pm_RF, M)) rfl ?_
    refine R_callV ho mv_Reader_fail lk_7_44 rfl (As := [.inl 1]) (kd := 7) (a := 66) (st := []) rfl rfl (Nat.le_of_ble_eq_true rfl) rfl (by decide) (Nat.le_of_ble_eq_true rfl) (ok_Reader_fail G 1 M ) (fun r303 => ?_)
    show pm_R _ _ _ (16, [(1, .inl (M 66 3)), (0, .inr (.inr (7, 66)))], [.inl r303.1], 119, pm_RF, r303.2) _ _
    exact R_gd (fun h_ => R_end (v := some (.inl r303.1)) rfl (Or.inr ⟨rfl, h_⟩) rfl rfl)
