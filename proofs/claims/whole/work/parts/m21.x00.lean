/-! printed by my own program: functions of the pure memory, and that the code follows them -/
theorem ok_Told_milesApart (G : pm_G) (x1 : Int) (x2 : Int) (M : pm_M)  : pm_R G mt_Told_milesApart 1 (0, [(0, .inr (.inr (11, 24))), (1, .inl x1), (2, .inl x2)], [], 119, pm_RF, M) (f_Told_milesApart x1 x2 M) (pm_Zr mt_Told_milesApart (pm_gi M)) := by
  have ho : pm_oG G mt_Told_milesApart := (oa_Told_milesApart).g G
  unfold f_Told_milesApart
  refine R_st ho 3 (q' := (5, [(0, .inr (.inr (11, 24))), (1, .inl x1), (2, .inl x2)], [.inl x1, .inr (.inr (20, 25))], 119, pm_RF, M)) rfl ?_
  refine R_iald ho rfl rfl ?_
  refine R_st ho 3 (q' := (11, [(0, .inr (.inr (11, 24))), (1, .inl x1), (2, .inl x2)], [.inl x2, .inr (.inr (20, 25)), .inl (M 25 (x1).toNat)], 119, pm_RF, M)) rfl ?_
  refine R_iald ho rfl rfl ?_
  refine R_st ho 1 (q' := (13, [(0, .inr (.inr (11, 24))), (1, .inl x1), (2, .inl x2)], [.inl (i_sb (M 25 (x1).toNat) (M 25 (x2).toNat))], 119, pm_RF, M)) rfl ?_
  refine R_i_ab ho lk_11_73 rfl (Nat.le_of_ble_eq_true rfl) ?_
  refine R_st ho 3 (q' := (21, [(0, .inr (.inr (11, 24))), (1, .inl x1), (2, .inl x2)], [.inl x1, .inr (.inr (20, 26)), .inl (i_ab (i_sb (M 25 (x1).toNat) (M 25 (x2).toNat)))], 119, pm_RF, M)) rfl ?_
  refine R_iald ho rfl rfl ?_
  refine R_st ho 3 (q' := (27, [(0, .inr (.inr (11, 24))), (1, .inl x1), (2, .inl x2)], [.inl x2, .inr (.inr (20, 26)), .inl (M 26 (x1).toNat), .inl (i_ab (i_sb (M 25 (x1).toNat) (M 25 (x2).toNat)))], 119, pm_RF, M)) rfl ?_
  refine R_iald ho rfl rfl ?_
  refine R_st ho 1 (q' := (29, [(0, .inr (.inr (11, 24))), (1, .inl x1), (2, .inl x2)], [.inl (i_sb (M 26 (x1).toNat) (M 26 (x2).toNat)), .inl (i_ab (i_sb (M 25 (x1).toNat) (M 25 (x2).toNat)))], 119, pm_RF, M)) rfl ?_
  refine R_i_ab ho lk_11_73 rfl (Nat.le_of_ble_eq_true rfl) ?_
  refine R_st ho 1 (q' := (33, [(0, .inr (.inr (11, 24))), (1, .inl x1), (2, .inl x2)], [.inl (i_ad (i_ab (i_sb (M 25 (x1).toNat) (M 25 (x2).toNat))) (i_ab (i_sb (M 26 (x1).toNat) (M 26 (x2).toNat))))], 119, pm_RF, M)) rfl ?_
  exact R_end (v := some (.inl (i_ad (i_ab (i_sb (M 25 (x1).toNat) (M 25 (x2).toNat))) (i_ab (i_sb (M 26 (x1).toNat) (M 26 (x2).toNat)))))) rfl (Or.inl rfl) rfl rfl
theorem ok_Told_countClose_L9 (G : pm_G)    : ∀ (n_ : Nat) (y1 : Int) (y2 : Int) (M : pm_M), pm_R G mt_Told_countClose 2 (9, [(0, .inr (.inr (11, 24))), (1, .inl y1), (2, .inl y2)], [], 119, pm_RF, M) (f_Told_countClose_L9 n_ y1 y2 M) (fun e_ q_ => q_ = (51, [], [], 119, pm_RF, e_)) := by
  have ho : pm_oG G mt_Told_countClose := (oa_Told_countClose).g G
  intro n_
  induction n_ with
  | zero => intro _ _ _; exact R_none
  | succ n_ ih_ =>
    intro y1 y2 M
    rw [f_Told_countClose_L9]
    refine R_st ho 2 (q' := (11, [(0, .inr (.inr (11, 24))), (1, .inl y1), (2, .inl y2)], [.inl y1, .inl y2], 119, pm_RF, M)) rfl ?_
    refine R_ic ho rfl (tgt := 51) rfl ?_
    refine R_ge ?_ ?_
    · refine R_pk [] rfl ?_
      exact R_ret rfl
    · refine R_st ho 3 (q' := (17, [(0, .inr (.inr (11, 24))), (1, .inl y1), (2, .inl y2)], [.inl y2, .inl y1, .inr (.inr (11, 24))], 119, pm_RF, M)) rfl ?_
      refine R_callV ho mv_Told_milesApart lk_11_53 rfl (As := [.inl y1, .inl y2]) (kd := 11) (a := 24) (st := []) rfl rfl (Nat.le_of_ble_eq_true rfl) rfl (by decide) (Nat.le_of_ble_eq_true rfl) (ok_Told_milesApart G y1 y2 M ) (fun r6 => ?_)
      show pm_R _ _ _ (20, [(0, .inr (.inr (11, 24))), (1, .inl y1), (2, .inl y2)], [.inl r6], 119, pm_RF, M) _ _
      refine R_st ho 1 (q' := (22, [(0, .inr (.inr (11, 24))), (1, .inl y1), (2, .inl y2)], [.inl 10, .inl r6], 119, pm_RF, M)) rfl ?_
      refine R_ic ho rfl (tgt := 45) rfl ?_
      refine R_gt ?_ ?_
      · refine R_st ho 2 (q' := (9, [(2, .inl (i_ad y2 1)), (0, .inr (.inr (11, 24))), (1, .inl y1)], [], 119, pm_RF, M)) rfl ?_
        refine R_pk [0, 1, 2] rfl ?_
        exact ih_ y1 (i_ad y2 1) M
      · refine R_st ho 4 (q' := (31, [(0, .inr (.inr (11, 24))), (1, .inl y1), (2, .inl y2)], [.inl y1, .inr (.inr (20, 29)), .inl y1, .inr (.inr (20, 29))], 119, pm_RF, M)) rfl ?_
        refine R_iald ho rfl rfl ?_
        refine R_st ho 2 (q' := (34, [(0, .inr (.inr (11, 24))), (1, .inl y1), (2, .inl y2)], [.inl (i_ad (M 29 (y1).toNat) 1), .inl y1, .inr (.inr (20, 29))], 119, pm_RF, M)) rfl ?_
        refine R_iast ho rfl rfl ?_
        refine R_nm fun M7 => ?_
        refine R_st ho 4 (q' := (41, [(0, .inr (.inr (11, 24))), (1, .inl y1), (2, .inl y2)], [.inl y2, .inr (.inr (20, 29)), .inl y2, .inr (.inr (20, 29))], 119, pm_RF, M7)) rfl ?_
        refine R_iald ho rfl rfl ?_
        refine R_st ho 2 (q' := (44, [(0, .inr (.inr (11, 24))), (1, .inl y1), (2, .inl y2)], [.inl (i_ad (M7 29 (y2).toNat) 1), .inl y2, .inr (.inr (20, 29))], 119, pm_RF, M7)) rfl ?_
        refine R_iast ho rfl rfl ?_
        refine R_nm fun M8 => ?_
        refine R_st ho 2 (q' := (9, [(2, .inl (i_ad y2 1)), (0, .inr (.inr (11, 24))), (1, .inl y1)], [], 119, pm_RF, M8)) rfl ?_
        refine R_pk [0, 1, 2] rfl ?_
        exact ih_ y1 (i_ad y2 1) M8
theorem ok_Told_countClose (G : pm_G) (x1 : Int) (M : pm_M)  : pm_R G mt_Told_countClose 2 (0, [(0, .inr (.inr (11, 24))), (1, .inl x1)], [], 119, pm_RF, M) (f_Told_countClose x1 M) (pm_Zr mt_Told_countClose pm_gV) := by
  have ho : pm_oG G mt_Told_countClose := (oa_Told_countClose).g G
  unfold f_Told_countClose
  refine R_st ho 4 (q' := (6, [(0, .inr (.inr (11, 24))), (1, .inl x1)], [.inl 0, .inl x1, .inr (.inr (20, 29))], 119, pm_RF, M)) rfl ?_
  refine R_iast ho rfl rfl ?_
  refine R_nm fun M5 => ?_
  refine R_st ho 2 (q' := (9, [(2, .inl 0), (0, .inr (.inr (11, 24))), (1, .inl x1)], [], 119, pm_RF, M5)) rfl ?_
  refine R_pk [0, 1, 2] rfl ?_
  refine R_bind (ok_Told_countClose_L9 G pm_F x1 0 M5) ?_
  intro e9 q_ hq_
  obtain rfl : q_ = (51, [], [], 119, pm_RF, e9) := hq_
  exact R_end (v := none) rfl rfl rfl rfl
theorem ok_Told_addPlinth (G : pm_G) (x1 : Int) (x2 : Int) (x3 : Int) (x4 : Int) (M : pm_M)  : pm_R G mt_Told_addPlinth 3 (0, [(0, .inr (.inr (11, 24))), (1, .inl x1), (2, .inl x2), (3, .inl x3), (4, .inl x4)], [], 119, pm_RF, M) (f_Told_addPlinth x1 x2 x3 x4 M) (pm_Zr mt_Told_addPlinth pm_gI) := by
  have ho : pm_oG G mt_Told_addPlinth := (oa_Told_addPlinth).g G
  unfold f_Told_addPlinth
  refine R_st ho 3 (q' := (6, [(0, .inr (.inr (11, 24))), (1, .inl x1), (2, .inl x2), (3, .inl x3), (4, .inl x4)], [.inl 8, .inl (M 24 10)], 119, pm_RF, M)) rfl ?_
  refine R_ic ho rfl (tgt := 51) rfl ?_
  refine R_ge ?_ ?_
  · refine R_st ho 1 (q' := (52, [(0, .inr (.inr (11, 24))), (1, .inl x1), (2, .inl x2), (3, .inl x3), (4, .inl x4)], [.inl (-1)], 119, pm_RF, M)) rfl ?_
    exact R_end (v := some (.inl (-1))) rfl (Or.inl rfl) rfl rfl
  · refine R_st ho 1 (q' := (10, [(0, .inr (.inr (11, 24))), (1, .inl x1), (2, .inl x2), (3, .inl x3), (4, .inl x4)], [.inl x1], 119, pm_RF, M)) rfl ?_
    refine R_if ho rfl (tgt := 51) rfl ?_
    refine R_lt ?_ ?_
    · refine R_st ho 1 (q' := (52, [(0, .inr (.inr (11, 24))), (1, .inl x1), (2, .inl x2), (3, .inl x3), (4, .inl x4)], [.inl (-1)], 119, pm_RF, M)) rfl ?_
      exact R_end (v := some (.inl (-1))) rfl (Or.inl rfl) rfl rfl
    · refine R_st ho 2 (q' := (16, [(0, .inr (.inr (11, 24))), (1, .inl x1), (2, .inl x2), (3, .inl x3), (4, .inl x4)], [.inl 99, .inl x1], 119, pm_RF, M)) rfl ?_
      refine R_ic ho rfl (tgt := 51) rfl ?_
      refine R_gt ?_ ?_
      · refine R_st ho 1 (q' := (52, [(0, .inr (.inr (11, 24))), (1, .inl x1), (2, .inl x2), (3, .inl x3), (4, .inl x4)], [.inl (-1)], 119, pm_RF, M)) rfl ?_
        exact R_end (v := some (.inl (-1))) rfl (Or.inl rfl) rfl rfl
      · refine R_st ho 1 (q' := (20, [(0, .inr (.inr (11, 24))), (1, .inl x1), (2, .inl x2), (3, .inl x3), (4, .inl x4)], [.inl x2], 119, pm_RF, M)) rfl ?_
        refine R_if ho rfl (tgt := 51) rfl ?_
        refine R_lt ?_ ?_
        · refine R_st ho 1 (q' := (52, [(0, .inr (.inr (11, 24))), (1, .inl x1), (2, .inl x2), (3, .inl x3), (4, .inl x4)], [.inl (-1)], 119, pm_RF, M)) rfl ?_
          exact R_end (v := some (.inl (-1))) rfl (Or.inl rfl) rfl rfl
        · refine R_st ho 2 (q' := (26, [(0, .inr (.inr (11, 24))), (1, .inl x1), (2, .inl x2), (3, .inl x3), (4, .inl x4)], [.inl 99, .inl x2], 119, pm_RF, M)) rfl ?_
          refine R_ic ho rfl (tgt := 51) rfl ?_
          refine R_gt ?_ ?_
          · refine R_st ho 1 (q' := (52, [(0, .inr (.inr (11, 24))), (1, .inl x1), (2, .inl x2), (3, .inl x3), (4, .inl x4)], [.inl (-1)], 119, pm_RF, M)) rfl ?_
            exact R_end (v := some (.inl (-1))) rfl (Or.inl rfl) rfl rfl
          · refine R_st ho 1 (q' := (30, [(0, .inr (.inr (11, 24))), (1, .inl x1), (2, .inl x2), (3, .inl x3), (4, .inl x4)], [.inl x3], 119, pm_RF, M)) rfl ?_
            refine R_if ho rfl (tgt := 51) rfl ?_
            refine R_lt ?_ ?_
            · refine R_st ho 1 (q' := (52, [(0, .inr (.inr (11, 24))), (1, .inl x1), (2, .inl x2), (3, .inl x3), (4, .inl x4)], [.inl (-1)], 119, pm_RF, M)) rfl ?_
              exact R_end (v := some (.inl (-1))) rfl (Or.inl rfl) rfl rfl
            · refine R_st ho 2 (q' := (36, [(0, .inr (.inr (11, 24))), (1, .inl x1), (2, .inl x2), (3, .inl x3), (4, .inl x4)], [.inl 9, .inl x3], 119, pm_RF, M)) rfl ?_
              refine R_ic ho rfl (tgt := 51) rfl ?_
              refine R_gt ?_ ?_
              · refine R_st ho 1 (q' := (52, [(0, .inr (.inr (11, 24))), (1, .inl x1), (2, .inl x2), (3, .inl x3), (4, .inl x4)], [.inl (-1)], 119, pm_RF, M)) rfl ?_
                exact R_end (v := some (.inl (-1))) rfl (Or.inl rfl) rfl rfl
              · refine R_st ho 1 (q' := (41, [(0, .inr (.inr (11, 24))), (1, .inl x1), (2, .inl x2), (3, .inl x3), (4, .inl x4)], [.inl x4], 119, pm_RF, M)) rfl ?_
                refine R_if ho rfl (tgt := 51) rfl ?_
                refine R_lt ?_ ?_
                · refine R_st ho 1 (q' := (52, [(0, .inr (.inr (11, 24))), (1, .inl x1), (2, .inl x2), (3, .inl x3), (4, .inl x4)], [.inl (-1)], 119, pm_RF, M)) rfl ?_
                  exact R_end (v := some (.inl (-1))) rfl (Or.inl rfl) rfl rfl
                · refine R_st ho 2 (q' := (48, [(0, .inr (.inr (11, 24))), (1, .inl x1), (2, .inl x2), (3, .inl x3), (4, .inl x4)], [.inl 9, .inl x4], 119, pm_RF, M)) rfl ?_
                  refine R_ic ho rfl (tgt := 53) rfl ?_
                  refine R_le ?_ ?_
                  · refine R_st ho 5 (q' := (62, [(0, .inr (.inr (11, 24))), (1, .inl x1), (2, .inl x2), (3, .inl x3), (4, .inl x4)], [.inl x1, .inl (M 24 10), .inr (.inr (20, 25))], 119, pm_RF, M)) rfl ?_
                    refine R_iast ho rfl rfl ?_
                    refine R_nm fun M1 => ?_
                    refine R_st ho 5 (q' := (72, [(0, .inr (.inr (11, 24))), (1, .inl x1), (2, .inl x2), (3, .inl x3), (4, .inl x4)], [.inl x2, .inl (M1 24 10), .inr (.inr (20, 26))], 119, pm_RF, M1)) rfl ?_
                    refine R_iast ho rfl rfl ?_
                    refine R_nm fun M2 => ?_
                    refine R_st ho 5 (q' := (82, [(0, .inr (.inr (11, 24))), (1, .inl x1), (2, .inl x2), (3, .inl x3), (4, .inl x4)], [.inl x3, .inl (M2 24 10), .inr (.inr (20, 27))], 119, pm_RF, M2)) rfl ?_
                    refine R_iast ho rfl rfl ?_
                    refine R_nm fun M3 => ?_
                    refine R_st ho 5 (q' := (93, [(0, .inr (.inr (11, 24))), (1, .inl x1), (2, .inl x2), (3, .inl x3), (4, .inl x4)], [.inl x4, .inl (M3 24 10), .inr (.inr (20, 28))], 119, pm_RF, M3)) rfl ?_
                    refine R_iast ho rfl rfl ?_
                    refine R_nm fun M4 => ?_
                    refine R_st ho 3 (q' := (99, [(0, .inr (.inr (11, 24))), (1, .inl x1), (2, .inl x2), (3, .inl x3), (4, .inl x4)], [.inl (M4 24 10), .inr (.inr (11, 24))], 119, pm_RF, M4)) rfl ?_
                    refine R_callV ho mv_Told_countClose lk_11_49 rfl (As := [.inl (M4 24 10)]) (kd := 11) (a := 24) (st := []) rfl rfl (Nat.le_of_ble_eq_true rfl) rfl (by decide) (Nat.le_of_ble_eq_true rfl) (ok_Told_countClose G (M4 24 10) M4 ) (fun M10 => ?_)
                    show pm_R _ _ _ (102, [(0, .inr (.inr (11, 24))), (1, .inl x1), (2, .inl x2), (3, .inl x3), (4, .inl x4)], [], 119, pm_RF, M10) _ _
                    refine R_st ho 6 (q' := (112, [(0, .inr (.inr (11, 24))), (1, .inl x1), (2, .inl x2), (3, .inl x3), (4, .inl x4)], [], 119, pm_RF, (pm_ms M10 24 10 (i_ad (M10 24 10) 1)))) rfl ?_
                    refine R_nm fun M11 => ?_
                    refine R_st ho 4 (q' := (118, [(0, .inr (.inr (11, 24))), (1, .inl x1), (2, .inl x2), (3, .inl x3), (4, .inl x4)], [.inl (i_sb (M11 24 10) 1)], 119, pm_RF, M11)) rfl ?_
                    exact R_end (v := some (.inl (i_sb (M11 24 10) 1))) rfl (Or.inl rfl) rfl rfl
                  · refine R_st ho 1 (q' := (52, [(0, .inr (.inr (11, 24))), (1, .inl x1), (2, .inl x2), (3, .inl x3), (4, .inl x4)], [.inl (-1)], 119, pm_RF, M)) rfl ?_
                    exact R_end (v := some (.inl (-1))) rfl (Or.inl rfl) rfl rfl
theorem ok_X_plinth (G : pm_G) (x1 : Int) (x2 : Int) (x3 : Int) (x4 : Int) (M : pm_M)  : pm_R G mt_X_plinth 4 (0, [(0, .inr (.inr (0, 0))), (1, .inl x1), (2, .inl x2), (3, .inl x3), (4, .inl x4)], [], 119, pm_RF, M) (f_X_plinth x1 x2 x3 x4 M) (pm_Zr mt_X_plinth pm_gI) := by
  have ho : pm_oG G mt_X_plinth := (oa_X_plinth).g G
  unfold f_X_plinth
  refine R_st ho 6 (q' := (9, [(0, .inr (.inr (0, 0))), (1, .inl x1), (2, .inl x2), (3, .inl x3), (4, .inl x4)], [.inl x4, .inl x3, .inl x2, .inl x1, .inr (.inr (11, 24))], 119, pm_RF, M)) rfl ?_
  refine R_callV ho mv_Told_addPlinth lk_0_105 rfl (As := [.inl x1, .inl x2, .inl x3, .inl x4]) (kd := 11) (a := 24) (st := []) rfl rfl (Nat.le_of_ble_eq_true rfl) rfl (by decide) (Nat.le_of_ble_eq_true rfl) (ok_Told_addPlinth G x1 x2 x3 x4 M ) (fun r12 => ?_)
  show pm_R _ _ _ (12, [(0, .inr (.inr (0, 0))), (1, .inl x1), (2, .inl x2), (3, .inl x3), (4, .inl x4)], [.inl r12.1], 119, pm_RF, r12.2) _ _
  exact R_end (v := some (.inl r12.1)) rfl (Or.inl rfl) rfl rfl
theorem ok_Told_addHead (G : pm_G) (x1 : Int) (x2 : Int) (M : pm_M)  : pm_R G mt_Told_addHead 1 (0, [(0, .inr (.inr (11, 24))), (1, .inl x1), (2, .inl x2)], [], 119, pm_RF, M) (f_Told_addHead x1 x2 M) (pm_Zr mt_Told_addHead pm_gI) := by
  have ho : pm_oG G mt_Told_addHead := (oa_Told_addHead).g G
  unfold f_Told_addHead
  refine R_st ho 3 (q' := (6, [(0, .inr (.inr (11, 24))), (1, .inl x1), (2, .inl x2)], [.inl 12, .inl (M 24 11)], 119, pm_RF, M)) rfl ?_
  refine R_ic ho rfl (tgt := 28) rfl ?_
  refine R_ge ?_ ?_
  · refine R_st ho 1 (q' := (29, [(0, .inr (.inr (11, 24))), (1, .inl x1), (2, .inl x2)], [.inl (-1)], 119, pm_RF, M)) rfl ?_
    exact R_end (v := some (.inl (-1))) rfl (Or.inl rfl) rfl rfl
  · refine R_st ho 1 (q' := (10, [(0, .inr (.inr (11, 24))), (1, .inl x1), (2, .inl x2)], [.inl x1], 119, pm_RF, M)) rfl ?_
    refine R_if ho rfl (tgt := 28) rfl ?_
    refine R_lt ?_ ?_
    · refine R_st ho 1 (q' := (29, [(0, .inr (.inr (11, 24))), (1, .inl x1), (2, .inl x2)], [.inl (-1)], 119, pm_RF, M)) rfl ?_
      exact R_end (v := some (.inl (-1))) rfl (Or.inl rfl) rfl rfl
    · refine R_st ho 2 (q' := (16, [(0, .inr (.inr (11, 24))), (1, .inl x1), (2, .inl x2)], [.inl 9, .inl x1], 119, pm_RF, M)) rfl ?_
      refine R_ic ho rfl (tgt := 28) rfl ?_
      refine R_gt ?_ ?_
      · refine R_st ho 1 (q' := (29, [(0, .inr (.inr (11, 24))), (1, .inl x1), (2, .inl x2)], [.inl (-1)], 119, pm_RF, M)) rfl ?_
        exact R_end (v := some (.inl (-1))) rfl (Or.inl rfl) rfl rfl
      · refine R_st ho 1 (q' := (20, [(0, .inr (.inr (11, 24))), (1, .inl x1), (2, .inl x2)], [.inl x2], 119, pm_RF, M)) rfl ?_
        refine R_if ho rfl (tgt := 28) rfl ?_
        refine R_lt ?_ ?_
        · refine R_st ho 1 (q' := (29, [(0, .inr (.inr (11, 24))), (1, .inl x1), (2, .inl x2)], [.inl (-1)], 119, pm_RF, M)) rfl ?_
          exact R_end (v := some (.inl (-1))) rfl (Or.inl rfl) rfl rfl
        · refine R_st ho 2 (q' := (25, [(0, .inr (.inr (11, 24))), (1, .inl x1), (2, .inl x2)], [.inl 3, .inl x2], 119, pm_RF, M)) rfl ?_
          refine R_ic ho rfl (tgt := 30) rfl ?_
          refine R_le ?_ ?_
          · refine R_st ho 5 (q' := (39, [(0, .inr (.inr (11, 24))), (1, .inl x1), (2, .inl x2)], [.inl x1, .inl (M 24 11), .inr (.inr (20, 30))], 119, pm_RF, M)) rfl ?_
            refine R_iast ho rfl rfl ?_
            refine R_nm fun M13 => ?_
            refine R_st ho 5 (q' := (49, [(0, .inr (.inr (11, 24))), (1, .inl x1), (2, .inl x2)], [.inl x2, .inl (M13 24 11), .inr (.inr (20, 31))], 119, pm_RF, M13)) rfl ?_
            refine R_iast ho rfl rfl ?_
            refine R_nm fun M14 => ?_
            refine R_st ho 6 (q' := (60, [(0, .inr (.inr (11, 24))), (1, .inl x1), (2, .inl x2)], [], 119, pm_RF, (pm_ms M14 24 11 (i_ad (M14 24 11) 1)))) rfl ?_
            refine R_nm fun M15 => ?_
            refine R_st ho 4 (q' := (66, [(0, .inr (.inr (11, 24))), (1, .inl x1), (2, .inl x2)], [.inl (i_sb (M15 24 11) 1)], 119, pm_RF, M15)) rfl ?_
            exact R_end (v := some (.inl (i_sb (M15 24 11) 1))) rfl (Or.inl rfl) rfl rfl
          · refine R_st ho 1 (q' := (29, [(0, .inr (.inr (11, 24))), (1, .inl x1), (2, .inl x2)], [.inl (-1)], 119, pm_RF, M)) rfl ?_
            exact R_end (v := some (.inl (-1))) rfl (Or.inl rfl) rfl rfl
theorem ok_X_head (G : pm_G) (x1 : Int) (x2 : Int) (M : pm_M)  : pm_R G mt_X_head 2 (0, [(0, .inr (.inr (0, 0))), (1, .inl x1), (2, .inl x2)], [], 119, pm_RF, M) (f_X_head x1 x2 M) (pm_Zr mt_X_head pm_gI) := by
  have ho : pm_oG G mt_X_head := (oa_X_head).g G
  unfold f_X_head
  refine R_st ho 4 (q' := (6, [(0, .inr (.inr (0, 0))), (1, .inl x1), (2, .inl x2)], [.inl x2, .inl x1, .inr (.inr (11, 24))], 119, pm_RF, M)) rfl ?_
  refine R_callV ho mv_Told_addHead lk_0_109 rfl (As := [.inl x1, .inl x2]) (kd := 11) (a := 24) (st := []) rfl rfl (Nat.le_of_ble_eq_true rfl) rfl (by decide) (Nat.le_of_ble_eq_true rfl) (ok_Told_addHead G x1 x2 M ) (fun r16 => ?_)
  show pm_R _ _ _ (9, [(0, .inr (.inr (0, 0))), (1, .inl x1), (2, .inl x2)], [.inl r16.1], 119, pm_RF, r16.2) _ _
  exact R_end (v := some (.inl r16.1)) rfl (Or.inl rfl) rfl rfl
theorem ok_Told_isHead (G : pm_G) (x1 : Int) (M : pm_M)  : pm_R G mt_Told_isHead 1 (0, [(0, .inr (.inr (11, 24))), (1, .inl x1)], [], 119, pm_RF, M) (f_Told_isHead x1 M) (pm_Zr mt_Told_isHead (pm_gi M)) := by
  have ho : pm_oG G mt_Told_isHead := (oa_Told_isHead).g G
  unfold f_Told_isHead
  refine R_st ho 1 (q' := (1, [(0, .inr (.inr (11, 24))), (1, .inl x1)], [.inl x1], 119, pm_RF, M)) rfl ?_
  refine R_if ho rfl (tgt := 16) rfl ?_
  refine R_lt ?_ ?_
  · refine R_st ho 1 (q' := (17, [(0, .inr (.inr (11, 24))), (1, .inl x1)], [.inl 0], 119, pm_RF, M)) rfl ?_
    exact R_end (v := some (.inl 0)) rfl (Or.inr ⟨rfl, Or.inl rfl⟩) rfl rfl
  · refine R_st ho 3 (q' := (9, [(0, .inr (.inr (11, 24))), (1, .inl x1)], [.inl (M 24 11), .inl x1], 119, pm_RF, M)) rfl ?_
    refine R_ic ho rfl (tgt := 16) rfl ?_
    refine R_ge ?_ ?_
    · refine R_st ho 1 (q' := (17, [(0, .inr (.inr (11, 24))), (1, .inl x1)], [.inl 0], 119, pm_RF, M)) rfl ?_
      exact R_end (v := some (.inl 0)) rfl (Or.inr ⟨rfl, Or.inl rfl⟩) rfl rfl
    · refine R_st ho 2 (q' := (17, [(0, .inr (.inr (11, 24))), (1, .inl x1)], [.inl 1], 119, pm_RF, M)) rfl ?_
      exact R_end (v := some (.inl 1)) rfl (Or.inr ⟨rfl, Or.inr rfl⟩) rfl rfl
theorem ok_Told_isPlinth (G : pm_G) (x1 : Int) (M : pm_M)  : pm_R G mt_Told_isPlinth 1 (0, [(0, .inr (.inr (11, 24))), (1, .inl x1)], [], 119, pm_RF, M) (f_Told_isPlinth x1 M) (pm_Zr mt_Told_isPlinth (pm_gi M)) := by
  have ho : pm_oG G mt_Told_isPlinth := (oa_Told_isPlinth).g G
  unfold f_Told_isPlinth
  refine R_st ho 1 (q' := (1, [(0, .inr (.inr (11, 24))), (1, .inl x1)], [.inl x1], 119, pm_RF, M)) rfl ?_
  refine R_if ho rfl (tgt := 16) rfl ?_
  refine R_lt ?_ ?_
  · refine R_st ho 1 (q' := (17, [(0, .inr (.inr (11, 24))), (1, .inl x1)], [.inl 0], 119, pm_RF, M)) rfl ?_
    exact R_end (v := some (.inl 0)) rfl (Or.inr ⟨rfl, Or.inl rfl⟩) rfl rfl
  · refine R_st ho 3 (q' := (9, [(0, .inr (.inr (11, 24))), (1, .inl x1)], [.inl (M 24 10), .inl x1], 119, pm_RF, M)) rfl ?_
    refine R_ic ho rfl (tgt := 16) rfl ?_
    refine R_ge ?_ ?_
    · refine R_st ho 1 (q' := (17, [(0, .inr (.inr (11, 24))), (1, .inl x1)], [.inl 0], 119, pm_RF, M)) rfl ?_
      exact R_end (v := some (.inl 0)) rfl (Or.inr ⟨rfl, Or.inl rfl⟩) rfl rfl
    · refine R_st ho 2 (q' := (17, [(0, .inr (.inr (11, 24))), (1, .inl x1)], [.inl 1], 119, pm_RF, M)) rfl ?_
      exact R_end (v := some (.inl 1)) rfl (Or.inr ⟨rfl, Or.inr rfl⟩) rfl rfl
theorem ok_Moment_headAt (G : pm_G) (x1 : Int) (M : pm_M)  : pm_R G mt_Moment_headAt 1 (0, [(0, .inr (.inr (4, 35))), (1, .inl x1)], [], 119, pm_RF, M) (f_Moment_headAt x1 M) (pm_Zr mt_Moment_headAt (pm_gi M)) := by
  have ho : pm_oG G mt_Moment_headAt := (oa_Moment_headAt).g G
  unfold f_Moment_headAt
  refine R_st ho 3 (q' := (5, [(0, .inr (.inr (4, 35))), (1, .inl x1)], [.inl x1, .inr (.inr (20, 36))], 119, pm_RF, M)) rfl ?_
  refine R_iald ho rfl rfl ?_
  exact R_end (v := some (.inl (M 36 (x1).toNat))) rfl (Or.inl rfl) rfl rfl
theorem ok_Moment_placeOf_L2 (G : pm_G)   (M : pm_M) : ∀ (n_ : Nat) (y1 : Int) (y2 : Int), pm_R G mt_Moment_placeOf 1 (2, [(0, .inr (.inr (4, 35))), (1, .inl y1), (2, .inl y2)], [], 119, pm_RF, M) (f_Moment_placeOf_L2 M n_ y1 y2) (fun e_ q_ => match e_ with | .inl e_ => q_ = (18, [(2, .inl e_)], [], 119, pm_RF, M) | .inr e_ => q_ = (26, [], [], 119, pm_RF, M)) := by
  have ho : pm_oG G mt_Moment_placeOf := (oa_Moment_placeOf).g G
  intro n_
  induction n_ with
  | zero => intro _ _; exact R_none
  | succ n_ ih_ =>
    intro y1 y2
    rw [f_Moment_placeOf_L2]
    refine R_st ho 2 (q' := (5, [(0, .inr (.inr (4, 35))), (1, .inl y1), (2, .inl y2)], [.inl 8, .inl y2], 119, pm_RF, M)) rfl ?_
    refine R_ic ho rfl (tgt := 26) rfl ?_
    refine R_ge ?_ ?_
    · refine R_pk [] rfl ?_
      exact R_ret rfl
    · refine R_st ho 3 (q' := (13, [(0, .inr (.inr (4, 35))), (1, .inl y1), (2, .inl y2)], [.inl y2, .inr (.inr (20, 36))], 119, pm_RF, M)) rfl ?_
      refine R_iald ho rfl rfl ?_
      refine R_st ho 1 (q' := (15, [(0, .inr (.inr (4, 35))), (1, .inl y1), (2, .inl y2)], [.inl y1, .inl (M 36 (y2).toNat)], 119, pm_RF, M)) rfl ?_
      refine R_ic ho rfl (tgt := 20) rfl ?_
      refine R_ne ?_ ?_
      · refine R_pk [2] rfl ?_
        exact R_ret rfl
      · refine R_st ho 2 (q' := (2, [(2, .inl (i_ad y2 1)), (0, .inr (.inr (4, 35))), (1, .inl y1)], [], 119, pm_RF, M)) rfl ?_
        refine R_pk [0, 1, 2] rfl ?_
        exact ih_ y1 (i_ad y2 1)
theorem ok_Moment_placeOf (G : pm_G) (x1 : Int) (M : pm_M)  : pm_R G mt_Moment_placeOf 1 (0, [(0, .inr (.inr (4, 35))), (1, .inl x1)], [], 119, pm_RF, M) (f_Moment_placeOf x1 M) (pm_Zr mt_Moment_placeOf (pm_gi M)) := by
  have ho : pm_oG G mt_Moment_placeOf := (oa_Moment_placeOf).g G
  unfold f_Moment_placeOf
  refine R_st ho 2 (q' := (2, [(2, .inl 0), (0, .inr (.inr (4, 35))), (1, .inl x1)], [], 119, pm_RF, M)) rfl ?_
  refine R_pk [0, 1, 2] rfl ?_
  refine R_bind (ok_Moment_placeOf_L2 G M pm_F x1 0) ?_
  intro e20 q_ hq_
  cases e20 with
  | inl e20 =>
    obtain rfl : q_ = (18, [(2, .inl e20)], [], 119, pm_RF, M) := hq_
    refine R_st ho 1 (q' := (19, [(2, .inl e20)], [.inl e20], 119, pm_RF, M)) rfl ?_
    exact R_end (v := some (.inl e20)) rfl (Or.inl rfl) rfl rfl
  | inr e20 =>
    obtain rfl : q_ = (26, [], [], 119, pm_RF, M) := hq_
    refine R_st ho 1 (q' := (27, [], [.inl (-1)], 119, pm_RF, M)) rfl ?_
    exact R_end (v := some (.inl (-1))) rfl (Or.inl rfl) rfl rfl
theorem ok_X_canPut (G : pm_G) (x1 : Int) (x2 : Int) (M : pm_M)  : pm_R G mt_X_canPut 2 (0, [(0, .inr (.inr (0, 0))), (1, .inl x1), (2, .inl x2)], [], 119, pm_RF, M) (f_X_canPut x1 x2 M) (pm_Zr mt_X_canPut (pm_gi M)) := by
  have ho : pm_oG G mt_X_canPut := (oa_X_canPut).g G
  unfold f_X_canPut
  refine R_st ho 3 (q' := (5, [(0, .inr (.inr (0, 0))), (1, .inl x1), (2, .inl x2)], [.inl x1, .inr (.inr (11, 24))], 119, pm_RF, M)) rfl ?_
  refine R_callV ho mv_Told_isHead lk_0_151 rfl (As := [.inl x1]) (kd := 11) (a := 24) (st := []) rfl rfl (Nat.le_of_ble_eq_true rfl) rfl (by decide) (Nat.le_of_ble_eq_true rfl) (ok_Told_isHead G x1 M ) (fun r17 => ?_)
  show pm_R _ _ _ (8, [(0, .inr (.inr (0, 0))), (1, .inl x1), (2, .inl x2)], [.inl r17], 119, pm_RF, M) _ _
  refine R_if ho rfl (tgt := 50) rfl ?_
  refine R_eq ?_ ?_
  · refine R_st ho 1 (q' := (51, [(0, .inr (.inr (0, 0))), (1, .inl x1), (2, .inl x2)], [.inl 0], 119, pm_RF, M)) rfl ?_
    exact R_end (v := some (.inl 0)) rfl (Or.inr ⟨rfl, Or.inl rfl⟩) rfl rfl
  · refine R_st ho 3 (q' := (16, [(0, .inr (.inr (0, 0))), (1, .inl x1), (2, .inl x2)], [.inl x2, .inr (.inr (11, 24))], 119, pm_RF, M)) rfl ?_
    refine R_callV ho mv_Told_isPlinth lk_0_139 rfl (As := [.inl x2]) (kd := 11) (a := 24) (st := []) rfl rfl (Nat.le_of_ble_eq_true rfl) rfl (by decide) (Nat.le_of_ble_eq_true rfl) (ok_Told_isPlinth G x2 M ) (fun r18 => ?_)
    show pm_R _ _ _ (19, [(0, .inr (.inr (0, 0))), (1, .inl x1), (2, .inl x2)], [.inl r18], 119, pm_RF, M) _ _
    refine R_if ho rfl (tgt := 50) rfl ?_
    refine R_eq ?_ ?_
    · refine R_st ho 1 (q' := (51, [(0, .inr (.inr (0, 0))), (1, .inl x1), (2, .inl x2)], [.inl 0], 119, pm_RF, M)) rfl ?_
      exact R_end (v := some (.inl 0)) rfl (Or.inr ⟨rfl, Or.inl rfl⟩) rfl rfl
    · refine R_st ho 3 (q' := (27, [(0, .inr (.inr (0, 0))), (1, .inl x1), (2, .inl x2)], [.inl x2, .inr (.inr (4, 35))], 119, pm_RF, M)) rfl ?_
      refine R_callV ho mv_Moment_headAt lk_0_129 rfl (As := [.inl x2]) (kd := 4) (a := 35) (st := []) rfl rfl (Nat.le_of_ble_eq_true rfl) rfl (by decide) (Nat.le_of_ble_eq_true rfl) (ok_Moment_headAt G x2 M ) (fun r19 => ?_)
      show pm_R _ _ _ (30, [(0, .inr (.inr (0, 0))), (1, .inl x1), (2, .inl x2)], [.inl r19], 119, pm_RF, M) _ _
      refine R_st ho 1 (q' := (31, [(0, .inr (.inr (0, 0))), (1, .inl x1), (2, .inl x2)], [.inl (-1), .inl r19], 119, pm_RF, M)) rfl ?_
      refine R_ic ho rfl (tgt := 50) rfl ?_
      refine R_ne ?_ ?_
      · refine R_st ho 3 (q' := (39, [(0, .inr (.inr (0, 0))), (1, .inl x1), (2, .inl x2)], [.inl x1, .inr (.inr (4, 35))], 119, pm_RF, M)) rfl ?_
        refine R_callV ho mv_Moment_placeOf lk_0_243 rfl (As := [.inl x1]) (kd := 4) (a := 35) (st := []) rfl rfl (Nat.le_of_ble_eq_true rfl) rfl (by decide) (Nat.le_of_ble_eq_true rfl) (ok_Moment_placeOf G x1 M ) (fun r21 => ?_)
        show pm_R _ _ _ (42, [(0, .inr (.inr (0, 0))), (1, .inl x1), (2, .inl x2)], [.inl r21], 119, pm_RF, M) _ _
        refine R_st ho 1 (q' := (43, [(0, .inr (.inr (0, 0))), (1, .inl x1), (2, .inl x2)], [.inl (-1), .inl r21], 119, pm_RF, M)) rfl ?_
        refine R_ic ho rfl (tgt := 50) rfl ?_
        refine R_ne ?_ ?_
        · refine R_st ho 2 (q' := (51, [(0, .inr (.inr (0, 0))), (1, .inl x1), (2, .inl x2)], [.inl 1], 119, pm_RF, M)) rfl ?_
          exact R_end (v := some (.inl 1)) rfl (Or.inr ⟨rfl, Or.inr rfl⟩) rfl rfl
        · refine R_st ho 1 (q' := (51, [(0, .inr (.inr (0, 0))), (1, .inl x1), (2, .inl x2)], [.inl 0], 119, pm_RF, M)) rfl ?_
          exact R_end (v := some (.inl 0)) rfl (Or.inr ⟨rfl, Or.inl rfl⟩) rfl rfl
      · refine R_st ho 1 (q' := (51, [(0, .inr (.inr (0, 0))), (1, .inl x1), (2, .inl x2)], [.inl 0], 119, pm_RF, M)) rfl ?_
        exact R_end (v := some (.inl 0)) rfl (Or.inr ⟨rfl, Or.inl rfl⟩) rfl rfl
theorem ok_Moment_copyTo (G : pm_G) (x2 : Int) (M : pm_M)  : pm_R G mt_Moment_copyTo 1 (0, [(0, .inr (.inr (4, 35))), (1, .inr (.inr (20, 2))), (2, .inl x2)], [], 119, pm_RF, M) (f_Moment_copyTo x2 M) (pm_Zr mt_Moment_copyTo pm_gV) := by
  have ho : pm_oG G mt_Moment_copyTo := (oa_Moment_copyTo).g G
  unfold f_Moment_copyTo
  refine R_st ho 6 (q' := (10, [(0, .inr (.inr (4, 35))), (1, .inr (.inr (20, 2))), (2, .inl x2)], [.inl 186, .inl x2, .inr (.inr (20, 2)), .inl 0, .inr (.inr (20, 36))], 119, pm_RF, M)) rfl ?_
  refine R_copy ho (k := 26) (st := []) rfl rfl (Nat.le_of_ble_eq_true rfl) rfl rfl ?_
  refine R_nm fun M23 => ?_
  exact R_end (v := none) rfl rfl rfl rfl
theorem ok_Steps_keep (G : pm_G)  (M : pm_M)  : pm_R G mt_Steps_keep 2 (0, [(0, .inr (.inr (8, 1))), (1, .inr (.inr (4, 35)))], [], 119, pm_RF, M) (f_Steps_keep M) (pm_Zr mt_Steps_keep pm_gV) := by
  have ho : pm_oG G mt_Steps_keep := (oa_Steps_keep).g G
  unfold f_Steps_keep
  refine R_st ho 7 (q' := (13, [(0, .inr (.inr (8, 1))), (1, .inr (.inr (4, 35)))], [.inl (i_ml (M 1 1) 186), .inr (.inr (20, 2)), .inr (.inr (4, 35))], 119, pm_RF, M)) rfl ?_
  refine R_callV ho mv_Moment_copyTo lk_8_24 rfl (As := [.inr (.inr (20, 2)), .inl (i_ml (M 1 1) 186)]) (kd := 4) (a := 35) (st := []) rfl rfl (Nat.le_of_ble_eq_true rfl) rfl (by decide) (Nat.le_of_ble_eq_true rfl) (ok_Moment_copyTo G (i_ml (M 1 1) 186) M ) (fun M24 => ?_)
  show pm_R _ _ _ (16, [(0, .inr (.inr (8, 1))), (1, .inr (.inr (4, 35)))], [], 119, pm_RF, M24) _ _
  refine R_st ho 8 (q' := (29, [(0, .inr (.inr (8, 1))), (1, .inr (.inr (4, 35)))], [], 119, pm_RF, (pm_ms M24 1 1 (i_rm (i_ad (M24 1 1) 1) 20)))) rfl ?_
  refine R_nm fun M25 => ?_
  refine R_st ho 3 (q' := (35, [(0, .inr (.inr (8, 1))), (1, .inr (.inr (4, 35)))], [.inl 20, .inl (M25 1 2)], 119, pm_RF, M25)) rfl ?_
  refine R_ic ho rfl (tgt := 48) rfl ?_
  refine R_ge ?_ ?_
  · exact R_end (v := none) rfl rfl rfl rfl
  · refine R_st ho 6 (q' := (48, [(0, .inr (.inr (8, 1))), (1, .inr (.inr (4, 35)))], [], 119, pm_RF, (pm_ms M25 1 2 (i_ad (M25 1 2) 1)))) rfl ?_
    refine R_nm fun M26 => ?_
    exact R_end (v := none) rfl rfl rfl rfl
theorem ok_Moment_stand (G : pm_G) (x1 : Int) (x2 : Int) (M : pm_M)  : pm_R G mt_Moment_stand 1 (0, [(0, .inr (.inr (4, 35))), (1, .inl x1), (2, .inl x2)], [], 119, pm_RF, M) (f_Moment_stand x1 x2 M) (pm_Zr mt_Moment_stand pm_gV) := by
  have ho : pm_oG G mt_Moment_stand := (oa_Moment_stand).g G
  unfold f_Moment_stand
  refine R_st ho 4 (q' := (6, [(0, .inr (.inr (4, 35))), (1, .inl x1), (2, .inl x2)], [.inl x2, .inl x1, .inr (.inr (20, 36))], 119, pm_RF, M)) rfl ?_
  refine R_iast ho rfl rfl ?_
  refine R_nm fun M28 => ?_
  exact R_end (v := none) rfl rfl rfl rfl
theorem ok_X_put (G : pm_G) (x1 : Int) (x2 : Int) (M : pm_M)  : pm_R G mt_X_put 3 (0, [(0, .inr (.inr (0, 0))), (1, .inl x1), (2, .inl x2)], [], 119, pm_RF, M) (f_X_put x1 x2 M) (pm_Zr mt_X_put pm_gI) := by
  have ho : pm_oG G mt_X_put := (oa_X_put).g G
  unfold f_X_put
  refine R_st ho 3 (q' := (3, [(0, .inr (.inr (0, 0))), (1, .inl x1), (2, .inl x2)], [.inl x2, .inl x1, .inr (.inr (0, 0))], 119, pm_RF, M)) rfl ?_
  refine R_callV ho mv_X_canPut lk_0_113 rfl (As := [.inl x1, .inl x2]) (kd := 0) (a := 0) (st := []) rfl rfl (Nat.le_of_ble_eq_true rfl) rfl (by decide) (Nat.le_of_ble_eq_true rfl) (ok_X_canPut G x1 x2 M ) (fun r22 => ?_)
  show pm_R _ _ _ (6, [(0, .inr (.inr (0, 0))), (1, .inl x1), (2, .inl x2)], [.inl r22], 119, pm_RF, M) _ _
  refine R_if ho rfl (tgt := 11) rfl ?_
  refine R_ne ?_ ?_
  · refine R_st ho 1 (q' := (10, [(0, .inr (.inr (0, 0))), (1, .inl x1), (2, .inl x2)], [.inl 0], 119, pm_RF, M)) rfl ?_
    exact R_end (v := some (.inl 0)) rfl (Or.inr ⟨rfl, Or.inl rfl⟩) rfl rfl
  · refine R_st ho 4 (q' := (19, [(0, .inr (.inr (0, 0))), (1, .inl x1), (2, .inl x2)], [.inr (.inr (4, 35)), .inr (.inr (8, 1))], 119, pm_RF, M)) rfl ?_
    refine R_callV ho mv_Steps_keep lk_0_117 rfl (As := [.inr (.inr (4, 35))]) (kd := 8) (a := 1) (st := []) rfl rfl (Nat.le_of_ble_eq_true rfl) rfl (by decide) (Nat.le_of_ble_eq_true rfl) (ok_Steps_keep G  M ) (fun M27 => ?_)
    show pm_R _ _ _ (22, [(0, .inr (.inr (0, 0))), (1, .inl x1), (2, .inl x2)], [], 119, pm_RF, M27) _ _
    refine R_st ho 4 (q' := (28, [(0, .inr (.inr (0, 0))), (1, .inl x1), (2, .inl x2)], [.inl x1, .inl x2, .inr (.inr (4, 35))], 119, pm_RF, M27)) rfl ?_
    refine R_callV ho mv_Moment_stand lk_0_121 rfl (As := [.inl x2, .inl x1]) (kd := 4) (a := 35) (st := []) rfl rfl (Nat.le_of_ble_eq_true rfl) rfl (by decide) (Nat.le_of_ble_eq_true rfl) (ok_Moment_stand G x2 x1 M27 ) (fun M29 => ?_)
    show pm_R _ _ _ (31, [(0, .inr (.inr (0, 0))), (1, .inl x1), (2, .inl x2)], [], 119, pm_RF, M29) _ _
    refine R_st ho 1 (q' := (32, [(0, .inr (.inr (0, 0))), (1, .inl x1), (2, .inl x2)], [.inl 1], 119, pm_RF, M29)) rfl ?_
    exact R_end (v := some (.inl 1)) rfl (Or.inr ⟨rfl, Or.inr rfl⟩) rfl rfl
theorem ok_X_canOff (G : pm_G) (x1 : Int) (M : pm_M)  : pm_R G mt_X_canOff 2 (0, [(0, .inr (.inr (0, 0))), (1, .inl x1)], [], 119, pm_RF, M) (f_X_canOff x1 M) (pm_Zr mt_X_canOff (pm_gi M)) := by
  have ho : pm_oG G mt_X_canOff := (oa_X_canOff).g G
  unfold f_X_canOff
  refine R_st ho 3 (q' := (5, [(0, .inr (.inr (0, 0))), (1, .inl x1)], [.inl x1, .inr (.inr (11, 24))], 119, pm_RF, M)) rfl ?_
  refine R_callV ho mv_Told_isPlinth lk_0_139 rfl (As := [.inl x1]) (kd := 11) (a := 24) (st := []) rfl rfl (Nat.le_of_ble_eq_true rfl) rfl (by decide) (Nat.le_of_ble_eq_true rfl) (ok_Told_isPlinth G x1 M ) (fun r30 => ?_)
  show pm_R _ _ _ (8, [(0, .inr (.inr (0, 0))), (1, .inl x1)], [.inl r30], 119, pm_RF, M) _ _
  refine R_if ho rfl (tgt := 27) rfl ?_
  refine R_eq ?_ ?_
  · refine R_st ho 1 (q' := (28, [(0, .inr (.inr (0, 0))), (1, .inl x1)], [.inl 0], 119, pm_RF, M)) rfl ?_
    exact R_end (v := some (.inl 0)) rfl (Or.inr ⟨rfl, Or.inl rfl⟩) rfl rfl
  · refine R_st ho 3 (q' := (16, [(0, .inr (.inr (0, 0))), (1, .inl x1)], [.inl x1, .inr (.inr (4, 35))], 119, pm_RF, M)) rfl ?_
    refine R_callV ho mv_Moment_headAt lk_0_129 rfl (As := [.inl x1]) (kd := 4) (a := 35) (st := []) rfl rfl (Nat.le_of_ble_eq_true rfl) rfl (by decide) (Nat.le_of_ble_eq_true rfl) (ok_Moment_headAt G x1 M ) (fun r31 => ?_)
    show pm_R _ _ _ (19, [(0, .inr (.inr (0, 0))), (1, .inl x1)], [.inl r31], 119, pm_RF, M) _ _
    refine R_st ho 1 (q' := (20, [(0, .inr (.inr (0, 0))), (1, .inl x1)], [.inl (-1), .inl r31], 119, pm_RF, M)) rfl ?_
    refine R_ic ho rfl (tgt := 27) rfl ?_
    refine R_eq ?_ ?_
    · refine R_st ho 1 (q' := (28, [(0, .inr (.inr (0, 0))), (1, .inl x1)], [.inl 0], 119, pm_RF, M)) rfl ?_
      exact R_end (v := some (.inl 0)) rfl (Or.inr ⟨rfl, Or.inl rfl⟩) rfl rfl
    · refine R_st ho 2 (q' := (28, [(0, .inr (.inr (0, 0))), (1, .inl x1)], [.inl 1], 119, pm_RF, M)) rfl ?_
      exact R_end (v := some (.inl 1)) rfl (Or.inr ⟨rfl, Or.inr rfl⟩) rfl rfl
theorem ok_X_off (G : pm_G) (x1 : Int) (M : pm_M)  : pm_R G mt_X_off 3 (0, [(0, .inr (.inr (0, 0))), (1, .inl x1)], [], 119, pm_RF, M) (f_X_off x1 M) (pm_Zr mt_X_off pm_gI) := by
  have ho : pm_oG G mt_X_off := (oa_X_off).g G
  unfold f_X_off
  refine R_st ho 2 (q' := (2, [(0, .inr (.inr (0, 0))), (1, .inl x1)], [.inl x1, .inr (.inr (0, 0))], 119, pm_RF, M)) rfl ?_
  refine R_callV ho mv_X_canOff lk_0_125 rfl (As := [.inl x1]) (kd := 0) (a := 0) (st := []) rfl rfl (Nat.le_of_ble_eq_true rfl) rfl (by decide) (Nat.le_of_ble_eq_true rfl) (ok_X_canOff G x1 M ) (fun r32 => ?_)
  show pm_R _ _ _ (5, [(0, .inr (.inr (0, 0))), (1, .inl x1)], [.inl r32], 119, pm_RF, M) _ _
  refine R_if ho rfl (tgt := 10) rfl ?_
  refine R_ne ?_ ?_
  · refine R_st ho 1 (q' := (9, [(0, .inr (.inr (0, 0))), (1, .inl x1)], [.inl (-1)], 119, pm_RF, M)) rfl ?_
    exact R_end (v := some (.inl (-1))) rfl (Or.inl rfl) rfl rfl
  · refine R_st ho 4 (q' := (18, [(0, .inr (.inr (0, 0))), (1, .inl x1)], [.inr (.inr (4, 35)), .inr (.inr (8, 1))], 119, pm_RF, M)) rfl ?_
    refine R_callV ho mv_Steps_keep lk_0_117 rfl (As := [.inr (.inr (4, 35))]) (kd := 8) (a := 1) (st := []) rfl rfl (Nat.le_of_ble_eq_true rfl) rfl (by decide) (Nat.le_of_ble_eq_true rfl) (ok_Steps_keep G  M ) (fun M33 => ?_)
    show pm_R _ _ _ (21, [(0, .inr (.inr (0, 0))), (1, .inl x1)], [], 119, pm_RF, M33) _ _
    refine R_st ho 3 (q' := (26, [(0, .inr (.inr (0, 0))), (1, .inl x1)], [.inl x1, .inr (.inr (4, 35))], 119, pm_RF, M33)) rfl ?_
    refine R_callV ho mv_Moment_headAt lk_0_129 rfl (As := [.inl x1]) (kd := 4) (a := 35) (st := []) rfl rfl (Nat.le_of_ble_eq_true rfl) rfl (by decide) (Nat.le_of_ble_eq_true rfl) (ok_Moment_headAt G x1 M33 ) (fun r34 => ?_)
    show pm_R _ _ _ (29, [(0, .inr (.inr (0, 0))), (1, .inl x1)], [.inl r34], 119, pm_RF, M33) _ _
    refine R_st ho 5 (q' := (36, [(2, .inl r34), (0, .inr (.inr (0, 0))), (1, .inl x1)], [.inl (-1), .inl x1, .inr (.inr (4, 35))], 119, pm_RF, M33)) rfl ?_
    refine R_callV ho mv_Moment_stand lk_0_121 rfl (As := [.inl x1, .inl (-1)]) (kd := 4) (a := 35) (st := []) rfl rfl (Nat.le_of_ble_eq_true rfl) rfl (by decide) (Nat.le_of_ble_eq_true rfl) (ok_Moment_stand G x1 (-1) M33 ) (fun M35 => ?_)
    show pm_R _ _ _ (39, [(2, .inl r34), (0, .inr (.inr (0, 0))), (1, .inl x1)], [], 119, pm_RF, M35) _ _
    refine R_st ho 1 (q' := (40, [(2, .inl r34), (0, .inr (.inr (0, 0))), (1, .inl x1)], [.inl r34], 119, pm_RF, M35)) rfl ?_
    exact R_end (v := some (.inl r34)) rfl (Or.inl rfl) rfl rfl
theorem ok_X_canChange (G : pm_G) (x1 : Int) (x2 : Int) (M : pm_M)  : pm_R G mt_X_canChange 2 (0, [(0, .inr (.inr (0, 0))), (1, .inl x1), (2, .inl x2)], [], 119, pm_RF, M) (f_X_canChange x1 x2 M) (pm_Zr mt_X_canChange (pm_gi M)) := by
  have ho : pm_oG G mt_X_canChange := (oa_X_canChange).g G
  unfold f_X_canChange
  refine R_st ho 3 (q' := (5, [(0, .inr (.inr (0, 0))), (1, .inl x1), (2, .inl x2)], [.inl x1, .inr (.inr (11, 24))], 119, pm_RF, M)) rfl ?_
  refine R_callV ho mv_Told_isPlinth lk_0_139 rfl (As := [.inl x1]) (kd := 11) (a := 24) (st := []) rfl rfl (Nat.le_of_ble_eq_true rfl) rfl (by decide) (Nat.le_of_ble_eq_true rfl) (ok_Told_isPlinth G x1 M ) (fun r36 => ?_)
  show pm_R _ _ _ (8, [(0, .inr (.inr (0, 0))), (1, .inl x1), (2, .inl x2)], [.inl r36], 119, pm_RF, M) _ _
  refine R_if ho rfl (tgt := 55) rfl ?_
  refine R_eq ?_ ?_
  · refine R_st ho 1 (q' := (56, [(0, .inr (.inr (0, 0))), (1, .inl x1), (2, .inl x2)], [.inl 0], 119, pm_RF, M)) rfl ?_
    exact R_end (v := some (.inl 0)) rfl (Or.inr ⟨rfl, Or.inl rfl⟩) rfl rfl
  · refine R_st ho 3 (q' := (16, [(0, .inr (.inr (0, 0))), (1, .inl x1), (2, .inl x2)], [.inl x2, .inr (.inr (11, 24))], 119, pm_RF, M)) rfl ?_
    refine R_callV ho mv_Told_isPlinth lk_0_139 rfl (As := [.inl x2]) (kd := 11) (a := 24) (st := []) rfl rfl (Nat.le_of_ble_eq_true rfl) rfl (by decide) (Nat.le_of_ble_eq_true rfl) (ok_Told_isPlinth G x2 M ) (fun r37 => ?_)
    show pm_R _ _ _ (19, [(0, .inr (.inr (0, 0))), (1, .inl x1), (2, .inl x2)], [.inl r37], 119, pm_RF, M) _ _
    refine R_if ho rfl (tgt := 55) rfl ?_
    refine R_eq ?_ ?_
    · refine R_st ho 1 (q' := (56, [(0, .inr (.inr (0, 0))), (1, .inl x1), (2, .inl x2)], [.inl 0], 119, pm_RF, M)) rfl ?_
      exact R_end (v := some (.inl 0)) rfl (Or.inr ⟨rfl, Or.inl rfl⟩) rfl rfl
    · refine R_st ho 2 (q' := (24, [(0, .inr (.inr (0, 0))), (1, .inl x1), (2, .inl x2)], [.inl x2, .inl x1], 119, pm_RF, M)) rfl ?_
      refine R_ic ho rfl (tgt := 55) rfl ?_
      refine R_eq ?_ ?_
      · refine R_st ho 1 (q' := (56, [(0, .inr (.inr (0, 0))), (1, .inl x1), (2, .inl x2)], [.inl 0], 119, pm_RF, M)) rfl ?_
        exact R_end (v := some (.inl 0)) rfl (Or.inr ⟨rfl, Or.inl rfl⟩) rfl rfl
      · refine R_st ho 3 (q' := (32, [(0, .inr (.inr (0, 0))), (1, .inl x1), (2, .inl x2)], [.inl x1, .inr (.inr (4, 35))], 119, pm_RF, M)) rfl ?_
        refine R_callV ho mv_Moment_headAt lk_0_129 rfl (As := [.inl x1]) (kd := 4) (a := 35) (st := []) rfl rfl (Nat.le_of_ble_eq_true rfl) rfl (by decide) (Nat.le_of_ble_eq_true rfl) (ok_Moment_headAt G x1 M ) (fun r38 => ?_)
        show pm_R _ _ _ (35, [(0, .inr (.inr (0, 0))), (1, .inl x1), (2, .inl x2)], [.inl r38], 119, pm_RF, M) _ _
        refine R_st ho 1 (q' := (36, [(0, .inr (.inr (0, 0))), (1, .inl x1), (2, .inl x2)], [.inl (-1), .inl r38], 119, pm_RF, M)) rfl ?_
        refine R_ic ho rfl (tgt := 51) rfl ?_
        refine R_ne ?_ ?_
        · refine R_st ho 3 (q' := (44, [(0, .inr (.inr (0, 0))), (1, .inl x1), (2, .inl x2)], [.inl x2, .inr (.inr (4, 35))], 119, pm_RF, M)) rfl ?_
          refine R_callV ho mv_Moment_headAt lk_0_129 rfl (As := [.inl x2]) (kd := 4) (a := 35) (st := []) rfl rfl (Nat.le_of_ble_eq_true rfl) rfl (by decide) (Nat.le_of_ble_eq_true rfl) (ok_Moment_headAt G x2 M ) (fun r39 => ?_)
          show pm_R _ _ _ (47, [(0, .inr (.inr (0, 0))), (1, .inl x1), (2, .inl x2)], [.inl r39], 119, pm_RF, M) _ _
          refine R_st ho 1 (q' := (48, [(0, .inr (.inr (0, 0))), (1, .inl x1), (2, .inl x2)], [.inl (-1), .inl r39], 119, pm_RF, M)) rfl ?_
          refine R_ic ho rfl (tgt := 55) rfl ?_
          refine R_eq ?_ ?_
          · refine R_st ho 1 (q' := (56, [(0, .inr (.inr (0, 0))), (1, .inl x1), (2, .inl x2)], [.inl 0], 119, pm_RF, M)) rfl ?_
            exact R_end (v := some (.inl 0)) rfl (Or.inr ⟨rfl, Or.inl rfl⟩) rfl rfl
          · refine R_st ho 2 (q' := (56, [(0, .inr (.inr (0, 0))), (1, .inl x1), (2, .inl x2)], [.inl 1], 119, pm_RF, M)) rfl ?_
            exact R_end (v := some (.inl 1)) rfl (Or.inr ⟨rfl, Or.inr rfl⟩) rfl rfl
        · refine R_st ho 2 (q' := (56, [(0, .inr (.inr (0, 0))), (1, .inl x1), (2, .inl x2)], [.inl 1], 119, pm_RF, M)) rfl ?_
          exact R_end (v := some (.inl 1)) rfl (Or.inr ⟨rfl, Or.inr rfl⟩) rfl rfl
theorem ok_Moment_swap (G : pm_G) (x1 : Int) (x2 : Int) (M : pm_M)  : pm_R G mt_Moment_swap 1 (0, [(0, .inr (.inr (4, 35))), (1, .inl x1), (2, .inl x2)], [], 119, pm_RF, M) (f_Moment_swap x1 x2 M) (pm_Zr mt_Moment_swap pm_gV) := by
  have ho : pm_oG G mt_Moment_swap := (oa_Moment_swap).g G
  unfold f_Moment_swap
  refine R_st ho 3 (q' := (5, [(0, .inr (.inr (4, 35))), (1, .inl x1), (2, .inl x2)], [.inl x1, .inr (.inr (20, 36))], 119, pm_RF, M)) rfl ?_
  refine R_iald ho rfl rfl ?_
  refine R_st ho 7 (q' := (17, [(3, .inl (M 36 (x1).toNat)), (0, .inr (.inr (4, 35))), (1, .inl x1), (2, .inl x2)], [.inl x2, .inr (.inr (20, 36)), .inl x1, .inr (.inr (20, 36))], 119, pm_RF, M)) rfl ?_
  refine R_iald ho rfl rfl ?_
  refine R_iast ho rfl rfl ?_
  refine R_nm fun M42 => ?_
  refine R_st ho 4 (q' := (25, [(3, .inl (M 36 (x1).toNat)), (0, .inr (.inr (4, 35))), (1, .inl x1), (2, .inl x2)], [.inl (M 36 (x1).toNat), .inl x2, .inr (.inr (20, 36))], 119, pm_RF, M42)) rfl ?_
  refine R_iast ho rfl rfl ?_
  refine R_nm fun M43 => ?_
  exact R_end (v := none) rfl rfl rfl rfl
theorem ok_X_change (G : pm_G) (x1 : Int) (x2 : Int) (M : pm_M)  : pm_R G mt_X_change 3 (0, [(0, .inr (.inr (0, 0))), (1, .inl x1), (2, .inl x2)], [], 119, pm_RF, M) (f_X_change x1 x2 M) (pm_Zr mt_X_change pm_gI) := by
  have ho : pm_oG G mt_X_change := (oa_X_change).g G
  unfold f_X_change
  refine R_st ho 3 (q' := (3, [(0, .inr (.inr (0, 0))), (1, .inl x1), (2, .inl x2)], [.inl x2, .inl x1, .inr (.inr (0, 0))], 119, pm_RF, M)) rfl ?_
  refine R_callV ho mv_X_canChange lk_0_133 rfl (As := [.inl x1, .inl x2]) (kd := 0) (a := 0) (st := []) rfl rfl (Nat.le_of_ble_eq_true rfl) rfl (by decide) (Nat.le_of_ble_eq_true rfl) (ok_X_canChange G x1 x2 M ) (fun r40 => ?_)
  show pm_R _ _ _ (6, [(0, .inr (.inr (0, 0))), (1, .inl x1), (2, .inl x2)], [.inl r40], 119, pm_RF, M) _ _
  refine R_if ho rfl (tgt := 11) rfl ?_
  refine R_ne ?_ ?_
  · refine R_st ho 1 (q' := (10, [(0, .inr (.inr (0, 0))), (1, .inl x1), (2, .inl x2)], [.inl 0], 119, pm_RF, M)) rfl ?_
    exact R_end (v := some (.inl 0)) rfl (Or.inr ⟨rfl, Or.inl rfl⟩) rfl rfl
  · refine R_st ho 4 (q' := (19, [(0, .inr (.inr (0, 0))), (1, .inl x1), (2, .inl x2)], [.inr (.inr (4, 35)), .inr (.inr (8, 1))], 119, pm_RF, M)) rfl ?_
    refine R_callV ho mv_Steps_keep lk_0_117 rfl (As := [.inr (.inr (4, 35))]) (kd := 8) (a := 1) (st := []) rfl rfl (Nat.le_of_ble_eq_true rfl) rfl (by decide) (Nat.le_of_ble_eq_true rfl) (ok_Steps_keep G  M ) (fun M41 => ?_)
    show pm_R _ _ _ (22, [(0, .inr (.inr (0, 0))), (1, .inl x1), (2, .inl x2)], [], 119, pm_RF, M41) _ _
    refine R_st ho 4 (q' := (28, [(0, .inr (.inr (0, 0))), (1, .inl x1), (2, .inl x2)], [.inl x2, .inl x1, .inr (.inr (4, 35))], 119, pm_RF, M41)) rfl ?_
    refine R_callV ho mv_Moment_swap lk_0_136 rfl (As := [.inl x1, .inl x2]) (kd := 4) (a := 35) (st := []) rfl rfl (Nat.le_of_ble_eq_true rfl) rfl (by decide) (Nat.le_of_ble_eq_true rfl) (ok_Moment_swap G x1 x2 M41 ) (fun M44 => ?_)
    show pm_R _ _ _ (31, [(0, .inr (.inr (0, 0))), (1, .inl x1), (2, .inl x2)], [], 119, pm_RF, M44) _ _
    refine R_st ho 1 (q' := (32, [(0, .inr (.inr (0, 0))), (1, .inl x1), (2, .inl x2)], [.inl 1], 119, pm_RF, M44)) rfl ?_
    exact R_end (v := some (.inl 1)) rfl (Or.inr ⟨rfl, Or.inr rfl⟩) rfl rfl
theorem ok_X_isName (G : pm_G) (x0 : Int) (M : pm_M)  : pm_R G mt_X_isName 1 (0, [(0, .inl x0)], [], 119, pm_RF, M) (f_X_isName x0 M) (pm_Zr mt_X_isName (pm_gi M)) := by
  have ho : pm_oG G mt_X_isName := (oa_X_isName).g G
  unfold f_X_isName
  refine R_st ho 2 (q' := (2, [(0, .inl x0)], [.inl (-1), .inl x0], 119, pm_RF, M)) rfl ?_
  refine R_ic ho rfl (tgt := 15) rfl ?_
  refine R_lt ?_ ?_
  · refine R_st ho 1 (q' := (16, [(0, .inl x0)], [.inl 0], 119, pm_RF, M)) rfl ?_
    exact R_end (v := some (.inl 0)) rfl (Or.inr ⟨rfl, Or.inl rfl⟩) rfl rfl
  · refine R_st ho 2 (q' := (8, [(0, .inl x0)], [.inl 12, .inl x0], 119, pm_RF, M)) rfl ?_
    refine R_ic ho rfl (tgt := 15) rfl ?_
    refine R_ge ?_ ?_
    · refine R_st ho 1 (q' := (16, [(0, .inl x0)], [.inl 0], 119, pm_RF, M)) rfl ?_
      exact R_end (v := some (.inl 0)) rfl (Or.inr ⟨rfl, Or.inl rfl⟩) rfl rfl
    · refine R_st ho 2 (q' := (16, [(0, .inl x0)], [.inl 1], 119, pm_RF, M)) rfl ?_
      exact R_end (v := some (.inl 1)) rfl (Or.inr ⟨rfl, Or.inr rfl⟩) rfl rfl
theorem ok_Moment_nameAt (G : pm_G) (x1 : Int) (M : pm_M)  : pm_R G mt_Moment_nameAt 1 (0, [(0, .inr (.inr (4, 35))), (1, .inl x1)], [], 119, pm_RF, M) (f_Moment_nameAt x1 M) (pm_Zr mt_Moment_nameAt (pm_gi M)) := by
  have ho : pm_oG G mt_Moment_nameAt := (oa_Moment_nameAt).g G
  unfold f_Moment_nameAt
  refine R_st ho 5 (q' := (8, [(0, .inr (.inr (4, 35))), (1, .inl x1)], [.inl (i_ad 8 x1), .inr (.inr (20, 36))], 119, pm_RF, M)) rfl ?_
  refine R_iald ho rfl rfl ?_
  exact R_end (v := some (.inl (M 36 ((i_ad 8 x1)).toNat))) rfl (Or.inl rfl) rfl rfl
theorem ok_Moment_engrave (G : pm_G) (x1 : Int) (x2 : Int) (M : pm_M)  : pm_R G mt_Moment_engrave 1 (0, [(0, .inr (.inr (4, 35))), (1, .inl x1), (2, .inl x2)], [], 119, pm_RF, M) (f_Moment_engrave x1 x2 M) (pm_Zr mt_Moment_engrave pm_gV) := by
  have ho : pm_oG G mt_Moment_engrave := (oa_Moment_engrave).g G
  unfold f_Moment_engrave
  refine R_st ho 6 (q' := (9, [(0, .inr (.inr (4, 35))), (1, .inl x1), (2, .inl x2)], [.inl x2, .inl (i_ad 8 x1), .inr (.inr (20, 36))], 119, pm_RF, M)) rfl ?_
  refine R_iast ho rfl rfl ?_
  refine R_nm fun M49 => ?_
  exact R_end (v := none) rfl rfl rfl rfl
theorem ok_X_carve (G : pm_G) (x1 : Int) (x2 : Int) (M : pm_M)  : pm_R G mt_X_carve 3 (0, [(0, .inr (.inr (0, 0))), (1, .inl x1), (2, .inl x2)], [], 119, pm_RF, M) (f_X_carve x1 x2 M) (pm_Zr mt_X_carve pm_gI) := by
  have ho : pm_oG G mt_X_carve := (oa_X_carve).g G
  unfold f_X_carve
  refine R_st ho 3 (q' := (5, [(0, .inr (.inr (0, 0))), (1, .inl x1), (2, .inl x2)], [.inl x1, .inr (.inr (11, 24))], 119, pm_RF, M)) rfl ?_
  refine R_callV ho mv_Told_isPlinth lk_0_139 rfl (As := [.inl x1]) (kd := 11) (a := 24) (st := []) rfl rfl (Nat.le_of_ble_eq_true rfl) rfl (by decide) (Nat.le_of_ble_eq_true rfl) (ok_Told_isPlinth G x1 M ) (fun r45 => ?_)
  show pm_R _ _ _ (8, [(0, .inr (.inr (0, 0))), (1, .inl x1), (2, .inl x2)], [.inl r45], 119, pm_RF, M) _ _
  refine R_if ho rfl (tgt := 30) rfl ?_
  refine R_eq ?_ ?_
  · refine R_st ho 1 (q' := (31, [(0, .inr (.inr (0, 0))), (1, .inl x1), (2, .inl x2)], [.inl 0], 119, pm_RF, M)) rfl ?_
    exact R_end (v := some (.inl 0)) rfl (Or.inr ⟨rfl, Or.inl rfl⟩) rfl rfl
  · refine R_st ho 1 (q' := (12, [(0, .inr (.inr (0, 0))), (1, .inl x1), (2, .inl x2)], [.inl x2], 119, pm_RF, M)) rfl ?_
    refine R_callS ho ms_X_isName lk_0_142 rfl (As := [.inl x2]) (st := []) rfl (Nat.le_of_ble_eq_true rfl) rfl (by decide) (Nat.le_of_ble_eq_true rfl) (ok_X_isName G x2 M ) (fun r46 => ?_)
    show pm_R _ _ _ (15, [(0, .inr (.inr (0, 0))), (1, .inl x1), (2, .inl x2)], [.inl r46], 119, pm_RF, M) _ _
    refine R_if ho rfl (tgt := 30) rfl ?_
    refine R_eq ?_ ?_
    · refine R_st ho 1 (q' := (31, [(0, .inr (.inr (0, 0))), (1, .inl x1), (2, .inl x2)], [.inl 0], 119, pm_RF, M)) rfl ?_
      exact R_end (v := some (.inl 0)) rfl (Or.inr ⟨rfl, Or.inl rfl⟩) rfl rfl
    · refine R_st ho 3 (q' := (23, [(0, .inr (.inr (0, 0))), (1, .inl x1), (2, .inl x2)], [.inl x1, .inr (.inr (4, 35))], 119, pm_RF, M)) rfl ?_
      refine R_callV ho mv_Moment_nameAt lk_0_145 rfl (As := [.inl x1]) (kd := 4) (a := 35) (st := []) rfl rfl (Nat.le_of_ble_eq_true rfl) rfl (by decide) (Nat.le_of_ble_eq_true rfl) (ok_Moment_nameAt G x1 M ) (fun r47 => ?_)
      show pm_R _ _ _ (26, [(0, .inr (.inr (0, 0))), (1, .inl x1), (2, .inl x2)], [.inl r47], 119, pm_RF, M) _ _
      refine R_st ho 1 (q' := (27, [(0, .inr (.inr (0, 0))), (1, .inl x1), (2, .inl x2)], [.inl x2, .inl r47], 119, pm_RF, M)) rfl ?_
      refine R_ic ho rfl (tgt := 32) rfl ?_
      refine R_ne ?_ ?_
      · refine R_st ho 1 (q' := (31, [(0, .inr (.inr (0, 0))), (1, .inl x1), (2, .inl x2)], [.inl 0], 119, pm_RF, M)) rfl ?_
        exact R_end (v := some (.inl 0)) rfl (Or.inr ⟨rfl, Or.inl rfl⟩) rfl rfl
      · refine R_st ho 4 (q' := (40, [(0, .inr (.inr (0, 0))), (1, .inl x1), (2, .inl x2)], [.inr (.inr (4, 35)), .inr (.inr (8, 1))], 119, pm_RF, M)) rfl ?_
        refine R_callV ho mv_Steps_keep lk_0_117 rfl (As := [.inr (.inr (4, 35))]) (kd := 8) (a := 1) (st := []) rfl rfl (Nat.le_of_ble_eq_true rfl) rfl (by decide) (Nat.le_of_ble_eq_true rfl) (ok_Steps_keep G  M ) (fun M48 => ?_)
        show pm_R _ _ _ (43, [(0, .inr (.inr (0, 0))), (1, .inl x1), (2, .inl x2)], [], 119, pm_RF, M48) _ _
        refine R_st ho 4 (q' := (49, [(0, .inr (.inr (0, 0))), (1, .inl x1), (2, .inl x2)], [.inl x2, .inl x1, .inr (.inr (4, 35))], 119, pm_RF, M48)) rfl ?_
        refine R_callV ho mv_Moment_engrave lk_0_148 rfl (As := [.inl x1, .inl x2]) (kd := 4) (a := 35) (st := []) rfl rfl (Nat.le_of_ble_eq_true rfl) rfl (by decide) (Nat.le_of_ble_eq_true rfl) (ok_Moment_engrave G x1 x2 M48 ) (fun M50 => ?_)
        show pm_R _ _ _ (52, [(0, .inr (.inr (0, 0))), (1, .inl x1), (2, .inl x2)], [], 119, pm_RF, M50) _ _
        refine R_st ho 1 (q' := (53, [(0, .inr (.inr (0, 0))), (1, .inl x1), (2, .inl x2)], [.inl 1], 119, pm_RF, M50)) rfl ?_
        exact R_end (v := some (.inl 1)) rfl (Or.inr ⟨rfl, Or.inr rfl⟩) rfl rfl
theorem ok_Moment_debt (G : pm_G) (x1 : Int) (M : pm_M)  : pm_R G mt_Moment_debt 1 (0, [(0, .inr (.inr (4, 35))), (1, .inl x1)], [], 119, pm_RF, M) (f_Moment_debt x1 M) (pm_Zr mt_Moment_debt (pm_gi M)) := by
  have ho : pm_oG G mt_Moment_debt := (oa_Moment_debt).g G
  unfold f_Moment_debt
  refine R_st ho 5 (q' := (8, [(0, .inr (.inr (4, 35))), (1, .inl x1)], [.inl (i_ad 16 x1), .inr (.inr (20, 36))], 119, pm_RF, M)) rfl ?_
  refine R_iald ho rfl rfl ?_
  exact R_end (v := some (.inl (M 36 ((i_ad 16 x1)).toNat))) rfl (Or.inl rfl) rfl rfl
theorem ok_Moment_purse (G : pm_G)  (M : pm_M)  : pm_R G mt_Moment_purse 1 (0, [(0, .inr (.inr (4, 35)))], [], 119, pm_RF, M) (f_Moment_purse M) (pm_Zr mt_Moment_purse (pm_gi M)) := by
  have ho : pm_oG G mt_Moment_purse := (oa_Moment_purse).g G
  unfold f_Moment_purse
  refine R_st ho 4 (q' := (7, [(0, .inr (.inr (4, 35)))], [.inl (M 36 28)], 119, pm_RF, M)) rfl ?_
  exact R_end (v := some (.inl (M 36 28))) rfl (Or.inl rfl) rfl rfl
theorem ok_Moment_owe (G : pm_G) (x1 : Int) (x2 : Int) (M : pm_M)  : pm_R G mt_Moment_owe 1 (0, [(0, .inr (.inr (4, 35))), (1, .inl x1), (2, .inl x2)], [], 119, pm_RF, M) (f_Moment_owe x1 x2 M) (pm_Zr mt_Moment_owe pm_gV) := by
  have ho : pm_oG G mt_Moment_owe := (oa_Moment_owe).g G
  unfold f_Moment_owe
  refine R_st ho 6 (q' := (9, [(0, .inr (.inr (4, 35))), (1, .inl x1), (2, .inl x2)], [.inl (i_ad 16 x1), .inr (.inr (20, 36)), .inl (i_ad 16 x1), .inr (.inr (20, 36))], 119, pm_RF, M)) rfl ?_
  refine R_iald ho rfl rfl ?_
  refine R_st ho 2 (q' := (12, [(0, .inr (.inr (4, 35))), (1, .inl x1), (2, .inl x2)], [.inl (i_ad (M 36 ((i_ad 16 x1)).toNat) x2), .inl (i_ad 16 x1), .inr (.inr (20, 36))], 119, pm_RF, M)) rfl ?_
  refine R_iast ho rfl rfl ?_
  refine R_nm fun M55 => ?_
  exact R_end (v := none) rfl rfl rfl rfl
theorem ok_Moment_earn (G : pm_G) (x1 : Int) (M : pm_M)  : pm_R G mt_Moment_earn 1 (0, [(0, .inr (.inr (4, 35))), (1, .inl x1)], [], 119, pm_RF, M) (f_Moment_earn x1 M) (pm_Zr mt_Moment_earn pm_gV) := by
  have ho : pm_oG G mt_Moment_earn := (oa_Moment_earn).g G
  unfold f_Moment_earn
  refine R_st ho 8 (q' := (11, [(0, .inr (.inr (4, 35))), (1, .inl x1)], [], 119, pm_RF, (pm_ms M 36 28 (i_ad (M 36 28) x1)))) rfl ?_
  refine R_nm fun M57 => ?_
  exact R_end (v := none) rfl rfl rfl rfl
theorem ok_X_pay (G : pm_G) (x1 : Int) (x2 : Int) (M : pm_M)  : pm_R G mt_X_pay 3 (0, [(0, .inr (.inr (0, 0))), (1, .inl x1), (2, .inl x2)], [], 119, pm_RF, M) (f_X_pay x1 x2 M) (pm_Zr mt_X_pay pm_gI) := by
  have ho : pm_oG G mt_X_pay := (oa_X_pay).g G
  unfold f_X_pay
  refine R_st ho 3 (q' := (5, [(0, .inr (.inr (0, 0))), (1, .inl x1), (2, .inl x2)], [.inl x1, .inr (.inr (11, 24))], 119, pm_RF, M)) rfl ?_
  refine R_callV ho mv_Told_isHead lk_0_151 rfl (As := [.inl x1]) (kd := 11) (a := 24) (st := []) rfl rfl (Nat.le_of_ble_eq_true rfl) rfl (by decide) (Nat.le_of_ble_eq_true rfl) (ok_Told_isHead G x1 M ) (fun r51 => ?_)
  show pm_R _ _ _ (8, [(0, .inr (.inr (0, 0))), (1, .inl x1), (2, .inl x2)], [.inl r51], 119, pm_RF, M) _ _
  refine R_if ho rfl (tgt := 46) rfl ?_
  refine R_eq ?_ ?_
  · refine R_st ho 1 (q' := (47, [(0, .inr (.inr (0, 0))), (1, .inl x1), (2, .inl x2)], [.inl (-1)], 119, pm_RF, M)) rfl ?_
    exact R_end (v := some (.inl (-1))) rfl (Or.inl rfl) rfl rfl
  · refine R_st ho 2 (q' := (13, [(0, .inr (.inr (0, 0))), (1, .inl x1), (2, .inl x2)], [.inl 1, .inl x2], 119, pm_RF, M)) rfl ?_
    refine R_ic ho rfl (tgt := 46) rfl ?_
    refine R_lt ?_ ?_
    · refine R_st ho 1 (q' := (47, [(0, .inr (.inr (0, 0))), (1, .inl x1), (2, .inl x2)], [.inl (-1)], 119, pm_RF, M)) rfl ?_
      exact R_end (v := some (.inl (-1))) rfl (Or.inl rfl) rfl rfl
    · refine R_st ho 2 (q' := (20, [(0, .inr (.inr (0, 0))), (1, .inl x1), (2, .inl x2)], [.inl 9999, .inl x2], 119, pm_RF, M)) rfl ?_
      refine R_ic ho rfl (tgt := 46) rfl ?_
      refine R_gt ?_ ?_
      · refine R_st ho 1 (q' := (47, [(0, .inr (.inr (0, 0))), (1, .inl x1), (2, .inl x2)], [.inl (-1)], 119, pm_RF, M)) rfl ?_
        exact R_end (v := some (.inl (-1))) rfl (Or.inl rfl) rfl rfl
      · refine R_st ho 3 (q' := (28, [(0, .inr (.inr (0, 0))), (1, .inl x1), (2, .inl x2)], [.inl x1, .inr (.inr (4, 35))], 119, pm_RF, M)) rfl ?_
        refine R_callV ho mv_Moment_debt lk_0_154 rfl (As := [.inl x1]) (kd := 4) (a := 35) (st := []) rfl rfl (Nat.le_of_ble_eq_true rfl) rfl (by decide) (Nat.le_of_ble_eq_true rfl) (ok_Moment_debt G x1 M ) (fun r52 => ?_)
        show pm_R _ _ _ (31, [(0, .inr (.inr (0, 0))), (1, .inl x1), (2, .inl x2)], [.inl r52], 119, pm_RF, M) _ _
        refine R_st ho 1 (q' := (32, [(0, .inr (.inr (0, 0))), (1, .inl x1), (2, .inl x2)], [.inl x2, .inl r52], 119, pm_RF, M)) rfl ?_
        refine R_ic ho rfl (tgt := 46) rfl ?_
        refine R_lt ?_ ?_
        · refine R_st ho 1 (q' := (47, [(0, .inr (.inr (0, 0))), (1, .inl x1), (2, .inl x2)], [.inl (-1)], 119, pm_RF, M)) rfl ?_
          exact R_end (v := some (.inl (-1))) rfl (Or.inl rfl) rfl rfl
        · refine R_st ho 2 (q' := (39, [(0, .inr (.inr (0, 0))), (1, .inl x1), (2, .inl x2)], [.inr (.inr (4, 35))], 119, pm_RF, M)) rfl ?_
          refine R_callV ho mv_Moment_purse lk_0_157 rfl (As := []) (kd := 4) (a := 35) (st := []) rfl rfl (Nat.le_of_ble_eq_true rfl) rfl (by decide) (Nat.le_of_ble_eq_true rfl) (ok_Moment_purse G  M ) (fun r53 => ?_)
          show pm_R _ _ _ (42, [(0, .inr (.inr (0, 0))), (1, .inl x1), (2, .inl x2)], [.inl r53], 119, pm_RF, M) _ _
          refine R_st ho 1 (q' := (43, [(0, .inr (.inr (0, 0))), (1, .inl x1), (2, .inl x2)], [.inl x2, .inl r53], 119, pm_RF, M)) rfl ?_
          refine R_ic ho rfl (tgt := 48) rfl ?_
          refine R_ge ?_ ?_
          · refine R_st ho 4 (q' := (56, [(0, .inr (.inr (0, 0))), (1, .inl x1), (2, .inl x2)], [.inr (.inr (4, 35)), .inr (.inr (8, 1))], 119, pm_RF, M)) rfl ?_
            refine R_callV ho mv_Steps_keep lk_0_117 rfl (As := [.inr (.inr (4, 35))]) (kd := 8) (a := 1) (st := []) rfl rfl (Nat.le_of_ble_eq_true rfl) rfl (by decide) (Nat.le_of_ble_eq_true rfl) (ok_Steps_keep G  M ) (fun M54 => ?_)
            show pm_R _ _ _ (59, [(0, .inr (.inr (0, 0))), (1, .inl x1), (2, .inl x2)], [], 119, pm_RF, M54) _ _
            refine R_st ho 5 (q' := (66, [(0, .inr (.inr (0, 0))), (1, .inl x1), (2, .inl x2)], [.inl (i_ng x2), .inl x1, .inr (.inr (4, 35))], 119, pm_RF, M54)) rfl ?_
            refine R_callV ho mv_Moment_owe lk_0_161 rfl (As := [.inl x1, .inl (i_ng x2)]) (kd := 4) (a := 35) (st := []) rfl rfl (Nat.le_of_ble_eq_true rfl) rfl (by decide) (Nat.le_of_ble_eq_true rfl) (ok_Moment_owe G x1 (i_ng x2) M54 ) (fun M56 => ?_)
            show pm_R _ _ _ (69, [(0, .inr (.inr (0, 0))), (1, .inl x1), (2, .inl x2)], [], 119, pm_RF, M56) _ _
            refine R_st ho 4 (q' := (75, [(0, .inr (.inr (0, 0))), (1, .inl x1), (2, .inl x2)], [.inl (i_ng x2), .inr (.inr (4, 35))], 119, pm_RF, M56)) rfl ?_
            refine R_callV ho mv_Moment_earn lk_0_164 rfl (As := [.inl (i_ng x2)]) (kd := 4) (a := 35) (st := []) rfl rfl (Nat.le_of_ble_eq_true rfl) rfl (by decide) (Nat.le_of_ble_eq_true rfl) (ok_Moment_earn G (i_ng x2) M56 ) (fun M58 => ?_)
            show pm_R _ _ _ (78, [(0, .inr (.inr (0, 0))), (1, .inl x1), (2, .inl x2)], [], 119, pm_RF, M58) _ _
            refine R_st ho 3 (q' := (83, [(0, .inr (.inr (0, 0))), (1, .inl x1), (2, .inl x2)], [.inl x1, .inr (.inr (4, 35))], 119, pm_RF, M58)) rfl ?_
            refine R_callV ho mv_Moment_debt lk_0_154 rfl (As := [.inl x1]) (kd := 4) (a := 35) (st := []) rfl rfl (Nat.le_of_ble_eq_true rfl) rfl (by decide) (Nat.le_of_ble_eq_true rfl) (ok_Moment_debt G x1 M58 ) (fun r59 => ?_)
            show pm_R _ _ _ (86, [(0, .inr (.inr (0, 0))), (1, .inl x1), (2, .inl x2)], [.inl r59], 119, pm_RF, M58) _ _
            exact R_end (v := some (.inl r59)) rfl (Or.inl rfl) rfl rfl
          · refine R_st ho 1 (q' := (47, [(0, .inr (.inr (0, 0))), (1, .inl x1), (2, .inl x2)], [.inl (-1)], 119, pm_RF, M)) rfl ?_
            exact R_end (v := some (.inl (-1))) rfl (Or.inl rfl) rfl rfl
theorem ok_Moment_day (G : pm_G)  (M : pm_M)  : pm_R G mt_Moment_day 1 (0, [(0, .inr (.inr (4, 35)))], [], 119, pm_RF, M) (f_Moment_day M) (pm_Zr mt_Moment_day (pm_gi M)) := by
  have ho : pm_oG G mt_Moment_day := (oa_Moment_day).g G
  unfold f_Moment_day
  refine R_st ho 4 (q' := (7, [(0, .inr (.inr (4, 35)))], [.inl (M 36 29)], 119, pm_RF, M)) rfl ?_
  exact R_end (v := some (.inl (M 36 29))) rfl (Or.inl rfl) rfl rfl
theorem ok_Told_plinths (G : pm_G)  (M : pm_M)  : pm_R G mt_Told_plinths 1 (0, [(0, .inr (.inr (11, 24)))], [], 119, pm_RF, M) (f_Told_plinths M) (pm_Zr mt_Told_plinths (pm_gi M)) := by
  have ho : pm_oG G mt_Told_plinths := (oa_Told_plinths).g G
  unfold f_Told_plinths
  refine R_st ho 2 (q' := (4, [(0, .inr (.inr (11, 24)))], [.inl (M 24 10)], 119, pm_RF, M)) rfl ?_
  exact R_end (v := some (.inl (M 24 10))) rfl (Or.inl rfl) rfl rfl
theorem ok_Told_ruling (G : pm_G)  (M : pm_M)  : pm_R G mt_Told_ruling 1 (0, [(0, .inr (.inr (11, 24)))], [], 119, pm_RF, M) (f_Told_ruling M) (pm_Zr mt_Told_ruling (pm_gi M)) := by
  have ho : pm_oG G mt_Told_ruling := (oa_Told_ruling).g G
  unfold f_Told_ruling
  refine R_st ho 2 (q' := (4, [(0, .inr (.inr (11, 24)))], [.inl (M 24 14)], 119, pm_RF, M)) rfl ?_
  exact R_end (v := some (.inl (M 24 14))) rfl (Or.inl rfl) rfl rfl
theorem ok_Told_isText (G : pm_G) (x1 : Int) (M : pm_M)  : pm_R G mt_Told_isText 1 (0, [(0, .inr (.inr (11, 24))), (1, .inl x1)], [], 119, pm_RF, M) (f_Told_isText x1 M) (pm_Zr mt_Told_isText (pm_gi M)) := by
  have ho : pm_oG G mt_Told_isText := (oa_Told_isText).g G
  unfold f_Told_isText
  refine R_st ho 1 (q' := (1, [(0, .inr (.inr (11, 24))), (1, .inl x1)], [.inl x1], 119, pm_RF, M)) rfl ?_
  refine R_if ho rfl (tgt := 16) rfl ?_
  refine R_lt ?_ ?_
  · refine R_st ho 1 (q' := (17, [(0, .inr (.inr (11, 24))), (1, .inl x1)], [.inl 0], 119, pm_RF, M)) rfl ?_
    exact R_end (v := some (.inl 0)) rfl (Or.inr ⟨rfl, Or.inl rfl⟩) rfl rfl
  · refine R_st ho 3 (q' := (9, [(0, .inr (.inr (11, 24))), (1, .inl x1)], [.inl (M 24 13), .inl x1], 119, pm_RF, M)) rfl ?_
    refine R_ic ho rfl (tgt := 16) rfl ?_
    refine R_ge ?_ ?_
    · refine R_st ho 1 (q' := (17, [(0, .inr (.inr (11, 24))), (1, .inl x1)], [.inl 0], 119, pm_RF, M)) rfl ?_
      exact R_end (v := some (.inl 0)) rfl (Or.inr ⟨rfl, Or.inl rfl⟩) rfl rfl
    · refine R_st ho 2 (q' := (17, [(0, .inr (.inr (11, 24))), (1, .inl x1)], [.inl 1], 119, pm_RF, M)) rfl ?_
      exact R_end (v := some (.inl 1)) rfl (Or.inr ⟨rfl, Or.inr rfl⟩) rfl rfl
theorem ok_Text_clauseOf (G : pm_G) (t0 : Nat) (x1 : Int) (M : pm_M) (ht0 : pm_isT t0) : pm_R G mt_Text_clauseOf 1 (0, [(0, .inr (.inr (10, t0))), (1, .inl x1)], [], 119, pm_RF, M) (f_Text_clauseOf t0 x1 M) (pm_Zr mt_Text_clauseOf (pm_gi M)) := by
  have ho : pm_oG G mt_Text_clauseOf := (oa_Text_clauseOf).g G
  unfold f_Text_clauseOf
  refine R_st ho 1 (q' := (1, [(0, .inr (.inr (10, t0))), (1, .inl x1)], [.inl x1], 119, pm_RF, M)) rfl ?_
  refine R_if ho rfl (tgt := 22) rfl ?_
  refine R_lt ?_ ?_
  · refine R_st ho 1 (q' := (23, [(0, .inr (.inr (10, t0))), (1, .inl x1)], [.inl (-1)], 119, pm_RF, M)) rfl ?_
    exact R_end (v := some (.inl (-1))) rfl (Or.inl rfl) rfl rfl
  · refine R_st ho 2 (q' := (6, [(0, .inr (.inr (10, t0))), (1, .inl x1)], [.inr (.inr (10, t0)), .inl x1], 119, pm_RF, M)) rfl ?_
    refine R_getT ho rfl rfl (f := 3) (by decide) ht0 (c := (t0 + 1 + 3)) rfl ?_
    refine R_alen ho (len := 5) (pm_lnT 3 ht0 (by decide)) rfl ?_
    refine R_ic ho rfl (tgt := 22) rfl ?_
    refine R_ge ?_ ?_
    · refine R_st ho 1 (q' := (23, [(0, .inr (.inr (10, t0))), (1, .inl x1)], [.inl (-1)], 119, pm_RF, M)) rfl ?_
      exact R_end (v := some (.inl (-1))) rfl (Or.inl rfl) rfl rfl
    · refine R_st ho 1 (q' := (14, [(0, .inr (.inr (10, t0))), (1, .inl x1)], [.inr (.inr (10, t0))], 119, pm_RF, M)) rfl ?_
      refine R_getT ho rfl rfl (f := 3) (by decide) ht0 (c := (t0 + 1 + 3)) rfl ?_
      refine R_st ho 1 (q' := (18, [(0, .inr (.inr (10, t0))), (1, .inl x1)], [.inl x1, .inr (.inr (20, (t0 + 1 + 3)))], 119, pm_RF, M)) rfl ?_
      refine R_iald ho (pm_lnT 3 ht0 (by decide)) rfl ?_
      refine R_st ho 1 (q' := (23, [(0, .inr (.inr (10, t0))), (1, .inl x1)], [.inl (M (t0 + 1 + 3) (x1).toNat)], 119, pm_RF, M)) rfl ?_
      exact R_end (v := some (.inl (M (t0 + 1 + 3) (x1).toNat))) rfl (Or.inl rfl) rfl rfl
theorem ok_Text_first (G : pm_G) (t0 : Nat) (x1 : Int) (M : pm_M) (ht0 : pm_isT t0) : pm_R G mt_Text_first 1 (0, [(0, .inr (.inr (10, t0))), (1, .inl x1)], [], 119, pm_RF, M) (f_Text_first t0 x1 M) (pm_Zr mt_Text_first (pm_gi M)) := by
  have ho : pm_oG G mt_Text_first := (oa_Text_first).g G
  unfold f_Text_first
  refine R_st ho 1 (q' := (1, [(0, .inr (.inr (10, t0))), (1, .inl x1)], [.inr (.inr (10, t0))], 119, pm_RF, M)) rfl ?_
  refine R_getT ho rfl rfl (f := 1) (by decide) ht0 (c := (t0 + 1 + 1)) rfl ?_
  refine R_st ho 1 (q' := (5, [(0, .inr (.inr (10, t0))), (1, .inl x1)], [.inl x1, .inr (.inr (20, (t0 + 1 + 1)))], 119, pm_RF, M)) rfl ?_
  refine R_iald ho (pm_lnT 1 ht0 (by decide)) rfl ?_
  exact R_end (v := some (.inl (M (t0 + 1 + 1) (x1).toNat))) rfl (Or.inl rfl) rfl rfl
theorem ok_Text_second (G : pm_G) (t0 : Nat) (x1 : Int) (M : pm_M) (ht0 : pm_isT t0) : pm_R G mt_Text_second 1 (0, [(0, .inr (.inr (10, t0))), (1, .inl x1)], [], 119, pm_RF, M) (f_Text_second t0 x1 M) (pm_Zr mt_Text_second (pm_gi M)) := by
  have ho : pm_oG G mt_Text_second := (oa_Text_second).g G
  unfold f_Text_second
  refine R_st ho 1 (q' := (1, [(0, .inr (.inr (10, t0))), (1, .inl x1)], [.inr (.inr (10, t0))], 119, pm_RF, M)) rfl ?_
  refine R_getT ho rfl rfl (f := 2) (by decide) ht0 (c := (t0 + 1 + 2)) rfl ?_
  refine R_st ho 1 (q' := (5, [(0, .inr (.inr (10, t0))), (1, .inl x1)], [.inl x1, .inr (.inr (20, (t0 + 1 + 2)))], 119, pm_RF, M)) rfl ?_
  refine R_iald ho (pm_lnT 2 ht0 (by decide)) rfl ?_
  exact R_end (v := some (.inl (M (t0 + 1 + 2) (x1).toNat))) rfl (Or.inl rfl) rfl rfl
theorem ok_Text_codeAt (G : pm_G) (t0 : Nat) (x1 : Int) (M : pm_M) (ht0 : pm_isT t0) : pm_R G mt_Text_codeAt 1 (0, [(0, .inr (.inr (10, t0))), (1, .inl x1)], [], 119, pm_RF, M) (f_Text_codeAt t0 x1 M) (pm_Zr mt_Text_codeAt (pm_gi M)) := by
  have ho : pm_oG G mt_Text_codeAt := (oa_Text_codeAt).g G
  unfold f_Text_codeAt
  refine R_st ho 1 (q' := (1, [(0, .inr (.inr (10, t0))), (1, .inl x1)], [.inr (.inr (10, t0))], 119, pm_RF, M)) rfl ?_
  refine R_getT ho rfl rfl (f := 4) (by decide) ht0 (c := (t0 + 1 + 4)) rfl ?_
  refine R_st ho 1 (q' := (5, [(0, .inr (.inr (10, t0))), (1, .inl x1)], [.inl x1, .inr (.inr (20, (t0 + 1 + 4)))], 119, pm_RF, M)) rfl ?_
  refine R_iald ho (pm_lnT 4 ht0 (by decide)) rfl ?_
  exact R_end (v := some (.inl (M (t0 + 1 + 4) (x1).toNat))) rfl (Or.inl rfl) rfl rfl
theorem ok_Judge_takes (G : pm_G) (x0 : Int) (M : pm_M)  : pm_R G mt_Judge_takes 1 (0, [(0, .inl x0)], [], 119, pm_RF, M) (f_Judge_takes x0 M) (pm_Zr mt_Judge_takes (pm_gi M)) := by
  have ho : pm_oG G mt_Judge_takes := (oa_Judge_takes).g G
  unfold f_Judge_takes
  refine R_st ho 2 (q' := (3, [(0, .inl x0)], [.inl 13, .inl x0], 119, pm_RF, M)) rfl ?_
  refine R_ic ho rfl (tgt := 12) rfl ?_
  refine R_eq ?_ ?_
  · refine R_st ho 1 (q' := (13, [(0, .inl x0)], [.inl 1], 119, pm_RF, M)) rfl ?_
    exact R_end (v := some (.inl 1)) rfl (Or.inl rfl) rfl rfl
  · refine R_st ho 2 (q' := (9, [(0, .inl x0)], [.inl 40, .inl x0], 119, pm_RF, M)) rfl ?_
    refine R_ic ho rfl (tgt := 14) rfl ?_
    refine R_ne ?_ ?_
    · refine R_st ho 1 (q' := (13, [(0, .inl x0)], [.inl 1], 119, pm_RF, M)) rfl ?_
      exact R_end (v := some (.inl 1)) rfl (Or.inl rfl) rfl rfl
    · refine R_st ho 2 (q' := (17, [(0, .inl x0)], [.inl 11, .inl x0], 119, pm_RF, M)) rfl ?_
      refine R_ic ho rfl (tgt := 32) rfl ?_
      refine R_eq ?_ ?_
      · refine R_st ho 7 (q' := (47, [(1, .inl 1), (0, .inl x0)], [.inl 2], 119, pm_RF, M)) rfl ?_
        exact R_end (v := some (.inl 2)) rfl (Or.inl rfl) rfl rfl
      · refine R_st ho 2 (q' := (23, [(0, .inl x0)], [.inl 12, .inl x0], 119, pm_RF, M)) rfl ?_
        refine R_ic ho rfl (tgt := 32) rfl ?_
        refine R_eq ?_ ?_
        · refine R_st ho 7 (q' := (47, [(1, .inl 1), (0, .inl x0)], [.inl 2], 119, pm_RF, M)) rfl ?_
          exact R_end (v := some (.inl 2)) rfl (Or.inl rfl) rfl rfl
        · refine R_st ho 2 (q' := (29, [(0, .inl x0)], [.inl 24, .inl x0], 119, pm_RF, M)) rfl ?_
          refine R_ic ho rfl (tgt := 36) rfl ?_
          refine R_lt ?_ ?_
          · refine R_st ho 5 (q' := (47, [(1, .inl 0), (0, .inl x0)], [.inl 0], 119, pm_RF, M)) rfl ?_
            exact R_end (v := some (.inl 0)) rfl (Or.inl rfl) rfl rfl
          · refine R_st ho 7 (q' := (47, [(1, .inl 1), (0, .inl x0)], [.inl 2], 119, pm_RF, M)) rfl ?_
            exact R_end (v := some (.inl 2)) rfl (Or.inl rfl) rfl rfl
theorem ok_Judge_joined_J253 (G : pm_G)     (y3 : Int) (M : pm_M) : pm_R G mt_Judge_joined 1 (253, [(3, .inr (.inl y3))], [], 119, pm_RF, M) (f_Judge_joined_J253 y3 M) (pm_Zr mt_Judge_joined (pm_gi M)) := by
  have ho : pm_oG G mt_Judge_joined := (oa_Judge_joined).g G
  unfold f_Judge_joined_J253
  refine R_st ho 2 (q' := (257, [(3, .inr (.inl y3))], [.inr (.inl 1000000), .inr (.inl y3)], 119, pm_RF, M)) rfl ?_
  refine R_lc ho rfl rfl (tgt := 264) rfl ?_
  refine R_le ?_ ?_
  · refine R_st ho 2 (q' := (268, [(3, .inr (.inl y3))], [.inr (.inl (-1000000)), .inr (.inl y3)], 119, pm_RF, M)) rfl ?_
    refine R_lc ho rfl rfl (tgt := 277) rfl ?_
    refine R_ge ?_ ?_
    · refine R_st ho 2 (q' := (279, [(3, .inr (.inl y3))], [.inl (l_2i y3)], 119, pm_RF, M)) rfl ?_
      exact R_end (v := some (.inl (l_2i y3))) rfl (Or.inl rfl) rfl rfl
    · refine R_st ho 2 (q' := (279, [(3, .inr (.inl y3))], [.inl (-1000000)], 119, pm_RF, M)) rfl ?_
      exact R_end (v := some (.inl (-1000000))) rfl (Or.inl rfl) rfl rfl
  · refine R_st ho 1 (q' := (263, [(3, .inr (.inl y3))], [.inl 1000000], 119, pm_RF, M)) rfl ?_
    exact R_end (v := some (.inl 1000000)) rfl (Or.inl rfl) rfl rfl
theorem ok_Judge_joined (G : pm_G) (x0 : Int) (x1 : Int) (x2 : Int) (M : pm_M)  : pm_R G mt_Judge_joined 1 (0, [(0, .inl x0), (1, .inl x1), (2, .inl x2)], [], 119, pm_RF, M) (f_Judge_joined x0 x1 x2 M) (pm_Zr mt_Judge_joined (pm_gi M)) := by
  have ho : pm_oG G mt_Judge_joined := (oa_Judge_joined).g G
  unfold f_Judge_joined
  refine R_st ho 1 (q' := (1, [(0, .inl x0), (1, .inl x1), (2, .inl x2)], [.inl x0], 119, pm_RF, M)) rfl ?_
  refine R_cs (fun z_ => (1, [(0, .inl x0), (1, .inl x1), (2, .inl x2)], [.inl z_], 119, pm_RF, M)) ?_ (fun h72 => ?_)
  · refine R_swk ho rfl (by decide) rfl (tgt := 120) rfl (by decide +kernel) ?_
    refine R_st ho 6 (q' := (253, [(3, .inr (.inl (i_or x1 x2))), (0, .inl x0), (1, .inl x1), (2, .inl x2)], [], 119, pm_RF, M)) rfl ?_
    refine R_pk [3] rfl ?_
    exact ok_Judge_joined_J253 G (i_or x1 x2) M
  refine R_cs (fun z_ => (1, [(0, .inl x0), (1, .inl x1), (2, .inl x2)], [.inl z_], 119, pm_RF, M)) ?_ (fun h73 => ?_)
  · refine R_swk ho rfl (by decide) rfl (tgt := 127) rfl (by decide +kernel) ?_
    refine R_st ho 6 (q' := (253, [(3, .inr (.inl (i_an x1 x2))), (0, .inl x0), (1, .inl x1), (2, .inl x2)], [], 119, pm_RF, M)) rfl ?_
    refine R_pk [3] rfl ?_
    exact ok_Judge_joined_J253 G (i_an x1 x2) M
  refine R_cs (fun z_ => (1, [(0, .inl x0), (1, .inl x1), (2, .inl x2)], [.inl z_], 119, pm_RF, M)) ?_ (fun h74 => ?_)
  · refine R_swk ho rfl (by decide) rfl (tgt := 251) rfl (by decide +kernel) ?_
    refine R_st ho 2 (q' := (253, [(3, .inr (.inl 0)), (0, .inl x0), (1, .inl x1), (2, .inl x2)], [], 119, pm_RF, M)) rfl ?_
    refine R_pk [3] rfl ?_
    exact ok_Judge_joined_J253 G 0 M
  refine R_cs (fun z_ => (1, [(0, .inl x0), (1, .inl x1), (2, .inl x2)], [.inl z_], 119, pm_RF, M)) ?_ (fun h75 => ?_)
  · refine R_swk ho rfl (by decide) rfl (tgt := 251) rfl (by decide +kernel) ?_
    refine R_st ho 2 (q' := (253, [(3, .inr (.inl 0)), (0, .inl x0), (1, .inl x1), (2, .inl x2)], [], 119, pm_RF, M)) rfl ?_
    refine R_pk [3] rfl ?_
    exact ok_Judge_joined_J253 G 0 M
  refine R_cs (fun z_ => (1, [(0, .inl x0), (1, .inl x1), (2, .inl x2)], [.inl z_], 119, pm_RF, M)) ?_ (fun h76 => ?_)
  · refine R_swk ho rfl (by decide) rfl (tgt := 251) rfl (by decide +kernel) ?_
    refine R_st ho 2 (q' := (253, [(3, .inr (.inl 0)), (0, .inl x0), (1, .inl x1), (2, .inl x2)], [], 119, pm_RF, M)) rfl ?_
    refine R_pk [3] rfl ?_
    exact ok_Judge_joined_J253 G 0 M
  refine R_cs (fun z_ => (1, [(0, .inl x0), (1, .inl x1), (2, .inl x2)], [.inl z_], 119, pm_RF, M)) ?_ (fun h77 => ?_)
  · refine R_swk ho rfl (by decide) rfl (tgt := 251) rfl (by decide +kernel) ?_
    refine R_st ho 2 (q' := (253, [(3, .inr (.inl 0)), (0, .inl x0), (1, .inl x1), (2, .inl x2)], [], 119, pm_RF, M)) rfl ?_
    refine R_pk [3] rfl ?_
    exact ok_Judge_joined_J253 G 0 M
  refine R_cs (fun z_ => (1, [(0, .inl x0), (1, .inl x1), (2, .inl x2)], [.inl z_], 119, pm_RF, M)) ?_ (fun h78 => ?_)
  · refine R_swk ho rfl (by decide) rfl (tgt := 251) rfl (by decide +kernel) ?_
    refine R_st ho 2 (q' := (253, [(3, .inr (.inl 0)), (0, .inl x0), (1, .inl x1), (2, .inl x2)], [], 119, pm_RF, M)) rfl ?_
    refine R_pk [3] rfl ?_
    exact ok_Judge_joined_J253 G 0 M
  refine R_cs (fun z_ => (1, [(0, .inl x0), (1, .inl x1), (2, .inl x2)], [.inl z_], 119, pm_RF, M)) ?_ (fun h79 => ?_)
  · refine R_swk ho rfl (by decide) rfl (tgt := 251) rfl (by decide +kernel) ?_
    refine R_st ho 2 (q' := (253, [(3, .inr (.inl 0)), (0, .inl x0), (1, .inl x1), (2, .inl x2)], [], 119, pm_RF, M)) rfl ?_
    refine R_pk [3] rfl ?_
    exact ok_Judge_joined_J253 G 0 M
  refine R_cs (fun z_ => (1, [(0, .inl x0), (1, .inl x1), (2, .inl x2)], [.inl z_], 119, pm_RF, M)) ?_ (fun h80 => ?_)
  · refine R_swk ho rfl (by decide) rfl (tgt := 251) rfl (by decide +kernel) ?_
    refine R_st ho 2 (q' := (253, [(3, .inr (.inl 0)), (0, .inl x0), (1, .inl x1), (2, .inl x2)], [], 119, pm_RF, M)) rfl ?_
    refine R_pk [3] rfl ?_
    exact ok_Judge_joined_J253 G 0 M
  refine R_cs (fun z_ => (1, [(0, .inl x0), (1, .inl x1), (2, .inl x2)], [.inl z_], 119, pm_RF, M)) ?_ (fun h81 => ?_)
  · refine R_swk ho rfl (by decide) rfl (tgt := 251) rfl (by decide +kernel) ?_
    refine R_st ho 2 (q' := (253, [(3, .inr (.inl 0)), (0, .inl x0), (1, .inl x1), (2, .inl x2)], [], 119, pm_RF, M)) rfl ?_
    refine R_pk [3] rfl ?_
    exact ok_Judge_joined_J253 G 0 M
  refine R_cs (fun z_ => (1, [(0, .inl x0), (1, .inl x1), (2, .inl x2)], [.inl z_], 119, pm_RF, M)) ?_ (fun h82 => ?_)
  · refine R_swk ho rfl (by decide) rfl (tgt := 251) rfl (by decide +kernel) ?_
    refine R_st ho 2 (q' := (253, [(3, .inr (.inl 0)), (0, .inl x0), (1, .inl x1), (2, .inl x2)], [], 119, pm_RF, M)) rfl ?_
    refine R_pk [3] rfl ?_
    exact ok_Judge_joined_J253 G 0 M
  refine R_cs (fun z_ => (1, [(0, .inl x0), (1, .inl x1), (2, .inl x2)], [.inl z_], 119, pm_RF, M)) ?_ (fun h83 => ?_)
  · refine R_swk ho rfl (by decide) rfl (tgt := 251) rfl (by decide +kernel) ?_
    refine R_st ho 2 (q' := (253, [(3, .inr (.inl 0)), (0, .inl x0), (1, .inl x1), (2, .inl x2)], [], 119, pm_RF, M)) rfl ?_
    refine R_pk [3] rfl ?_
    exact ok_Judge_joined_J253 G 0 M
  refine R_cs (fun z_ => (1, [(0, .inl x0), (1, .inl x1), (2, .inl x2)], [.inl z_], 119, pm_RF, M)) ?_ (fun h84 => ?_)
  · refine R_swk ho rfl (by decide) rfl (tgt := 251) rfl (by decide +kernel) ?_
    refine R_st ho 2 (q' := (253, [(3, .inr (.inl 0)), (0, .inl x0), (1, .inl x1), (2, .inl x2)], [], 119, pm_RF, M)) rfl ?_
    refine R_pk [3] rfl ?_
    exact ok_Judge_joined_J253 G 0 M
  refine R_cs (fun z_ => (1, [(0, .inl x0), (1, .inl x1), (2, .inl x2)], [.inl z_], 119, pm_RF, M)) ?_ (fun h85 => ?_)
  · refine R_swk ho rfl (by decide) rfl (tgt := 134) rfl (by decide +kernel) ?_
    refine R_st ho 2 (q' := (136, [(0, .inl x0), (1, .inl x1), (2, .inl x2)], [.inl x2, .inl x1], 119, pm_RF, M)) rfl ?_
    refine R_ic ho rfl (tgt := 143) rfl ?_
    refine R_ge ?_ ?_
    · refine R_st ho 3 (q' := (253, [(3, .inr (.inl 0)), (0, .inl x0), (1, .inl x1), (2, .inl x2)], [], 119, pm_RF, M)) rfl ?_
      refine R_pk [3] rfl ?_
      exact ok_Judge_joined_J253 G 0 M
    · refine R_st ho 3 (q' := (253, [(3, .inr (.inl 1)), (0, .inl x0), (1, .inl x1), (2, .inl x2)], [], 119, pm_RF, M)) rfl ?_
      refine R_pk [3] rfl ?_
      exact ok_Judge_joined_J253 G 1 M
  refine R_cs (fun z_ => (1, [(0, .inl x0), (1, .inl x1), (2, .inl x2)], [.inl z_], 119, pm_RF, M)) ?_ (fun h86 => ?_)
  · refine R_swk ho rfl (by decide) rfl (tgt := 160) rfl (by decide +kernel) ?_
    refine R_st ho 2 (q' := (162, [(0, .inl x0), (1, .inl x1), (2, .inl x2)], [.inl x2, .inl x1], 119, pm_RF, M)) rfl ?_
    refine R_ic ho rfl (tgt := 169) rfl ?_
    refine R_le ?_ ?_
    · refine R_st ho 3 (q' := (253, [(3, .inr (.inl 0)), (0, .inl x0), (1, .inl x1), (2, .inl x2)], [], 119, pm_RF, M)) rfl ?_
      refine R_pk [3] rfl ?_
      exact ok_Judge_joined_J253 G 0 M
    · refine R_st ho 3 (q' := (253, [(3, .inr (.inl 1)), (0, .inl x0), (1, .inl x1), (2, .inl x2)], [], 119, pm_RF, M)) rfl ?_
      refine R_pk [3] rfl ?_
      exact ok_Judge_joined_J253 G 1 M
  refine R_cs (fun z_ => (1, [(0, .inl x0), (1, .inl x1), (2, .inl x2)], [.inl z_], 119, pm_RF, M)) ?_ (fun h87 => ?_)
  · refine R_swk ho rfl (by decide) rfl (tgt := 186) rfl (by decide +kernel) ?_
    refine R_st ho 2 (q' := (188, [(0, .inl x0), (1, .inl x1), (2, .inl x2)], [.inl x2, .inl x1], 119, pm_RF, M)) rfl ?_
    refine R_ic ho rfl (tgt := 195) rfl ?_
    refine R_ne ?_ ?_
    · refine R_st ho 3 (q' := (253, [(3, .inr (.inl 1)), (0, .inl x0), (1, .inl x1), (2, .inl x2)], [], 119, pm_RF, M)) rfl ?_
      refine R_pk [3] rfl ?_
      exact ok_Judge_joined_J253 G 1 M
    · refine R_st ho 3 (q' := (253, [(3, .inr (.inl 0)), (0, .inl x0), (1, .inl x1), (2, .inl x2)], [], 119, pm_RF, M)) rfl ?_
      refine R_pk [3] rfl ?_
      exact ok_Judge_joined_J253 G 0 M
  refine R_cs (fun z_ => (1, [(0, .inl x0), (1, .inl x1), (2, .inl x2)], [.inl z_], 119, pm_RF, M)) ?_ (fun h88 => ?_)
  · refine R_swk ho rfl (by decide) rfl (tgt := 199) rfl (by decide +kernel) ?_
    refine R_st ho 2 (q' := (201, [(0, .inl x0), (1, .inl x1), (2, .inl x2)], [.inl x2, .inl x1], 119, pm_RF, M)) rfl ?_
    refine R_ic ho rfl (tgt := 208) rfl ?_
    refine R_eq ?_ ?_
    · refine R_st ho 3 (q' := (253, [(3, .inr (.inl 0)), (0, .inl x0), (1, .inl x1), (2, .inl x2)], [], 119, pm_RF, M)) rfl ?_
      refine R_pk [3] rfl ?_
      exact ok_Judge_joined_J253 G 0 M
    · refine R_st ho 3 (q' := (253, [(3, .inr (.inl 1)), (0, .inl x0), (1, .inl x1), (2, .inl x2)], [], 119, pm_RF, M)) rfl ?_
      refine R_pk [3] rfl ?_
      exact ok_Judge_joined_J253 G 1 M
  refine R_cs (fun z_ => (1, [(0, .inl x0), (1, .inl x1), (2, .inl x2)], [.inl z_], 119, pm_RF, M)) ?_ (fun h89 => ?_)
  · refine R_swk ho rfl (by decide) rfl (tgt := 212) rfl (by decide +kernel) ?_
    refine R_st ho 7 (q' := (253, [(3, .inr (.inl (l_ad x1 x2))), (0, .inl x0), (1, .inl x1), (2, .inl x2)], [], 119, pm_RF, M)) rfl ?_
    refine R_pk [3] rfl ?_
    exact ok_Judge_joined_J253 G (l_ad x1 x2) M
  refine R_cs (fun z_ => (1, [(0, .inl x0), (1, .inl x1), (2, .inl x2)], [.inl z_], 119, pm_RF, M)) ?_ (fun h90 => ?_)
  · refine R_swk ho rfl (by decide) rfl (tgt := 220) rfl (by decide +kernel) ?_
    refine R_st ho 7 (q' := (253, [(3, .inr (.inl (l_sb x1 x2))), (0, .inl x0), (1, .inl x1), (2, .inl x2)], [], 119, pm_RF, M)) rfl ?_
    refine R_pk [3] rfl ?_
    exact ok_Judge_joined_J253 G (l_sb x1 x2) M
  refine R_cs (fun z_ => (1, [(0, .inl x0), (1, .inl x1), (2, .inl x2)], [.inl z_], 119, pm_RF, M)) ?_ (fun h91 => ?_)
  · refine R_swk ho rfl (by decide) rfl (tgt := 228) rfl (by decide +kernel) ?_
    refine R_st ho 7 (q' := (253, [(3, .inr (.inl (l_ml x1 x2))), (0, .inl x0), (1, .inl x1), (2, .inl x2)], [], 119, pm_RF, M)) rfl ?_
    refine R_pk [3] rfl ?_
    exact ok_Judge_joined_J253 G (l_ml x1 x2) M
  refine R_cs (fun z_ => (1, [(0, .inl x0), (1, .inl x1), (2, .inl x2)], [.inl z_], 119, pm_RF, M)) ?_ (fun h92 => ?_)
  · refine R_swk ho rfl (by decide) rfl (tgt := 236) rfl (by decide +kernel) ?_
    refine R_st ho 1 (q' := (237, [(0, .inl x0), (1, .inl x1), (2, .inl x2)], [.inl x2], 119, pm_RF, M)) rfl ?_
    refine R_if ho rfl (tgt := 244) rfl ?_
    refine R_ne ?_ ?_
    · refine R_st ho 3 (q' := (253, [(3, .inr (.inl 0)), (0, .inl x0), (1, .inl x1), (2, .inl x2)], [], 119, pm_RF, M)) rfl ?_
      refine R_pk [3] rfl ?_
      exact ok_Judge_joined_J253 G 0 M
    · refine R_st ho 2 (q' := (246, [(0, .inl x0), (1, .inl x1), (2, .inl x2)], [.inl x2, .inl x1], 119, pm_RF, M)) rfl ?_
      refine R_idiv ho rfl ?_
      refine R_st ho 3 (q' := (253, [(3, .inr (.inl (i_dv x1 x2))), (0, .inl x0), (1, .inl x1), (2, .inl x2)], [], 119, pm_RF, M)) rfl ?_
      refine R_pk [3] rfl ?_
      exact ok_Judge_joined_J253 G (i_dv x1 x2) M
  refine R_cs (fun z_ => (1, [(0, .inl x0), (1, .inl x1), (2, .inl x2)], [.inl z_], 119, pm_RF, M)) ?_ (fun h93 => ?_)
  · refine R_swk ho rfl (by decide) rfl (tgt := 251) rfl (by decide +kernel) ?_
    refine R_st ho 2 (q' := (253, [(3, .inr (.inl 0)), (0, .inl x0), (1, .inl x1), (2, .inl x2)], [], 119, pm_RF, M)) rfl ?_
    refine R_pk [3] rfl ?_
    exact ok_Judge_joined_J253 G 0 M
  refine R_cs (fun z_ => (1, [(0, .inl x0), (1, .inl x1), (2, .inl x2)], [.inl z_], 119, pm_RF, M)) ?_ (fun h94 => ?_)
  · refine R_swk ho rfl (by decide) rfl (tgt := 251) rfl (by decide +kernel) ?_
    refine R_st ho 2 (q' := (253, [(3, .inr (.inl 0)), (0, .inl x0), (1, .inl x1), (2, .inl x2)], [], 119, pm_RF, M)) rfl ?_
    refine R_pk [3] rfl ?_
    exact ok_Judge_joined_J253 G 0 M
  refine R_cs (fun z_ => (1, [(0, .inl x0), (1, .inl x1), (2, .inl x2)], [.inl z_], 119, pm_RF, M)) ?_ (fun h95 => ?_)
  · refine R_swk ho rfl (by decide) rfl (tgt := 251) rfl (by decide +kernel) ?_
    refine R_st ho 2 (q' := (253, [(3, .inr (.inl 0)), (0, .inl x0), (1, .inl x1), (2, .inl x2)], [], 119, pm_RF, M)) rfl ?_
    refine R_pk [3] rfl ?_
    exact ok_Judge_joined_J253 G 0 M
  refine R_cs (fun z_ => (1, [(0, .inl x0), (1, .inl x1), (2, .inl x2)], [.inl z_], 119, pm_RF, M)) ?_ (fun h96 => ?_)
  · refine R_swk ho rfl (by decide) rfl (tgt := 147) rfl (by decide +kernel) ?_
    refine R_st ho 2 (q' := (149, [(0, .inl x0), (1, .inl x1), (2, .inl x2)], [.inl x2, .inl x1], 119, pm_RF, M)) rfl ?_
    refine R_ic ho rfl (tgt := 156) rfl ?_
    refine R_gt ?_ ?_
    · refine R_st ho 3 (q' := (253, [(3, .inr (.inl 0)), (0, .inl x0), (1, .inl x1), (2, .inl x2)], [], 119, pm_RF, M)) rfl ?_
      refine R_pk [3] rfl ?_
      exact ok_Judge_joined_J253 G 0 M
    · refine R_st ho 3 (q' := (253, [(3, .inr (.inl 1)), (0, .inl x0), (1, .inl x1), (2, .inl x2)], [], 119, pm_RF, M)) rfl ?_
      refine R_pk [3] rfl ?_
      exact ok_Judge_joined_J253 G 1 M
  refine R_cs (fun z_ => (1, [(0, .inl x0), (1, .inl x1), (2, .inl x2)], [.inl z_], 119, pm_RF, M)) ?_ (fun h97 => ?_)
  · refine R_swk ho rfl (by decide) rfl (tgt := 173) rfl (by decide +kernel) ?_
    refine R_st ho 2 (q' := (175, [(0, .inl x0), (1, .inl x1), (2, .inl x2)], [.inl x2, .inl x1], 119, pm_RF, M)) rfl ?_
    refine R_ic ho rfl (tgt := 182) rfl ?_
    refine R_lt ?_ ?_
    · refine R_st ho 3 (q' := (253, [(3, .inr (.inl 0)), (0, .inl x0), (1, .inl x1), (2, .inl x2)], [], 119, pm_RF, M)) rfl ?_
      refine R_pk [3] rfl ?_
      exact ok_Judge_joined_J253 G 0 M
    · refine R_st ho 3 (q' := (253, [(3, .inr (.inl 1)), (0, .inl x0), (1, .inl x1), (2, .inl x2)], [], 119, pm_RF, M)) rfl ?_
      refine R_pk [3] rfl ?_
      exact ok_Judge_joined_J253 G 1 M
  refine R_swd ho rfl (by omega) rfl (by decide +kernel) ?_
  refine R_st ho 2 (q' := (253, [(3, .inr (.inl 0)), (0, .inl x0), (1, .inl x1), (2, .inl x2)], [], 119, pm_RF, M)) rfl ?_
  refine R_pk [3] rfl ?_
  exact ok_Judge_joined_J253 G 0 M
theorem ok_Told_shadeOf (G : pm_G) (x1 : Int) (M : pm_M)  : pm_R G mt_Told_shadeOf 1 (0, [(0, .inr (.inr (11, 24))), (1, .inl x1)], [], 119, pm_RF, M) (f_Told_shadeOf x1 M) (pm_Zr mt_Told_shadeOf (pm_gi M)) := by
  have ho : pm_oG G mt_Told_shadeOf := (oa_Told_shadeOf).g G
  unfold f_Told_shadeOf
  refine R_st ho 3 (q' := (5, [(0, .inr (.inr (11, 24))), (1, .inl x1)], [.inl x1, .inr (.inr (20, 27))], 119, pm_RF, M)) rfl ?_
  refine R_iald ho rfl rfl ?_
  exact R_end (v := some (.inl (M 27 (x1).toNat))) rfl (Or.inl rfl) rfl rfl
theorem ok_Told_viewOf (G : pm_G) (x1 : Int) (M : pm_M)  : pm_R G mt_Told_viewOf 1 (0, [(0, .inr (.inr (11, 24))), (1, .inl x1)], [], 119, pm_RF, M) (f_Told_viewOf x1 M) (pm_Zr mt_Told_viewOf (pm_gi M)) := by
  have ho : pm_oG G mt_Told_viewOf := (oa_Told_viewOf).g G
  unfold f_Told_viewOf
  refine R_st ho 3 (q' := (5, [(0, .inr (.inr (11, 24))), (1, .inl x1)], [.inl x1, .inr (.inr (20, 28))], 119, pm_RF, M)) rfl ?_
  refine R_iald ho rfl rfl ?_
  exact R_end (v := some (.inl (M 28 (x1).toNat))) rfl (Or.inl rfl) rfl rfl
theorem ok_Told_closeTo (G : pm_G) (x1 : Int) (M : pm_M)  : pm_R G mt_Told_closeTo 1 (0, [(0, .inr (.inr (11, 24))), (1, .inl x1)], [], 119, pm_RF, M) (f_Told_closeTo x1 M) (pm_Zr mt_Told_closeTo (pm_gi M)) := by
  have ho : pm_oG G mt_Told_closeTo := (oa_Told_closeTo).g G
  unfold f_Told_closeTo
  refine R_st ho 3 (q' := (5, [(0, .inr (.inr (11, 24))), (1, .inl x1)], [.inl x1, .inr (.inr (20, 29))], 119, pm_RF, M)) rfl ?_
  refine R_iald ho rfl rfl ?_
  exact R_end (v := some (.inl (M 29 (x1).toNat))) rfl (Or.inl rfl) rfl rfl
theorem ok_Told_fameOf (G : pm_G) (x1 : Int) (M : pm_M)  : pm_R G mt_Told_fameOf 1 (0, [(0, .inr (.inr (11, 24))), (1, .inl x1)], [], 119, pm_RF, M) (f_Told_fameOf x1 M) (pm_Zr mt_Told_fameOf (pm_gi M)) := by
  have ho : pm_oG G mt_Told_fameOf := (oa_Told_fameOf).g G
  unfold f_Told_fameOf
  refine R_st ho 3 (q' := (5, [(0, .inr (.inr (11, 24))), (1, .inl x1)], [.inl x1, .inr (.inr (20, 30))], 119, pm_RF, M)) rfl ?_
  refine R_iald ho rfl rfl ?_
  exact R_end (v := some (.inl (M 30 (x1).toNat))) rfl (Or.inl rfl) rfl rfl
theorem ok_Judge_named (G : pm_G) (x1 : Int) (x2 : Int) (x3 : Int) (M : pm_M)  : pm_R G mt_Judge_named 2 (0, [(0, .inr (.inr (2, 64))), (1, .inl x1), (2, .inl x2), (3, .inl x3)], [], 119, pm_RF, M) (f_Judge_named x1 x2 x3 M) (pm_Zr mt_Judge_named (pm_gi M)) := by
  have ho : pm_oG G mt_Judge_named := (oa_Judge_named).g G
  unfold f_Judge_named
  refine R_st ho 3 (q' := (5, [(0, .inr (.inr (2, 64))), (1, .inl x1), (2, .inl x2), (3, .inl x3)], [.inl x3, .inr (.inr (11, 24))], 119, pm_RF, M)) rfl ?_
  refine R_callV ho mv_Told_isHead lk_2_72 rfl (As := [.inl x3]) (kd := 11) (a := 24) (st := []) rfl rfl (Nat.le_of_ble_eq_true rfl) rfl (by decide) (Nat.le_of_ble_eq_true rfl) (ok_Told_isHead G x3 M ) (fun r102 => ?_)
  show pm_R _ _ _ (8, [(0, .inr (.inr (2, 64))), (1, .inl x1), (2, .inl x2), (3, .inl x3)], [.inl r102], 119, pm_RF, M) _ _
  refine R_st ho 2 (q' := (11, [(4, .inl r102), (0, .inr (.inr (2, 64))), (1, .inl x1), (2, .inl x2), (3, .inl x3)], [.inl x1], 119, pm_RF, M)) rfl ?_
  refine R_cs (fun z_ => (11, [(4, .inl r102), (0, .inr (.inr (2, 64))), (1, .inl x1), (2, .inl x2), (3, .inl x3)], [.inl z_], 119, pm_RF, M)) ?_ (fun h111 => ?_)
  · refine R_swk ho rfl (by decide) rfl (tgt := 64) rfl (by decide +kernel) ?_
    refine R_st ho 2 (q' := (187, [(4, .inl r102), (0, .inr (.inr (2, 64))), (1, .inl x1), (2, .inl x2), (3, .inl x3)], [.inl x2], 119, pm_RF, M)) rfl ?_
    exact R_end (v := some (.inl x2)) rfl (Or.inl rfl) rfl rfl
  refine R_cs (fun z_ => (11, [(4, .inl r102), (0, .inr (.inr (2, 64))), (1, .inl x1), (2, .inl x2), (3, .inl x3)], [.inl z_], 119, pm_RF, M)) ?_ (fun h112 => ?_)
  · refine R_swk ho rfl (by decide) rfl (tgt := 68) rfl (by decide +kernel) ?_
    refine R_st ho 3 (q' := (73, [(4, .inl r102), (0, .inr (.inr (2, 64))), (1, .inl x1), (2, .inl x2), (3, .inl x3)], [.inl x2, .inr (.inr (11, 24))], 119, pm_RF, M)) rfl ?_
    refine R_callV ho mv_Told_shadeOf lk_2_75 rfl (As := [.inl x2]) (kd := 11) (a := 24) (st := []) rfl rfl (Nat.le_of_ble_eq_true rfl) rfl (by decide) (Nat.le_of_ble_eq_true rfl) (ok_Told_shadeOf G x2 M ) (fun r103 => ?_)
    show pm_R _ _ _ (76, [(4, .inl r102), (0, .inr (.inr (2, 64))), (1, .inl x1), (2, .inl x2), (3, .inl x3)], [.inl r103], 119, pm_RF, M) _ _
    refine R_st ho 1 (q' := (187, [(4, .inl r102), (0, .inr (.inr (2, 64))), (1, .inl x1), (2, .inl x2), (3, .inl x3)], [.inl r103], 119, pm_RF, M)) rfl ?_
    exact R_end (v := some (.inl r103)) rfl (Or.inl rfl) rfl rfl
  refine R_cs (fun z_ => (11, [(4, .inl r102), (0, .inr (.inr (2, 64))), (1, .inl x1), (2, .inl x2), (3, .inl x3)], [.inl z_], 119, pm_RF, M)) ?_ (fun h113 => ?_)
  · refine R_swk ho rfl (by decide) rfl (tgt := 79) rfl (by decide +kernel) ?_
    refine R_st ho 3 (q' := (84, [(4, .inl r102), (0, .inr (.inr (2, 64))), (1, .inl x1), (2, .inl x2), (3, .inl x3)], [.inl x2, .inr (.inr (11, 24))], 119, pm_RF, M)) rfl ?_
    refine R_callV ho mv_Told_viewOf lk_2_78 rfl (As := [.inl x2]) (kd := 11) (a := 24) (st := []) rfl rfl (Nat.le_of_ble_eq_true rfl) rfl (by decide) (Nat.le_of_ble_eq_true rfl) (ok_Told_viewOf G x2 M ) (fun r104 => ?_)
    show pm_R _ _ _ (87, [(4, .inl r102), (0, .inr (.inr (2, 64))), (1, .inl x1), (2, .inl x2), (3, .inl x3)], [.inl r104], 119, pm_RF, M) _ _
    refine R_st ho 1 (q' := (187, [(4, .inl r102), (0, .inr (.inr (2, 64))), (1, .inl x1), (2, .inl x2), (3, .inl x3)], [.inl r104], 119, pm_RF, M)) rfl ?_
    exact R_end (v := some (.inl r104)) rfl (Or.inl rfl) rfl rfl
  refine R_cs (fun z_ => (11, [(4, .inl r102), (0, .inr (.inr (2, 64))), (1, .inl x1), (2, .inl x2), (3, .inl x3)], [.inl z_], 119, pm_RF, M)) ?_ (fun h114 => ?_)
  · refine R_swk ho rfl (by decide) rfl (tgt := 90) rfl (by decide +kernel) ?_
    refine R_st ho 2 (q' := (94, [(4, .inl r102), (0, .inr (.inr (2, 64))), (1, .inl x1), (2, .inl x2), (3, .inl x3)], [.inr (.inr (4, 35))], 119, pm_RF, M)) rfl ?_
    refine R_callV ho mv_Moment_day lk_2_81 rfl (As := []) (kd := 4) (a := 35) (st := []) rfl rfl (Nat.le_of_ble_eq_true rfl) rfl (by decide) (Nat.le_of_ble_eq_true rfl) (ok_Moment_day G  M ) (fun r105 => ?_)
    show pm_R _ _ _ (97, [(4, .inl r102), (0, .inr (.inr (2, 64))), (1, .inl x1), (2, .inl x2), (3, .inl x3)], [.inl r105], 119, pm_RF, M) _ _
    refine R_st ho 1 (q' := (187, [(4, .inl r102), (0, .inr (.inr (2, 64))), (1, .inl x1), (2, .inl x2), (3, .inl x3)], [.inl r105], 119, pm_RF, M)) rfl ?_
    exact R_end (v := some (.inl r105)) rfl (Or.inl rfl) rfl rfl
  refine R_cs (fun z_ => (11, [(4, .inl r102), (0, .inr (.inr (2, 64))), (1, .inl x1), (2, .inl x2), (3, .inl x3)], [.inl z_], 119, pm_RF, M)) ?_ (fun h115 => ?_)
  · refine R_swk ho rfl (by decide) rfl (tgt := 100) rfl (by decide +kernel) ?_
    refine R_st ho 3 (q' := (105, [(4, .inl r102), (0, .inr (.inr (2, 64))), (1, .inl x1), (2, .inl x2), (3, .inl x3)], [.inl x2, .inr (.inr (11, 24))], 119, pm_RF, M)) rfl ?_
    refine R_callV ho mv_Told_closeTo lk_2_86 rfl (As := [.inl x2]) (kd := 11) (a := 24) (st := []) rfl rfl (Nat.le_of_ble_eq_true rfl) rfl (by decide) (Nat.le_of_ble_eq_true rfl) (ok_Told_closeTo G x2 M ) (fun r106 => ?_)
    show pm_R _ _ _ (108, [(4, .inl r102), (0, .inr (.inr (2, 64))), (1, .inl x1), (2, .inl x2), (3, .inl x3)], [.inl r106], 119, pm_RF, M) _ _
    refine R_st ho 1 (q' := (187, [(4, .inl r102), (0, .inr (.inr (2, 64))), (1, .inl x1), (2, .inl x2), (3, .inl x3)], [.inl r106], 119, pm_RF, M)) rfl ?_
    exact R_end (v := some (.inl r106)) rfl (Or.inl rfl) rfl rfl
  refine R_cs (fun z_ => (11, [(4, .inl r102), (0, .inr (.inr (2, 64))), (1, .inl x1), (2, .inl x2), (3, .inl x3)], [.inl z_], 119, pm_RF, M)) ?_ (fun h116 => ?_)
  · refine R_swk ho rfl (by decide) rfl (tgt := 111) rfl (by decide +kernel) ?_
    refine R_st ho 2 (q' := (187, [(4, .inl r102), (0, .inr (.inr (2, 64))), (1, .inl x1), (2, .inl x2), (3, .inl x3)], [.inl x3], 119, pm_RF, M)) rfl ?_
    exact R_end (v := some (.inl x3)) rfl (Or.inl rfl) rfl rfl
  refine R_cs (fun z_ => (11, [(4, .inl r102), (0, .inr (.inr (2, 64))), (1, .inl x1), (2, .inl x2), (3, .inl x3)], [.inl z_], 119, pm_RF, M)) ?_ (fun h117 => ?_)
  · refine R_swk ho rfl (by decide) rfl (tgt := 115) rfl (by decide +kernel) ?_
    refine R_st ho 1 (q' := (117, [(4, .inl r102), (0, .inr (.inr (2, 64))), (1, .inl x1), (2, .inl x2), (3, .inl x3)], [.inl r102], 119, pm_RF, M)) rfl ?_
    refine R_if ho rfl (tgt := 131) rfl ?_
    refine R_eq ?_ ?_
    · refine R_st ho 2 (q' := (187, [(4, .inl r102), (0, .inr (.inr (2, 64))), (1, .inl x1), (2, .inl x2), (3, .inl x3)], [.inl 0], 119, pm_RF, M)) rfl ?_
      exact R_end (v := some (.inl 0)) rfl (Or.inl rfl) rfl rfl
    · refine R_st ho 3 (q' := (125, [(4, .inl r102), (0, .inr (.inr (2, 64))), (1, .inl x1), (2, .inl x2), (3, .inl x3)], [.inl x3, .inr (.inr (11, 24))], 119, pm_RF, M)) rfl ?_
      refine R_callV ho mv_Told_fameOf lk_2_89 rfl (As := [.inl x3]) (kd := 11) (a := 24) (st := []) rfl rfl (Nat.le_of_ble_eq_true rfl) rfl (by decide) (Nat.le_of_ble_eq_true rfl) (ok_Told_fameOf G x3 M ) (fun r107 => ?_)
      show pm_R _ _ _ (128, [(4, .inl r102), (0, .inr (.inr (2, 64))), (1, .inl x1), (2, .inl x2), (3, .inl x3)], [.inl r107], 119, pm_RF, M) _ _
      refine R_st ho 1 (q' := (187, [(4, .inl r102), (0, .inr (.inr (2, 64))), (1, .inl x1), (2, .inl x2), (3, .inl x3)], [.inl r107], 119, pm_RF, M)) rfl ?_
      exact R_end (v := some (.inl r107)) rfl (Or.inl rfl) rfl rfl
  refine R_cs (fun z_ => (11, [(4, .inl r102), (0, .inr (.inr (2, 64))), (1, .inl x1), (2, .inl x2), (3, .inl x3)], [.inl z_], 119, pm_RF, M)) ?_ (fun h118 => ?_)
  · refine R_swk ho rfl (by decide) rfl (tgt := 135) rfl (by decide +kernel) ?_
    refine R_st ho 3 (q' := (140, [(4, .inl r102), (0, .inr (.inr (2, 64))), (1, .inl x1), (2, .inl x2), (3, .inl x3)], [.inl x2, .inr (.inr (4, 35))], 119, pm_RF, M)) rfl ?_
    refine R_callV ho mv_Moment_nameAt lk_2_92 rfl (As := [.inl x2]) (kd := 4) (a := 35) (st := []) rfl rfl (Nat.le_of_ble_eq_true rfl) rfl (by decide) (Nat.le_of_ble_eq_true rfl) (ok_Moment_nameAt G x2 M ) (fun r108 => ?_)
    show pm_R _ _ _ (143, [(4, .inl r102), (0, .inr (.inr (2, 64))), (1, .inl x1), (2, .inl x2), (3, .inl x3)], [.inl r108], 119, pm_RF, M) _ _
    refine R_st ho 1 (q' := (187, [(4, .inl r102), (0, .inr (.inr (2, 64))), (1, .inl x1), (2, .inl x2), (3, .inl x3)], [.inl r108], 119, pm_RF, M)) rfl ?_
    exact R_end (v := some (.inl r108)) rfl (Or.inl rfl) rfl rfl
  refine R_cs (fun z_ => (11, [(4, .inl r102), (0, .inr (.inr (2, 64))), (1, .inl x1), (2, .inl x2), (3, .inl x3)], [.inl z_], 119, pm_RF, M)) ?_ (fun h119 => ?_)
  · refine R_swk ho rfl (by decide) rfl (tgt := 146) rfl (by decide +kernel) ?_
    refine R_st ho 3 (q' := (151, [(4, .inl r102), (0, .inr (.inr (2, 64))), (1, .inl x1), (2, .inl x2), (3, .inl x3)], [.inl x2, .inr (.inr (4, 35))], 119, pm_RF, M)) rfl ?_
    refine R_callV ho mv_Moment_nameAt lk_2_92 rfl (As := [.inl x2]) (kd := 4) (a := 35) (st := []) rfl rfl (Nat.le_of_ble_eq_true rfl) rfl (by decide) (Nat.le_of_ble_eq_true rfl) (ok_Moment_nameAt G x2 M ) (fun r109 => ?_)
    show pm_R _ _ _ (154, [(4, .inl r102), (0, .inr (.inr (2, 64))), (1, .inl x1), (2, .inl x2), (3, .inl x3)], [.inl r109], 119, pm_RF, M) _ _
    refine R_st ho 1 (q' := (155, [(4, .inl r102), (0, .inr (.inr (2, 64))), (1, .inl x1), (2, .inl x2), (3, .inl x3)], [.inl x3, .inl r109], 119, pm_RF, M)) rfl ?_
    refine R_ic ho rfl (tgt := 162) rfl ?_
    refine R_ne ?_ ?_
    · refine R_st ho 2 (q' := (187, [(4, .inl r102), (0, .inr (.inr (2, 64))), (1, .inl x1), (2, .inl x2), (3, .inl x3)], [.inl 1], 119, pm_RF, M)) rfl ?_
      exact R_end (v := some (.inl 1)) rfl (Or.inl rfl) rfl rfl
    · refine R_st ho 2 (q' := (187, [(4, .inl r102), (0, .inr (.inr (2, 64))), (1, .inl x1), (2, .inl x2), (3, .inl x3)], [.inl 0], 119, pm_RF, M)) rfl ?_
      exact R_end (v := some (.inl 0)) rfl (Or.inl rfl) rfl rfl
  refine R_cs (fun z_ => (11, [(4, .inl r102), (0, .inr (.inr (2, 64))), (1, .inl x1), (2, .inl x2), (3, .inl x3)], [.inl z_], 119, pm_RF, M)) ?_ (fun h120 => ?_)
  · refine R_swk ho rfl (by decide) rfl (tgt := 166) rfl (by decide +kernel) ?_
    refine R_st ho 1 (q' := (168, [(4, .inl r102), (0, .inr (.inr (2, 64))), (1, .inl x1), (2, .inl x2), (3, .inl x3)], [.inl r102], 119, pm_RF, M)) rfl ?_
    refine R_if ho rfl (tgt := 182) rfl ?_
    refine R_eq ?_ ?_
    · refine R_st ho 2 (q' := (187, [(4, .inl r102), (0, .inr (.inr (2, 64))), (1, .inl x1), (2, .inl x2), (3, .inl x3)], [.inl 0], 119, pm_RF, M)) rfl ?_
      exact R_end (v := some (.inl 0)) rfl (Or.inl rfl) rfl rfl
    · refine R_st ho 3 (q' := (176, [(4, .inl r102), (0, .inr (.inr (2, 64))), (1, .inl x1), (2, .inl x2), (3, .inl x3)], [.inl x3, .inr (.inr (4, 35))], 119, pm_RF, M)) rfl ?_
      refine R_callV ho mv_Moment_debt lk_2_95 rfl (As := [.inl x3]) (kd := 4) (a := 35) (st := []) rfl rfl (Nat.le_of_ble_eq_true rfl) rfl (by decide) (Nat.le_of_ble_eq_true rfl) (ok_Moment_debt G x3 M ) (fun r110 => ?_)
      show pm_R _ _ _ (179, [(4, .inl r102), (0, .inr (.inr (2, 64))), (1, .inl x1), (2, .inl x2), (3, .inl x3)], [.inl r110], 119, pm_RF, M) _ _
      refine R_st ho 1 (q' := (187, [(4, .inl r102), (0, .inr (.inr (2, 64))), (1, .inl x1), (2, .inl x2), (3, .inl x3)], [.inl r110], 119, pm_RF, M)) rfl ?_
      exact R_end (v := some (.inl r110)) rfl (Or.inl rfl) rfl rfl
  refine R_swd ho rfl (by omega) rfl (by decide +kernel) ?_
  refine R_st ho 1 (q' := (187, [(4, .inl r102), (0, .inr (.inr (2, 64))), (1, .inl x1), (2, .inl x2), (3, .inl x3)], [.inl 0], 119, pm_RF, M)) rfl ?_
  exact R_end (v := some (.inl 0)) rfl (Or.inl rfl) rfl rfl
theorem ok_Judge_reckon_L10 (G : pm_G) (u1 : Nat) (hu1 : pm_isT u1)  : ∀ (n_ : Nat) (y2 : Int) (y3 : Int) (y4 : Int) (y5 : Int) (y6 : Int) (M : pm_M), pm_R G mt_Judge_reckon 3 (10, [(0, .inr (.inr (2, 64))), (1, .inr (.inr (10, u1))), (2, .inl y2), (3, .inl y3), (4, .inl y4), (5, .inl y5), (6, .inl y6)], [], 119, pm_RF, M) (f_Judge_reckon_L10 u1 n_ y2 y3 y4 y5 y6 M) (fun e_ q_ => match e_ with | .inl e_ => q_ = (60, [], [], 119, pm_RF, e_) | .inr e_ => q_ = (184, [(0, .inr (.inr (2, 64))), (5, .inl e_.1)], [], 119, pm_RF, e_.2)) := by
  have ho : pm_oG G mt_Judge_reckon := (oa_Judge_reckon).g G
  intro n_
  induction n_ with
  | zero => intro _ _ _ _ _ _; exact R_none
  | succ n_ ih_ =>
    intro y2 y3 y4 y5 y6 M
    rw [f_Judge_reckon_L10]
    refine R_st ho 3 (q' := (14, [(0, .inr (.inr (2, 64))), (1, .inr (.inr (10, u1))), (2, .inl y2), (3, .inl y3), (4, .inl y4), (5, .inl y5), (6, .inl y6)], [.inl y2, .inr (.inr (10, u1)), .inl y6], 119, pm_RF, M)) rfl ?_
    refine R_callV ho mv_Text_second lk_2_50 rfl (As := [.inl y2]) (kd := 10) (a := u1) (st := [.inl y6]) rfl rfl (Nat.le_of_ble_eq_true rfl) rfl (by decide) (Nat.le_of_ble_eq_true rfl) (ok_Text_second G u1 y2 M hu1) (fun r69 => ?_)
    show pm_R _ _ _ (17, [(0, .inr (.inr (2, 64))), (1, .inr (.inr (10, u1))), (2, .inl y2), (3, .inl y3), (4, .inl y4), (5, .inl y5), (6, .inl y6)], [.inl r69, .inl y6], 119, pm_RF, M) _ _
    refine R_ic ho rfl (tgt := 184) rfl ?_
    refine R_ge ?_ ?_
    · refine R_pk [0, 5] rfl ?_
      exact R_ret rfl
    · refine R_st ho 2 (q' := (23, [(0, .inr (.inr (2, 64))), (1, .inr (.inr (10, u1))), (2, .inl y2), (3, .inl y3), (4, .inl y4), (5, .inl y5), (6, .inl y6)], [.inl y6, .inr (.inr (10, u1))], 119, pm_RF, M)) rfl ?_
      refine R_callV ho mv_Text_codeAt lk_2_53 rfl (As := [.inl y6]) (kd := 10) (a := u1) (st := []) rfl rfl (Nat.le_of_ble_eq_true rfl) rfl (by decide) (Nat.le_of_ble_eq_true rfl) (ok_Text_codeAt G u1 y6 M hu1) (fun r70 => ?_)
      show pm_R _ _ _ (26, [(0, .inr (.inr (2, 64))), (1, .inr (.inr (10, u1))), (2, .inl y2), (3, .inl y3), (4, .inl y4), (5, .inl y5), (6, .inl y6)], [.inl r70], 119, pm_RF, M) _ _
      refine R_st ho 6 (q' := (38, [(8, .inl (i_sb r70 10000)), (7, .inl r70), (0, .inr (.inr (2, 64))), (1, .inr (.inr (10, u1))), (2, .inl y2), (3, .inl y3), (4, .inl y4), (5, .inl y5), (6, .inl y6)], [.inl (i_sb r70 10000)], 119, pm_RF, M)) rfl ?_
      refine R_callS ho ms_Judge_takes lk_2_56 rfl (As := [.inl (i_sb r70 10000)]) (st := []) rfl (Nat.le_of_ble_eq_true rfl) rfl (by decide) (Nat.le_of_ble_eq_true rfl) (ok_Judge_takes G (i_sb r70 10000) M ) (fun r71 => ?_)
      show pm_R _ _ _ (41, [(8, .inl (i_sb r70 10000)), (7, .inl r70), (0, .inr (.inr (2, 64))), (1, .inr (.inr (10, u1))), (2, .inl y2), (3, .inl y3), (4, .inl y4), (5, .inl y5), (6, .inl y6)], [.inl r71], 119, pm_RF, M) _ _
      refine R_st ho 3 (q' := (47, [(9, .inl r71), (8, .inl (i_sb r70 10000)), (7, .inl r70), (0, .inr (.inr (2, 64))), (1, .inr (.inr (10, u1))), (2, .inl y2), (3, .inl y3), (4, .inl y4), (5, .inl y5), (6, .inl y6)], [.inl r71, .inl y5], 119, pm_RF, M)) rfl ?_
      refine R_ic ho rfl (tgt := 60) rfl ?_
      refine R_lt ?_ ?_
      · refine R_pk [] rfl ?_
        exact R_ret rfl
      · refine R_st ho 4 (q' := (57, [(9, .inl r71), (8, .inl (i_sb r70 10000)), (7, .inl r70), (0, .inr (.inr (2, 64))), (1, .inr (.inr (10, u1))), (2, .inl y2), (3, .inl y3), (4, .inl y4), (5, .inl y5), (6, .inl y6)], [.inl 40, .inl (i_sb y5 r71)], 119, pm_RF, M)) rfl ?_
        refine R_ic ho rfl (tgt := 62) rfl ?_
        refine R_lt ?_ ?_
        · refine R_st ho 6 (q' := (72, [(5, .inl (i_sb y5 r71)), (9, .inl r71), (8, .inl (i_sb r70 10000)), (7, .inl r70), (0, .inr (.inr (2, 64))), (1, .inr (.inr (10, u1))), (2, .inl y2), (3, .inl y3), (4, .inl y4), (6, .inl y6)], [.inl 2, .inl r71], 119, pm_RF, M)) rfl ?_
          refine R_ic ho rfl (tgt := 106) rfl ?_
          refine R_ne ?_ ?_
          · refine R_st ho 7 (q' := (89, [(5, .inl (i_sb y5 r71)), (9, .inl r71), (8, .inl (i_sb r70 10000)), (7, .inl r70), (0, .inr (.inr (2, 64))), (1, .inr (.inr (10, u1))), (2, .inl y2), (3, .inl y3), (4, .inl y4), (6, .inl y6)], [.inl (i_sb y5 r71), .inr (.inr (20, 65)), .inl (i_sb r70 10000), .inl (i_sb y5 r71), .inr (.inr (20, 65))], 119, pm_RF, M)) rfl ?_
            refine R_iald ho rfl rfl ?_
            refine R_st ho 5 (q' := (98, [(5, .inl (i_sb y5 r71)), (9, .inl r71), (8, .inl (i_sb r70 10000)), (7, .inl r70), (0, .inr (.inr (2, 64))), (1, .inr (.inr (10, u1))), (2, .inl y2), (3, .inl y3), (4, .inl y4), (6, .inl y6)], [.inl (i_ad (i_sb y5 r71) 1), .inr (.inr (20, 65)), .inl (M 65 ((i_sb y5 r71)).toNat), .inl (i_sb r70 10000), .inl (i_sb y5 r71), .inr (.inr (20, 65))], 119, pm_RF, M)) rfl ?_
            refine R_iald ho rfl rfl ?_
            refine R_callS ho ms_Judge_joined lk_2_59 rfl (As := [.inl (i_sb r70 10000), .inl (M 65 ((i_sb y5 r71)).toNat), .inl (M 65 ((i_ad (i_sb y5 r71) 1)).toNat)]) (st := [.inl (i_sb y5 r71), .inr (.inr (20, 65))]) rfl (Nat.le_of_ble_eq_true rfl) rfl (by decide) (Nat.le_of_ble_eq_true rfl) (ok_Judge_joined G (i_sb r70 10000) (M 65 ((i_sb y5 r71)).toNat) (M 65 ((i_ad (i_sb y5 r71) 1)).toNat) M ) (fun r98 => ?_)
            show pm_R _ _ _ (102, [(5, .inl (i_sb y5 r71)), (9, .inl r71), (8, .inl (i_sb r70 10000)), (7, .inl r70), (0, .inr (.inr (2, 64))), (1, .inr (.inr (10, u1))), (2, .inl y2), (3, .inl y3), (4, .inl y4), (6, .inl y6)], [.inl r98, .inl (i_sb y5 r71), .inr (.inr (20, 65))], 119, pm_RF, M) _ _
            refine R_iast ho rfl rfl ?_
            refine R_nm fun M99 => ?_
            refine R_st ho 4 (q' := (10, [(6, .inl (i_ad y6 1)), (5, .inl (i_ad (i_sb y5 r71) 1)), (9, .inl r71), (8, .inl (i_sb r70 10000)), (7, .inl r70), (0, .inr (.inr (2, 64))), (1, .inr (.inr (10, u1))), (2, .inl y2), (3, .inl y3), (4, .inl y4)], [], 119, pm_RF, M99)) rfl ?_
            refine R_pk [0, 1, 2, 3, 4, 5, 6] rfl ?_
            exact ih_ y2 y3 y4 (i_ad (i_sb y5 r71) 1) (i_ad y6 1) M99
          · refine R_st ho 2 (q' := (109, [(5, .inl (i_sb y5 r71)), (9, .inl r71), (8, .inl (i_sb r70 10000)), (7, .inl r70), (0, .inr (.inr (2, 64))), (1, .inr (.inr (10, u1))), (2, .inl y2), (3, .inl y3), (4, .inl y4), (6, .inl y6)], [.inl 1, .inl r71], 119, pm_RF, M)) rfl ?_
            refine R_ic ho rfl (tgt := 149) rfl ?_
            refine R_ne ?_ ?_
            · refine R_st ho 5 (q' := (122, [(5, .inl (i_sb y5 r71)), (9, .inl r71), (8, .inl (i_sb r70 10000)), (7, .inl r70), (0, .inr (.inr (2, 64))), (1, .inr (.inr (10, u1))), (2, .inl y2), (3, .inl y3), (4, .inl y4), (6, .inl y6)], [.inl 13, .inl (i_sb r70 10000), .inl (i_sb y5 r71), .inr (.inr (20, 65))], 119, pm_RF, M)) rfl ?_
              refine R_ic ho rfl (tgt := 137) rfl ?_
              refine R_ne ?_ ?_
              · refine R_st ho 4 (q' := (132, [(5, .inl (i_sb y5 r71)), (9, .inl r71), (8, .inl (i_sb r70 10000)), (7, .inl r70), (0, .inr (.inr (2, 64))), (1, .inr (.inr (10, u1))), (2, .inl y2), (3, .inl y3), (4, .inl y4), (6, .inl y6)], [.inl (i_sb y5 r71), .inr (.inr (20, 65)), .inl 1, .inl (i_sb y5 r71), .inr (.inr (20, 65))], 119, pm_RF, M)) rfl ?_
                refine R_iald ho rfl rfl ?_
                refine R_st ho 2 (q' := (145, [(5, .inl (i_sb y5 r71)), (9, .inl r71), (8, .inl (i_sb r70 10000)), (7, .inl r70), (0, .inr (.inr (2, 64))), (1, .inr (.inr (10, u1))), (2, .inl y2), (3, .inl y3), (4, .inl y4), (6, .inl y6)], [.inl (i_sb 1 (M 65 ((i_sb y5 r71)).toNat)), .inl (i_sb y5 r71), .inr (.inr (20, 65))], 119, pm_RF, M)) rfl ?_
                refine R_iast ho rfl rfl ?_
                refine R_nm fun M100 => ?_
                refine R_st ho 4 (q' := (10, [(6, .inl (i_ad y6 1)), (5, .inl (i_ad (i_sb y5 r71) 1)), (9, .inl r71), (8, .inl (i_sb r70 10000)), (7, .inl r70), (0, .inr (.inr (2, 64))), (1, .inr (.inr (10, u1))), (2, .inl y2), (3, .inl y3), (4, .inl y4)], [], 119, pm_RF, M100)) rfl ?_
                refine R_pk [0, 1, 2, 3, 4, 5, 6] rfl ?_
                exact ih_ y2 y3 y4 (i_ad (i_sb y5 r71) 1) (i_ad y6 1) M100
              · refine R_st ho 3 (q' := (143, [(5, .inl (i_sb y5 r71)), (9, .inl r71), (8, .inl (i_sb r70 10000)), (7, .inl r70), (0, .inr (.inr (2, 64))), (1, .inr (.inr (10, u1))), (2, .inl y2), (3, .inl y3), (4, .inl y4), (6, .inl y6)], [.inl (i_sb y5 r71), .inr (.inr (20, 65)), .inl (i_sb y5 r71), .inr (.inr (20, 65))], 119, pm_RF, M)) rfl ?_
                refine R_iald ho rfl rfl ?_
                refine R_st ho 1 (q' := (145, [(5, .inl (i_sb y5 r71)), (9, .inl r71), (8, .inl (i_sb r70 10000)), (7, .inl r70), (0, .inr (.inr (2, 64))), (1, .inr (.inr (10, u1))), (2, .inl y2), (3, .inl y3), (4, .inl y4), (6, .inl y6)], [.inl (i_ng (M 65 ((i_sb y5 r71)).toNat)), .inl (i_sb y5 r71), .inr (.inr (20, 65))], 119, pm_RF, M)) rfl ?_
                refine R_iast ho rfl rfl ?_
                refine R_nm fun M101 => ?_
                refine R_st ho 4 (q' := (10, [(6, .inl (i_ad y6 1)), (5, .inl (i_ad (i_sb y5 r71) 1)), (9, .inl r71), (8, .inl (i_sb r70 10000)), (7, .inl r70), (0, .inr (.inr (2, 64))), (1, .inr (.inr (10, u1))), (2, .inl y2), (3, .inl y3), (4, .inl y4)], [], 119, pm_RF, M101)) rfl ?_
                refine R_pk [0, 1, 2, 3, 4, 5, 6] rfl ?_
                exact ih_ y2 y3 y4 (i_ad (i_sb y5 r71) 1) (i_ad y6 1) M101
            · refine R_st ho 4 (q' := (157, [(5, .inl (i_sb y5 r71)), (9, .inl r71), (8, .inl (i_sb r70 10000)), (7, .inl r70), (0, .inr (.inr (2, 64))), (1, .inr (.inr (10, u1))), (2, .inl y2), (3, .inl y3), (4, .inl y4), (6, .inl y6)], [.inl (i_sb r70 10000), .inl (i_sb y5 r71), .inr (.inr (20, 65))], 119, pm_RF, M)) rfl ?_
              refine R_if ho rfl (tgt := 165) rfl ?_
              refine R_ge ?_ ?_
              · refine R_st ho 4 (q' := (171, [(5, .inl (i_sb y5 r71)), (9, .inl r71), (8, .inl (i_sb r70 10000)), (7, .inl r70), (0, .inr (.inr (2, 64))), (1, .inr (.inr (10, u1))), (2, .inl y2), (3, .inl y3), (4, .inl y4), (6, .inl y6)], [.inl y4, .inl y3, .inl (i_sb r70 10000), .inr (.inr (2, 64)), .inl (i_sb y5 r71), .inr (.inr (20, 65))], 119, pm_RF, M)) rfl ?_
                refine R_callV ho mv_Judge_named lk_2_63 rfl (As := [.inl (i_sb r70 10000), .inl y3, .inl y4]) (kd := 2) (a := 64) (st := [.inl (i_sb y5 r71), .inr (.inr (20, 65))]) rfl rfl (Nat.le_of_ble_eq_true rfl) rfl (by decide) (Nat.le_of_ble_eq_true rfl) (ok_Judge_named G (i_sb r70 10000) y3 y4 M ) (fun r121 => ?_)
                show pm_R _ _ _ (174, [(5, .inl (i_sb y5 r71)), (9, .inl r71), (8, .inl (i_sb r70 10000)), (7, .inl r70), (0, .inr (.inr (2, 64))), (1, .inr (.inr (10, u1))), (2, .inl y2), (3, .inl y3), (4, .inl y4), (6, .inl y6)], [.inl r121, .inl (i_sb y5 r71), .inr (.inr (20, 65))], 119, pm_RF, M) _ _
                refine R_iast ho rfl rfl ?_
                refine R_nm fun M122 => ?_
                refine R_st ho 3 (q' := (10, [(6, .inl (i_ad y6 1)), (5, .inl (i_ad (i_sb y5 r71) 1)), (9, .inl r71), (8, .inl (i_sb r70 10000)), (7, .inl r70), (0, .inr (.inr (2, 64))), (1, .inr (.inr (10, u1))), (2, .inl y2), (3, .inl y3), (4, .inl y4)], [], 119, pm_RF, M122)) rfl ?_
                refine R_pk [0, 1, 2, 3, 4, 5, 6] rfl ?_
                exact ih_ y2 y3 y4 (i_ad (i_sb y5 r71) 1) (i_ad y6 1) M122
              · refine R_st ho 2 (q' := (174, [(5, .inl (i_sb y5 r71)), (9, .inl r71), (8, .inl (i_sb r70 10000)), (7, .inl r70), (0, .inr (.inr (2, 64))), (1, .inr (.inr (10, u1))), (2, .inl y2), (3, .inl y3), (4, .inl y4), (6, .inl y6)], [.inl r70, .inl (i_sb y5 r71), .inr (.inr (20, 65))], 119, pm_RF, M)) rfl ?_
                refine R_iast ho rfl rfl ?_
                refine R_nm fun M123 => ?_
                refine R_st ho 3 (q' := (10, [(6, .inl (i_ad y6 1)), (5, .inl (i_ad (i_sb y5 r71) 1)), (9, .inl r71), (8, .inl (i_sb r70 10000)), (7, .inl r70), (0, .inr (.inr (2, 64))), (1, .inr (.inr (10, u1))), (2, .inl y2), (3, .inl y3), (4, .inl y4)], [], 119, pm_RF, M123)) rfl ?_
                refine R_pk [0, 1, 2, 3, 4, 5, 6] rfl ?_
                exact ih_ y2 y3 y4 (i_ad (i_sb y5 r71) 1) (i_ad y6 1) M123
        · refine R_pk [] rfl ?_
          exact R_ret rfl
theorem ok_Judge_reckon (G : pm_G) (t1 : Nat) (x2 : Int) (x3 : Int) (x4 : Int) (M : pm_M) (ht1 : pm_isT t1) : pm_R G mt_Judge_reckon 3 (0, [(0, .inr (.inr (2, 64))), (1, .inr (.inr (10, t1))), (2, .inl x2), (3, .inl x3), (4, .inl x4)], [], 119, pm_RF, M) (f_Judge_reckon t1 x2 x3 x4 M) (pm_Zr mt_Judge_reckon pm_gI) := by
  have ho : pm_oG G mt_Judge_reckon := (oa_Judge_reckon).g G
  unfold f_Judge_reckon
  refine R_st ho 4 (q' := (5, [(5, .inl 0), (0, .inr (.inr (2, 64))), (1, .inr (.inr (10, t1))), (2, .inl x2), (3, .inl x3), (4, .inl x4)], [.inl x2, .inr (.inr (10, t1))], 119, pm_RF, M)) rfl ?_
  refine R_callV ho mv_Text_first lk_2_47 rfl (As := [.inl x2]) (kd := 10) (a := t1) (st := []) rfl rfl (Nat.le_of_ble_eq_true rfl) rfl (by decide) (Nat.le_of_ble_eq_true rfl) (ok_Text_first G t1 x2 M ht1) (fun r68 => ?_)
  show pm_R _ _ _ (8, [(5, .inl 0), (0, .inr (.inr (2, 64))), (1, .inr (.inr (10, t1))), (2, .inl x2), (3, .inl x3), (4, .inl x4)], [.inl r68], 119, pm_RF, M) _ _
  refine R_st ho 1 (q' := (10, [(6, .inl r68), (5, .inl 0), (0, .inr (.inr (2, 64))), (1, .inr (.inr (10, t1))), (2, .inl x2), (3, .inl x3), (4, .inl x4)], [], 119, pm_RF, M)) rfl ?_
  refine R_pk [0, 1, 2, 3, 4, 5, 6] rfl ?_
  refine R_bind (ok_Judge_reckon_L10 G t1 ht1 pm_F x2 x3 x4 0 r68 M) ?_
  intro e124 q_ hq_
  cases e124 with
  | inl e124 =>
    obtain rfl : q_ = (60, [], [], 119, pm_RF, e124) := hq_
    refine R_st ho 1 (q' := (61, [], [.inl 0], 119, pm_RF, e124)) rfl ?_
    exact R_end (v := some (.inl 0)) rfl (Or.inl rfl) rfl rfl
  | inr e124 =>
    obtain rfl : q_ = (184, [(0, .inr (.inr (2, 64))), (5, .inl e124.1)], [], 119, pm_RF, e124.2) := hq_
    refine R_st ho 1 (q' := (186, [(0, .inr (.inr (2, 64))), (5, .inl e124.1)], [.inl e124.1], 119, pm_RF, e124.2)) rfl ?_
    refine R_if ho rfl (tgt := 201) rfl ?_
    refine R_le ?_ ?_
    · refine R_st ho 1 (q' := (202, [(0, .inr (.inr (2, 64))), (5, .inl e124.1)], [.inl 0], 119, pm_RF, e124.2)) rfl ?_
      exact R_end (v := some (.inl 0)) rfl (Or.inl rfl) rfl rfl
    · refine R_st ho 5 (q' := (197, [(0, .inr (.inr (2, 64))), (5, .inl e124.1)], [.inl (i_sb e124.1 1), .inr (.inr (20, 65))], 119, pm_RF, e124.2)) rfl ?_
      refine R_iald ho rfl rfl ?_
      refine R_st ho 1 (q' := (202, [(0, .inr (.inr (2, 64))), (5, .inl e124.1)], [.inl (e124.2 65 ((i_sb e124.1 1)).toNat)], 119, pm_RF, e124.2)) rfl ?_
      exact R_end (v := some (.inl (e124.2 65 ((i_sb e124.1 1)).toNat))) rfl (Or.inl rfl) rfl rfl
theorem ok_Judge_amount (G : pm_G) (x1 : Int) (x2 : Int) (x3 : Int) (M : pm_M)  : pm_R G mt_Judge_amount 4 (0, [(0, .inr (.inr (2, 64))), (1, .inl x1), (2, .inl x2), (3, .inl x3)], [], 119, pm_RF, M) (f_Judge_amount x1 x2 x3 M) (pm_Zr mt_Judge_amount pm_gI) := by
  have ho : pm_oG G mt_Judge_amount := (oa_Judge_amount).g G
  unfold f_Judge_amount
  refine R_st ho 2 (q' := (4, [(0, .inr (.inr (2, 64))), (1, .inl x1), (2, .inl x2), (3, .inl x3)], [.inr (.inr (11, 24))], 119, pm_RF, M)) rfl ?_
  refine R_callV ho mv_Told_ruling lk_2_27 rfl (As := []) (kd := 11) (a := 24) (st := []) rfl rfl (Nat.le_of_ble_eq_true rfl) rfl (by decide) (Nat.le_of_ble_eq_true rfl) (ok_Told_ruling G  M ) (fun r64 => ?_)
  show pm_R _ _ _ (7, [(0, .inr (.inr (2, 64))), (1, .inl x1), (2, .inl x2), (3, .inl x3)], [.inl r64], 119, pm_RF, M) _ _
  refine R_st ho 4 (q' := (15, [(4, .inl r64), (0, .inr (.inr (2, 64))), (1, .inl x1), (2, .inl x2), (3, .inl x3)], [.inl r64, .inr (.inr (11, 24))], 119, pm_RF, M)) rfl ?_
  refine R_callV ho mv_Told_isText lk_2_33 rfl (As := [.inl r64]) (kd := 11) (a := 24) (st := []) rfl rfl (Nat.le_of_ble_eq_true rfl) rfl (by decide) (Nat.le_of_ble_eq_true rfl) (ok_Told_isText G r64 M ) (fun r65 => ?_)
  show pm_R _ _ _ (18, [(4, .inl r64), (0, .inr (.inr (2, 64))), (1, .inl x1), (2, .inl x2), (3, .inl x3)], [.inl r65], 119, pm_RF, M) _ _
  refine R_if ho rfl (tgt := 31) rfl ?_
  refine R_ne ?_ ?_
  · refine R_st ho 1 (q' := (22, [(4, .inl r64), (0, .inr (.inr (2, 64))), (1, .inl x1), (2, .inl x2), (3, .inl x3)], [.inl x1], 119, pm_RF, M)) rfl ?_
    refine R_if ho rfl (tgt := 29) rfl ?_
    refine R_ne ?_ ?_
    · refine R_st ho 2 (q' := (30, [(4, .inl r64), (0, .inr (.inr (2, 64))), (1, .inl x1), (2, .inl x2), (3, .inl x3)], [.inl 1], 119, pm_RF, M)) rfl ?_
      exact R_end (v := some (.inl 1)) rfl (Or.inl rfl) rfl rfl
    · refine R_st ho 1 (q' := (30, [(4, .inl r64), (0, .inr (.inr (2, 64))), (1, .inl x1), (2, .inl x2), (3, .inl x3)], [.inl 0], 119, pm_RF, M)) rfl ?_
      exact R_end (v := some (.inl 0)) rfl (Or.inl rfl) rfl rfl
  · refine R_st ho 3 (q' := (37, [(4, .inl r64), (0, .inr (.inr (2, 64))), (1, .inl x1), (2, .inl x2), (3, .inl x3)], [.inl r64, .inr (.inr (24, 39))], 119, pm_RF, M)) rfl ?_
    refine R_aaldT ho rfl (fun h66 => ?_)
    refine R_st ho 3 (q' := (43, [(5, .inr (.inr (10, (pm_tx r64)))), (4, .inl r64), (0, .inr (.inr (2, 64))), (1, .inl x1), (2, .inl x2), (3, .inl x3)], [.inl x1, .inr (.inr (10, (pm_tx r64)))], 119, pm_RF, M)) rfl ?_
    refine R_callV ho mv_Text_clauseOf lk_2_37 rfl (As := [.inl x1]) (kd := 10) (a := (pm_tx r64)) (st := []) rfl rfl (Nat.le_of_ble_eq_true rfl) rfl (by decide) (Nat.le_of_ble_eq_true rfl) (ok_Text_clauseOf G (pm_tx r64) x1 M h66) (fun r67 => ?_)
    show pm_R _ _ _ (46, [(5, .inr (.inr (10, (pm_tx r64)))), (4, .inl r64), (0, .inr (.inr (2, 64))), (1, .inl x1), (2, .inl x2), (3, .inl x3)], [.inl r67], 119, pm_RF, M) _ _
    refine R_st ho 3 (q' := (51, [(6, .inl r67), (5, .inr (.inr (10, (pm_tx r64)))), (4, .inl r64), (0, .inr (.inr (2, 64))), (1, .inl x1), (2, .inl x2), (3, .inl x3)], [.inl (-1), .inl r67], 119, pm_RF, M)) rfl ?_
    refine R_ic ho rfl (tgt := 64) rfl ?_
    refine R_ne ?_ ?_
    · refine R_st ho 1 (q' := (55, [(6, .inl r67), (5, .inr (.inr (10, (pm_tx r64)))), (4, .inl r64), (0, .inr (.inr (2, 64))), (1, .inl x1), (2, .inl x2), (3, .inl x3)], [.inl x1], 119, pm_RF, M)) rfl ?_
      refine R_if ho rfl (tgt := 62) rfl ?_
      refine R_ne ?_ ?_
      · refine R_st ho 2 (q' := (63, [(6, .inl r67), (5, .inr (.inr (10, (pm_tx r64)))), (4, .inl r64), (0, .inr (.inr (2, 64))), (1, .inl x1), (2, .inl x2), (3, .inl x3)], [.inl 1], 119, pm_RF, M)) rfl ?_
        exact R_end (v := some (.inl 1)) rfl (Or.inl rfl) rfl rfl
      · refine R_st ho 1 (q' := (63, [(6, .inl r67), (5, .inr (.inr (10, (pm_tx r64)))), (4, .inl r64), (0, .inr (.inr (2, 64))), (1, .inl x1), (2, .inl x2), (3, .inl x3)], [.inl 0], 119, pm_RF, M)) rfl ?_
        exact R_end (v := some (.inl 0)) rfl (Or.inl rfl) rfl rfl
    · refine R_st ho 5 (q' := (71, [(6, .inl r67), (5, .inr (.inr (10, (pm_tx r64)))), (4, .inl r64), (0, .inr (.inr (2, 64))), (1, .inl x1), (2, .inl x2), (3, .inl x3)], [.inl x3, .inl x2, .inl r67, .inr (.inr (10, (pm_tx r64))), .inr (.inr (2, 64))], 119, pm_RF, M)) rfl ?_
      refine R_callV ho mv_Judge_reckon lk_2_43 rfl (As := [.inr (.inr (10, (pm_tx r64))), .inl r67, .inl x2, .inl x3]) (kd := 2) (a := 64) (st := []) rfl rfl (Nat.le_of_ble_eq_true rfl) rfl (by decide) (Nat.le_of_ble_eq_true rfl) (ok_Judge_reckon G (pm_tx r64) r67 x2 x3 M h66) (fun r125 => ?_)
      show pm_R _ _ _ (74, [(6, .inl r67), (5, .inr (.inr (10, (pm_tx r64)))), (4, .inl r64), (0, .inr (.inr (2, 64))), (1, .inl x1), (2, .inl x2), (3, .inl x3)], [.inl r125.1], 119, pm_RF, r125.2) _ _
      refine R_st ho 2 (q' := (78, [(7, .inl r125.1), (6, .inl r67), (5, .inr (.inr (10, (pm_tx r64)))), (4, .inl r64), (0, .inr (.inr (2, 64))), (1, .inl x1), (2, .inl x2), (3, .inl x3)], [.inl r125.1], 119, pm_RF, r125.2)) rfl ?_
      refine R_if ho rfl (tgt := 83) rfl ?_
      refine R_ge ?_ ?_
      · refine R_st ho 2 (q' := (88, [(7, .inl r125.1), (6, .inl r67), (5, .inr (.inr (10, (pm_tx r64)))), (4, .inl r64), (0, .inr (.inr (2, 64))), (1, .inl x1), (2, .inl x2), (3, .inl x3)], [.inl 999, .inl r125.1], 119, pm_RF, r125.2)) rfl ?_
        refine R_ic ho rfl (tgt := 97) rfl ?_
        refine R_le ?_ ?_
        · refine R_st ho 1 (q' := (99, [(7, .inl r125.1), (6, .inl r67), (5, .inr (.inr (10, (pm_tx r64)))), (4, .inl r64), (0, .inr (.inr (2, 64))), (1, .inl x1), (2, .inl x2), (3, .inl x3)], [.inl r125.1], 119, pm_RF, r125.2)) rfl ?_
          exact R_end (v := some (.inl r125.1)) rfl (Or.inl rfl) rfl rfl
        · refine R_st ho 2 (q' := (99, [(7, .inl r125.1), (6, .inl r67), (5, .inr (.inr (10, (pm_tx r64)))), (4, .inl r64), (0, .inr (.inr (2, 64))), (1, .inl x1), (2, .inl x2), (3, .inl x3)], [.inl 999], 119, pm_RF, r125.2)) rfl ?_
          exact R_end (v := some (.inl 999)) rfl (Or.inl rfl) rfl rfl
      · refine R_st ho 1 (q' := (82, [(7, .inl r125.1), (6, .inl r67), (5, .inr (.inr (10, (pm_tx r64)))), (4, .inl r64), (0, .inr (.inr (2, 64))), (1, .inl x1), (2, .inl x2), (3, .inl x3)], [.inl 0], 119, pm_RF, r125.2)) rfl ?_
        exact R_end (v := some (.inl 0)) rfl (Or.inl rfl) rfl rfl
theorem ok_Moment_stoodPlace (G : pm_G) (x0 : Int) (x1 : Int) (M : pm_M)  : pm_R G mt_Moment_stoodPlace 1 (0, [(0, .inl x0), (1, .inl x1)], [], 119, pm_RF, M) (f_Moment_stoodPlace x0 x1 M) (pm_Zr mt_Moment_stoodPlace (pm_gi M)) := by
  have ho : pm_oG G mt_Moment_stoodPlace := (oa_Moment_stoodPlace).g G
  unfold f_Moment_stoodPlace
  refine R_st ho 9 (q' := (11, [(0, .inl x0), (1, .inl x1)], [.inl (i_ad (i_ad (i_ad 30 (i_ml x0 13)) x1) 1)], 119, pm_RF, M)) rfl ?_
  exact R_end (v := some (.inl (i_ad (i_ad (i_ad 30 (i_ml x0 13)) x1) 1))) rfl (Or.inl rfl) rfl rfl
theorem ok_Moment_standsADay (G : pm_G) (x1 : Int) (M : pm_M)  : pm_R G mt_Moment_standsADay 2 (0, [(0, .inr (.inr (4, 35))), (1, .inl x1)], [], 119, pm_RF, M) (f_Moment_standsADay x1 M) (pm_Zr mt_Moment_standsADay pm_gV) := by
  have ho : pm_oG G mt_Moment_standsADay := (oa_Moment_standsADay).g G
  unfold f_Moment_standsADay
  refine R_st ho 4 (q' := (6, [(0, .inr (.inr (4, 35))), (1, .inl x1)], [.inl x1, .inr (.inr (4, 35)), .inr (.inr (20, 36))], 119, pm_RF, M)) rfl ?_
  refine R_callV ho mv_Moment_headAt lk_4_19 rfl (As := [.inl x1]) (kd := 4) (a := 35) (st := [.inr (.inr (20, 36))]) rfl rfl (Nat.le_of_ble_eq_true rfl) rfl (by decide) (Nat.le_of_ble_eq_true rfl) (ok_Moment_headAt G x1 M ) (fun r128 => ?_)
  show pm_R _ _ _ (9, [(0, .inr (.inr (4, 35))), (1, .inl x1)], [.inl r128, .inr (.inr (20, 36))], 119, pm_RF, M) _ _
  refine R_st ho 2 (q' := (11, [(0, .inr (.inr (4, 35))), (1, .inl x1)], [.inl x1, .inr (.inr (4, 35)), .inl r128, .inr (.inr (20, 36))], 119, pm_RF, M)) rfl ?_
  refine R_callV ho mv_Moment_nameAt lk_4_23 rfl (As := [.inl x1]) (kd := 4) (a := 35) (st := [.inl r128, .inr (.inr (20, 36))]) rfl rfl (Nat.le_of_ble_eq_true rfl) rfl (by decide) (Nat.le_of_ble_eq_true rfl) (ok_Moment_nameAt G x1 M ) (fun r129 => ?_)
  show pm_R _ _ _ (14, [(0, .inr (.inr (4, 35))), (1, .inl x1)], [.inl r129, .inl r128, .inr (.inr (20, 36))], 119, pm_RF, M) _ _
  refine R_callS ho ms_Moment_stoodPlace lk_4_15 rfl (As := [.inl r128, .inl r129]) (st := [.inr (.inr (20, 36))]) rfl (Nat.le_of_ble_eq_true rfl) rfl (by decide) (Nat.le_of_ble_eq_true rfl) (ok_Moment_stoodPlace G r128 r129 M ) (fun r130 => ?_)
  show pm_R _ _ _ (17, [(0, .inr (.inr (4, 35))), (1, .inl x1)], [.inl r130, .inr (.inr (20, 36))], 119, pm_RF, M) _ _
  refine R_st ho 1 (q' := (18, [(0, .inr (.inr (4, 35))), (1, .inl x1)], [.inl r130, .inr (.inr (20, 36)), .inl r130, .inr (.inr (20, 36))], 119, pm_RF, M)) rfl ?_
  refine R_iald ho rfl rfl ?_
  refine R_st ho 2 (q' := (21, [(0, .inr (.inr (4, 35))), (1, .inl x1)], [.inl (i_ad (M 36 (r130).toNat) 1), .inl r130, .inr (.inr (20, 36))], 119, pm_RF, M)) rfl ?_
  refine R_iast ho rfl rfl ?_
  refine R_nm fun M131 => ?_
  exact R_end (v := none) rfl rfl rfl rfl
theorem ok_Moment_nextDay (G : pm_G)  (M : pm_M)  : pm_R G mt_Moment_nextDay 1 (0, [(0, .inr (.inr (4, 35)))], [], 119, pm_RF, M) (f_Moment_nextDay M) (pm_Zr mt_Moment_nextDay pm_gV) := by
  have ho : pm_oG G mt_Moment_nextDay := (oa_Moment_nextDay).g G
  unfold f_Moment_nextDay
  refine R_st ho 8 (q' := (11, [(0, .inr (.inr (4, 35)))], [], 119, pm_RF, (pm_ms M 36 29 (i_ad (M 36 29) 1)))) rfl ?_
  refine R_nm fun M143 => ?_
  exact R_end (v := none) rfl rfl rfl rfl
theorem ok_X_dayPasses_L2 (G : pm_G)    : ∀ (n_ : Nat) (y1 : Int) (M : pm_M), pm_R G mt_X_dayPasses 5 (2, [(0, .inr (.inr (0, 0))), (1, .inl y1)], [], 119, pm_RF, M) (f_X_dayPasses_L2 n_ y1 M) (fun e_ q_ => q_ = (96, [(0, .inr (.inr (0, 0)))], [], 119, pm_RF, e_)) := by
  have ho : pm_oG G mt_X_dayPasses := (oa_X_dayPasses).g G
  intro n_
  induction n_ with
  | zero => intro _ _; exact R_none
  | succ n_ ih_ =>
    intro y1 M
    rw [f_X_dayPasses_L2]
    refine R_st ho 3 (q' := (7, [(0, .inr (.inr (0, 0))), (1, .inl y1)], [.inr (.inr (11, 24)), .inl y1], 119, pm_RF, M)) rfl ?_
    refine R_callV ho mv_Told_plinths lk_0_292 rfl (As := []) (kd := 11) (a := 24) (st := [.inl y1]) rfl rfl (Nat.le_of_ble_eq_true rfl) rfl (by decide) (Nat.le_of_ble_eq_true rfl) (ok_Told_plinths G  M ) (fun r62 => ?_)
    show pm_R _ _ _ (10, [(0, .inr (.inr (0, 0))), (1, .inl y1)], [.inl r62, .inl y1], 119, pm_RF, M) _ _
    refine R_ic ho rfl (tgt := 96) rfl ?_
    refine R_ge ?_ ?_
    · refine R_pk [0] rfl ?_
      exact R_ret rfl
    · refine R_st ho 3 (q' := (18, [(0, .inr (.inr (0, 0))), (1, .inl y1)], [.inl y1, .inr (.inr (4, 35))], 119, pm_RF, M)) rfl ?_
      refine R_callV ho mv_Moment_headAt lk_0_129 rfl (As := [.inl y1]) (kd := 4) (a := 35) (st := []) rfl rfl (Nat.le_of_ble_eq_true rfl) rfl (by decide) (Nat.le_of_ble_eq_true rfl) (ok_Moment_headAt G y1 M ) (fun r63 => ?_)
      show pm_R _ _ _ (21, [(0, .inr (.inr (0, 0))), (1, .inl y1)], [.inl r63], 119, pm_RF, M) _ _
      refine R_st ho 3 (q' := (24, [(2, .inl r63), (0, .inr (.inr (0, 0))), (1, .inl y1)], [.inl (-1), .inl r63], 119, pm_RF, M)) rfl ?_
      refine R_ic ho rfl (tgt := 47) rfl ?_
      refine R_ne ?_ ?_
      · refine R_st ho 7 (q' := (38, [(2, .inl r63), (0, .inr (.inr (0, 0))), (1, .inl y1)], [.inl (-1), .inl y1, .inl 3, .inr (.inr (2, 64)), .inr (.inr (4, 35))], 119, pm_RF, M)) rfl ?_
        refine R_callV ho mv_Judge_amount lk_0_239 rfl (As := [.inl 3, .inl y1, .inl (-1)]) (kd := 2) (a := 64) (st := [.inr (.inr (4, 35))]) rfl rfl (Nat.le_of_ble_eq_true rfl) rfl (by decide) (Nat.le_of_ble_eq_true rfl) (ok_Judge_amount G 3 y1 (-1) M ) (fun r126 => ?_)
        show pm_R _ _ _ (41, [(2, .inl r63), (0, .inr (.inr (0, 0))), (1, .inl y1)], [.inl r126.1, .inr (.inr (4, 35))], 119, pm_RF, r126.2) _ _
        refine R_callV ho mv_Moment_earn lk_0_164 rfl (As := [.inl r126.1]) (kd := 4) (a := 35) (st := []) rfl rfl (Nat.le_of_ble_eq_true rfl) rfl (by decide) (Nat.le_of_ble_eq_true rfl) (ok_Moment_earn G r126.1 r126.2 ) (fun M127 => ?_)
        show pm_R _ _ _ (44, [(2, .inl r63), (0, .inr (.inr (0, 0))), (1, .inl y1)], [], 119, pm_RF, M127) _ _
        refine R_st ho 3 (q' := (2, [(1, .inl (i_ad y1 1)), (2, .inl r63), (0, .inr (.inr (0, 0)))], [], 119, pm_RF, M127)) rfl ?_
        refine R_pk [0, 1] rfl ?_
        exact ih_ (i_ad y1 1) M127
      · refine R_st ho 3 (q' := (52, [(2, .inl r63), (0, .inr (.inr (0, 0))), (1, .inl y1)], [.inl y1, .inr (.inr (4, 35))], 119, pm_RF, M)) rfl ?_
        refine R_callV ho mv_Moment_standsADay lk_0_346 rfl (As := [.inl y1]) (kd := 4) (a := 35) (st := []) rfl rfl (Nat.le_of_ble_eq_true rfl) rfl (by decide) (Nat.le_of_ble_eq_true rfl) (ok_Moment_standsADay G y1 M ) (fun M132 => ?_)
        show pm_R _ _ _ (55, [(2, .inl r63), (0, .inr (.inr (0, 0))), (1, .inl y1)], [], 119, pm_RF, M132) _ _
        refine R_st ho 7 (q' := (66, [(2, .inl r63), (0, .inr (.inr (0, 0))), (1, .inl y1)], [.inl r63, .inl y1, .inl 1, .inr (.inr (2, 64)), .inr (.inr (4, 35))], 119, pm_RF, M132)) rfl ?_
        refine R_callV ho mv_Judge_amount lk_0_239 rfl (As := [.inl 1, .inl y1, .inl r63]) (kd := 2) (a := 64) (st := [.inr (.inr (4, 35))]) rfl rfl (Nat.le_of_ble_eq_true rfl) rfl (by decide) (Nat.le_of_ble_eq_true rfl) (ok_Judge_amount G 1 y1 r63 M132 ) (fun r133 => ?_)
        show pm_R _ _ _ (69, [(2, .inl r63), (0, .inr (.inr (0, 0))), (1, .inl y1)], [.inl r133.1, .inr (.inr (4, 35))], 119, pm_RF, r133.2) _ _
        refine R_callV ho mv_Moment_earn lk_0_164 rfl (As := [.inl r133.1]) (kd := 4) (a := 35) (st := []) rfl rfl (Nat.le_of_ble_eq_true rfl) rfl (by decide) (Nat.le_of_ble_eq_true rfl) (ok_Moment_earn G r133.1 r133.2 ) (fun M134 => ?_)
        show pm_R _ _ _ (72, [(2, .inl r63), (0, .inr (.inr (0, 0))), (1, .inl y1)], [], 119, pm_RF, M134) _ _
        refine R_st ho 8 (q' := (84, [(2, .inl r63), (0, .inr (.inr (0, 0))), (1, .inl y1)], [.inl r63, .inl y1, .inl 0, .inr (.inr (2, 64)), .inl r63, .inr (.inr (4, 35))], 119, pm_RF, M134)) rfl ?_
        refine R_callV ho mv_Judge_amount lk_0_239 rfl (As := [.inl 0, .inl y1, .inl r63]) (kd := 2) (a := 64) (st := [.inl r63, .inr (.inr (4, 35))]) rfl rfl (Nat.le_of_ble_eq_true rfl) rfl (by decide) (Nat.le_of_ble_eq_true rfl) (ok_Judge_amount G 0 y1 r63 M134 ) (fun r135 => ?_)
        show pm_R _ _ _ (87, [(2, .inl r63), (0, .inr (.inr (0, 0))), (1, .inl y1)], [.inl r135.1, .inl r63, .inr (.inr (4, 35))], 119, pm_RF, r135.2) _ _
        refine R_callV ho mv_Moment_owe lk_0_161 rfl (As := [.inl r63, .inl r135.1]) (kd := 4) (a := 35) (st := []) rfl rfl (Nat.le_of_ble_eq_true rfl) rfl (by decide) (Nat.le_of_ble_eq_true rfl) (ok_Moment_owe G r63 r135.1 r135.2 ) (fun M136 => ?_)
        show pm_R _ _ _ (90, [(2, .inl r63), (0, .inr (.inr (0, 0))), (1, .inl y1)], [], 119, pm_RF, M136) _ _
        refine R_st ho 2 (q' := (2, [(1, .inl (i_ad y1 1)), (2, .inl r63), (0, .inr (.inr (0, 0)))], [], 119, pm_RF, M136)) rfl ?_
        refine R_pk [0, 1] rfl ?_
        exact ih_ (i_ad y1 1) M136
theorem ok_X_dayPasses_L98 (G : pm_G)    : ∀ (n_ : Nat) (y1 : Int) (M : pm_M), pm_R G mt_X_dayPasses 5 (98, [(0, .inr (.inr (0, 0))), (1, .inl y1)], [], 119, pm_RF, M) (f_X_dayPasses_L98 n_ y1 M) (fun e_ q_ => q_ = (151, [(0, .inr (.inr (0, 0)))], [], 119, pm_RF, e_)) := by
  have ho : pm_oG G mt_X_dayPasses := (oa_X_dayPasses).g G
  intro n_
  induction n_ with
  | zero => intro _ _; exact R_none
  | succ n_ ih_ =>
    intro y1 M
    rw [f_X_dayPasses_L98]
    refine R_st ho 3 (q' := (103, [(0, .inr (.inr (0, 0))), (1, .inl y1)], [.inr (.inr (11, 24)), .inl y1], 119, pm_RF, M)) rfl ?_
    refine R_callV ho mv_Told_plinths lk_0_292 rfl (As := []) (kd := 11) (a := 24) (st := [.inl y1]) rfl rfl (Nat.le_of_ble_eq_true rfl) rfl (by decide) (Nat.le_of_ble_eq_true rfl) (ok_Told_plinths G  M ) (fun r138 => ?_)
    show pm_R _ _ _ (106, [(0, .inr (.inr (0, 0))), (1, .inl y1)], [.inl r138, .inl y1], 119, pm_RF, M) _ _
    refine R_ic ho rfl (tgt := 151) rfl ?_
    refine R_ge ?_ ?_
    · refine R_pk [0] rfl ?_
      exact R_ret rfl
    · refine R_st ho 3 (q' := (114, [(0, .inr (.inr (0, 0))), (1, .inl y1)], [.inl y1, .inr (.inr (4, 35))], 119, pm_RF, M)) rfl ?_
      refine R_callV ho mv_Moment_headAt lk_0_129 rfl (As := [.inl y1]) (kd := 4) (a := 35) (st := []) rfl rfl (Nat.le_of_ble_eq_true rfl) rfl (by decide) (Nat.le_of_ble_eq_true rfl) (ok_Moment_headAt G y1 M ) (fun r139 => ?_)
      show pm_R _ _ _ (117, [(0, .inr (.inr (0, 0))), (1, .inl y1)], [.inl r139], 119, pm_RF, M) _ _
      refine R_st ho 3 (q' := (120, [(2, .inl r139), (0, .inr (.inr (0, 0))), (1, .inl y1)], [.inl (-1), .inl r139], 119, pm_RF, M)) rfl ?_
      refine R_ic ho rfl (tgt := 145) rfl ?_
      refine R_eq ?_ ?_
      · refine R_st ho 2 (q' := (98, [(1, .inl (i_ad y1 1)), (2, .inl r139), (0, .inr (.inr (0, 0)))], [], 119, pm_RF, M)) rfl ?_
        refine R_pk [0, 1] rfl ?_
        exact ih_ (i_ad y1 1) M
      · refine R_st ho 5 (q' := (130, [(2, .inl r139), (0, .inr (.inr (0, 0))), (1, .inl y1)], [.inl r139, .inl y1, .inl 4, .inr (.inr (2, 64))], 119, pm_RF, M)) rfl ?_
        refine R_callV ho mv_Judge_amount lk_0_239 rfl (As := [.inl 4, .inl y1, .inl r139]) (kd := 2) (a := 64) (st := []) rfl rfl (Nat.le_of_ble_eq_true rfl) rfl (by decide) (Nat.le_of_ble_eq_true rfl) (ok_Judge_amount G 4 y1 r139 M ) (fun r140 => ?_)
        show pm_R _ _ _ (133, [(2, .inl r139), (0, .inr (.inr (0, 0))), (1, .inl y1)], [.inl r140.1], 119, pm_RF, r140.2) _ _
        refine R_if ho rfl (tgt := 145) rfl ?_
        refine R_eq ?_ ?_
        · refine R_st ho 2 (q' := (98, [(1, .inl (i_ad y1 1)), (2, .inl r139), (0, .inr (.inr (0, 0)))], [], 119, pm_RF, r140.2)) rfl ?_
          refine R_pk [0, 1] rfl ?_
          exact ih_ (i_ad y1 1) r140.2
        · refine R_st ho 4 (q' := (142, [(2, .inl r139), (0, .inr (.inr (0, 0))), (1, .inl y1)], [.inl (-1), .inl y1, .inr (.inr (4, 35))], 119, pm_RF, r140.2)) rfl ?_
          refine R_callV ho mv_Moment_stand lk_0_121 rfl (As := [.inl y1, .inl (-1)]) (kd := 4) (a := 35) (st := []) rfl rfl (Nat.le_of_ble_eq_true rfl) rfl (by decide) (Nat.le_of_ble_eq_true rfl) (ok_Moment_stand G y1 (-1) r140.2 ) (fun M141 => ?_)
          show pm_R _ _ _ (145, [(2, .inl r139), (0, .inr (.inr (0, 0))), (1, .inl y1)], [], 119, pm_RF, M141) _ _
          refine R_st ho 2 (q' := (98, [(1, .inl (i_ad y1 1)), (2, .inl r139), (0, .inr (.inr (0, 0)))], [], 119, pm_RF, M141)) rfl ?_
          refine R_pk [0, 1] rfl ?_
          exact ih_ (i_ad y1 1) M141
theorem ok_X_dayPasses (G : pm_G)  (M : pm_M)  : pm_R G mt_X_dayPasses 5 (0, [(0, .inr (.inr (0, 0)))], [], 119, pm_RF, M) (f_X_dayPasses M) (pm_Zr mt_X_dayPasses pm_gV) := by
  have ho : pm_oG G mt_X_dayPasses := (oa_X_dayPasses).g G
  unfold f_X_dayPasses
  refine R_st ho 2 (q' := (2, [(1, .inl 0), (0, .inr (.inr (0, 0)))], [], 119, pm_RF, M)) rfl ?_
  refine R_pk [0, 1] rfl ?_
  refine R_bind (ok_X_dayPasses_L2 G pm_F 0 M) ?_
  intro e137 q_ hq_
  obtain rfl : q_ = (96, [(0, .inr (.inr (0, 0)))], [], 119, pm_RF, e137) := hq_
  refine R_st ho 2 (q' := (98, [(1, .inl 0), (0, .inr (.inr (0, 0)))], [], 119, pm_RF, e137)) rfl ?_
  refine R_pk [0, 1] rfl ?_
  refine R_bind (ok_X_dayPasses_L98 G pm_F 0 e137) ?_
  intro e142 q_ hq_
  obtain rfl : q_ = (151, [(0, .inr (.inr (0, 0)))], [], 119, pm_RF, e142) := hq_
  refine R_st ho 2 (q' := (155, [(0, .inr (.inr (0, 0)))], [.inr (.inr (4, 35))], 119, pm_RF, e142)) rfl ?_
  refine R_callV ho mv_Moment_nextDay lk_0_349 rfl (As := []) (kd := 4) (a := 35) (st := []) rfl rfl (Nat.le_of_ble_eq_true rfl) rfl (by decide) (Nat.le_of_ble_eq_true rfl) (ok_Moment_nextDay G  e142 ) (fun M144 => ?_)
  show pm_R _ _ _ (158, [(0, .inr (.inr (0, 0)))], [], 119, pm_RF, M144) _ _
  exact R_end (v := none) rfl rfl rfl rfl
