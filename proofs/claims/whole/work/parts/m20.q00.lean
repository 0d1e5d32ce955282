/-! printed by my own program: functions of the pure memory, and that the code follows them -/
theorem ok_Q_in (G : pm_G) (x0 : Int) (x1 : Int) (x2 : Int) (M : pm_M)  : pm_R G mt_Q_in 1 (0, [(0, .inl x0), (1, .inl x1), (2, .inl x2)], [], 119, pm_RF, M) (f_Q_in x0 x1 x2 M) (pm_Zr mt_Q_in (pm_gi M)) := by
  have ho : pm_oG G mt_Q_in := (oa_Q_in).g G
  unfold f_Q_in
  refine R_st ho 2 (q' := (2, [(0, .inl x0), (1, .inl x1), (2, .inl x2)], [.inl x1, .inl x0], 119, pm_RF, M)) rfl ?_
  refine R_ic ho rfl (tgt := 14) rfl ?_
  refine R_lt ?_ ?_
  · refine R_st ho 1 (q' := (15, [(0, .inl x0), (1, .inl x1), (2, .inl x2)], [.inl 0], 119, pm_RF, M)) rfl ?_
    exact R_end (v := some (.inl 0)) rfl (Or.inr ⟨rfl, Or.inl rfl⟩) rfl rfl
  · refine R_st ho 2 (q' := (7, [(0, .inl x0), (1, .inl x1), (2, .inl x2)], [.inl x2, .inl x0], 119, pm_RF, M)) rfl ?_
    refine R_ic ho rfl (tgt := 14) rfl ?_
    refine R_gt ?_ ?_
    · refine R_st ho 1 (q' := (15, [(0, .inl x0), (1, .inl x1), (2, .inl x2)], [.inl 0], 119, pm_RF, M)) rfl ?_
      exact R_end (v := some (.inl 0)) rfl (Or.inr ⟨rfl, Or.inl rfl⟩) rfl rfl
    · refine R_st ho 2 (q' := (15, [(0, .inl x0), (1, .inl x1), (2, .inl x2)], [.inl 1], 119, pm_RF, M)) rfl ?_
      exact R_end (v := some (.inl 1)) rfl (Or.inr ⟨rfl, Or.inr rfl⟩) rfl rfl
theorem ok_Q_plinth (G : pm_G) (x1 : Int) (x2 : Int) (x3 : Int) (x4 : Int) (M : pm_M)  : pm_R G mt_Q_plinth 2 (0, [(0, .inr (.inr (1, 87))), (1, .inl x1), (2, .inl x2), (3, .inl x3), (4, .inl x4)], [], 119, pm_RF, M) (f_Q_plinth x1 x2 x3 x4 M) (pm_Zr mt_Q_plinth pm_gI) := by
  have ho : pm_oG G mt_Q_plinth := (oa_Q_plinth).g G
  unfold f_Q_plinth
  refine R_st ho 3 (q' := (4, [(0, .inr (.inr (1, 87))), (1, .inl x1), (2, .inl x2), (3, .inl x3), (4, .inl x4)], [.inl 99, .inl 0, .inl x1], 119, pm_RF, M)) rfl ?_
  refine R_callS ho ms_Q_in lk_1_118 rfl (As := [.inl x1, .inl 0, .inl 99]) (st := []) rfl (Nat.le_of_ble_eq_true rfl) rfl (by decide) (Nat.le_of_ble_eq_true rfl) (ok_Q_in G x1 0 99 M ) (fun r736 => ?_)
  show pm_R _ _ _ (7, [(0, .inr (.inr (1, 87))), (1, .inl x1), (2, .inl x2), (3, .inl x3), (4, .inl x4)], [.inl r736], 119, pm_RF, M) _ _
  refine R_if ho rfl (tgt := 52) rfl ?_
  refine R_eq ?_ ?_
  · refine R_st ho 1 (q' := (53, [(0, .inr (.inr (1, 87))), (1, .inl x1), (2, .inl x2), (3, .inl x3), (4, .inl x4)], [.inl (-1)], 119, pm_RF, M)) rfl ?_
    exact R_end (v := some (.inl (-1))) rfl (Or.inl rfl) rfl rfl
  · refine R_st ho 3 (q' := (14, [(0, .inr (.inr (1, 87))), (1, .inl x1), (2, .inl x2), (3, .inl x3), (4, .inl x4)], [.inl 99, .inl 0, .inl x2], 119, pm_RF, M)) rfl ?_
    refine R_callS ho ms_Q_in lk_1_118 rfl (As := [.inl x2, .inl 0, .inl 99]) (st := []) rfl (Nat.le_of_ble_eq_true rfl) rfl (by decide) (Nat.le_of_ble_eq_true rfl) (ok_Q_in G x2 0 99 M ) (fun r737 => ?_)
    show pm_R _ _ _ (17, [(0, .inr (.inr (1, 87))), (1, .inl x1), (2, .inl x2), (3, .inl x3), (4, .inl x4)], [.inl r737], 119, pm_RF, M) _ _
    refine R_if ho rfl (tgt := 52) rfl ?_
    refine R_eq ?_ ?_
    · refine R_st ho 1 (q' := (53, [(0, .inr (.inr (1, 87))), (1, .inl x1), (2, .inl x2), (3, .inl x3), (4, .inl x4)], [.inl (-1)], 119, pm_RF, M)) rfl ?_
      exact R_end (v := some (.inl (-1))) rfl (Or.inl rfl) rfl rfl
    · refine R_st ho 3 (q' := (24, [(0, .inr (.inr (1, 87))), (1, .inl x1), (2, .inl x2), (3, .inl x3), (4, .inl x4)], [.inl 9, .inl 0, .inl x3], 119, pm_RF, M)) rfl ?_
      refine R_callS ho ms_Q_in lk_1_118 rfl (As := [.inl x3, .inl 0, .inl 9]) (st := []) rfl (Nat.le_of_ble_eq_true rfl) rfl (by decide) (Nat.le_of_ble_eq_true rfl) (ok_Q_in G x3 0 9 M ) (fun r738 => ?_)
      show pm_R _ _ _ (27, [(0, .inr (.inr (1, 87))), (1, .inl x1), (2, .inl x2), (3, .inl x3), (4, .inl x4)], [.inl r738], 119, pm_RF, M) _ _
      refine R_if ho rfl (tgt := 52) rfl ?_
      refine R_eq ?_ ?_
      · refine R_st ho 1 (q' := (53, [(0, .inr (.inr (1, 87))), (1, .inl x1), (2, .inl x2), (3, .inl x3), (4, .inl x4)], [.inl (-1)], 119, pm_RF, M)) rfl ?_
        exact R_end (v := some (.inl (-1))) rfl (Or.inl rfl) rfl rfl
      · refine R_st ho 3 (q' := (35, [(0, .inr (.inr (1, 87))), (1, .inl x1), (2, .inl x2), (3, .inl x3), (4, .inl x4)], [.inl 9, .inl 0, .inl x4], 119, pm_RF, M)) rfl ?_
        refine R_callS ho ms_Q_in lk_1_118 rfl (As := [.inl x4, .inl 0, .inl 9]) (st := []) rfl (Nat.le_of_ble_eq_true rfl) rfl (by decide) (Nat.le_of_ble_eq_true rfl) (ok_Q_in G x4 0 9 M ) (fun r739 => ?_)
        show pm_R _ _ _ (38, [(0, .inr (.inr (1, 87))), (1, .inl x1), (2, .inl x2), (3, .inl x3), (4, .inl x4)], [.inl r739], 119, pm_RF, M) _ _
        refine R_if ho rfl (tgt := 52) rfl ?_
        refine R_eq ?_ ?_
        · refine R_st ho 1 (q' := (53, [(0, .inr (.inr (1, 87))), (1, .inl x1), (2, .inl x2), (3, .inl x3), (4, .inl x4)], [.inl (-1)], 119, pm_RF, M)) rfl ?_
          exact R_end (v := some (.inl (-1))) rfl (Or.inl rfl) rfl rfl
        · refine R_st ho 5 (q' := (49, [(0, .inr (.inr (1, 87))), (1, .inl x1), (2, .inl x2), (3, .inl x3), (4, .inl x4)], [.inl 8, .inl (M 88 0)], 119, pm_RF, M)) rfl ?_
          refine R_ic ho rfl (tgt := 54) rfl ?_
          refine R_ne ?_ ?_
          · refine R_st ho 1 (q' := (53, [(0, .inr (.inr (1, 87))), (1, .inl x1), (2, .inl x2), (3, .inl x3), (4, .inl x4)], [.inl (-1)], 119, pm_RF, M)) rfl ?_
            exact R_end (v := some (.inl (-1))) rfl (Or.inl rfl) rfl rfl
          · refine R_st ho 9 (q' := (67, [(5, .inl (i_ad 10 (i_ml 4 (M 88 0)))), (0, .inr (.inr (1, 87))), (1, .inl x1), (2, .inl x2), (3, .inl x3), (4, .inl x4)], [], 119, pm_RF, M)) rfl ?_
            refine R_nx (fun z_ => (67, [(5, .inl z_), (0, .inr (.inr (1, 87))), (1, .inl x1), (2, .inl x2), (3, .inl x3), (4, .inl x4)], [], 119, pm_RF, M)) fun v740 => ?_
            refine R_st ho 4 (q' := (74, [(5, .inl v740), (0, .inr (.inr (1, 87))), (1, .inl x1), (2, .inl x2), (3, .inl x3), (4, .inl x4)], [.inl x1, .inl v740, .inr (.inr (20, 88))], 119, pm_RF, M)) rfl ?_
            refine R_iast ho rfl rfl ?_
            refine R_nm fun M741 => ?_
            refine R_st ho 6 (q' := (84, [(5, .inl v740), (0, .inr (.inr (1, 87))), (1, .inl x1), (2, .inl x2), (3, .inl x3), (4, .inl x4)], [.inl x2, .inl (i_ad v740 1), .inr (.inr (20, 88))], 119, pm_RF, M741)) rfl ?_
            refine R_iast ho rfl rfl ?_
            refine R_nm fun M742 => ?_
            refine R_st ho 6 (q' := (94, [(5, .inl v740), (0, .inr (.inr (1, 87))), (1, .inl x1), (2, .inl x2), (3, .inl x3), (4, .inl x4)], [.inl x3, .inl (i_ad v740 2), .inr (.inr (20, 88))], 119, pm_RF, M742)) rfl ?_
            refine R_iast ho rfl rfl ?_
            refine R_nm fun M743 => ?_
            refine R_st ho 6 (q' := (105, [(5, .inl v740), (0, .inr (.inr (1, 87))), (1, .inl x1), (2, .inl x2), (3, .inl x3), (4, .inl x4)], [.inl x4, .inl (i_ad v740 3), .inr (.inr (20, 88))], 119, pm_RF, M743)) rfl ?_
            refine R_iast ho rfl rfl ?_
            refine R_nm fun M744 => ?_
            refine R_st ho 8 (q' := (116, [(5, .inl v740), (0, .inr (.inr (1, 87))), (1, .inl x1), (2, .inl x2), (3, .inl x3), (4, .inl x4)], [], 119, pm_RF, (pm_ms M744 88 0 (i_ad (M744 88 0) 1)))) rfl ?_
            refine R_nm fun M745 => ?_
            refine R_st ho 6 (q' := (124, [(5, .inl v740), (0, .inr (.inr (1, 87))), (1, .inl x1), (2, .inl x2), (3, .inl x3), (4, .inl x4)], [.inl (i_sb (M745 88 0) 1)], 119, pm_RF, M745)) rfl ?_
            exact R_end (v := some (.inl (i_sb (M745 88 0) 1))) rfl (Or.inl rfl) rfl rfl
theorem ok_Q_head (G : pm_G) (x1 : Int) (x2 : Int) (M : pm_M)  : pm_R G mt_Q_head 2 (0, [(0, .inr (.inr (1, 87))), (1, .inl x1), (2, .inl x2)], [], 119, pm_RF, M) (f_Q_head x1 x2 M) (pm_Zr mt_Q_head pm_gI) := by
  have ho : pm_oG G mt_Q_head := (oa_Q_head).g G
  unfold f_Q_head
  refine R_st ho 3 (q' := (4, [(0, .inr (.inr (1, 87))), (1, .inl x1), (2, .inl x2)], [.inl 9, .inl 0, .inl x1], 119, pm_RF, M)) rfl ?_
  refine R_callS ho ms_Q_in lk_1_118 rfl (As := [.inl x1, .inl 0, .inl 9]) (st := []) rfl (Nat.le_of_ble_eq_true rfl) rfl (by decide) (Nat.le_of_ble_eq_true rfl) (ok_Q_in G x1 0 9 M ) (fun r746 => ?_)
  show pm_R _ _ _ (7, [(0, .inr (.inr (1, 87))), (1, .inl x1), (2, .inl x2)], [.inl r746], 119, pm_RF, M) _ _
  refine R_if ho rfl (tgt := 30) rfl ?_
  refine R_eq ?_ ?_
  · refine R_st ho 1 (q' := (31, [(0, .inr (.inr (1, 87))), (1, .inl x1), (2, .inl x2)], [.inl (-1)], 119, pm_RF, M)) rfl ?_
    exact R_end (v := some (.inl (-1))) rfl (Or.inl rfl) rfl rfl
  · refine R_st ho 3 (q' := (13, [(0, .inr (.inr (1, 87))), (1, .inl x1), (2, .inl x2)], [.inl 3, .inl 0, .inl x2], 119, pm_RF, M)) rfl ?_
    refine R_callS ho ms_Q_in lk_1_118 rfl (As := [.inl x2, .inl 0, .inl 3]) (st := []) rfl (Nat.le_of_ble_eq_true rfl) rfl (by decide) (Nat.le_of_ble_eq_true rfl) (ok_Q_in G x2 0 3 M ) (fun r747 => ?_)
    show pm_R _ _ _ (16, [(0, .inr (.inr (1, 87))), (1, .inl x1), (2, .inl x2)], [.inl r747], 119, pm_RF, M) _ _
    refine R_if ho rfl (tgt := 30) rfl ?_
    refine R_eq ?_ ?_
    · refine R_st ho 1 (q' := (31, [(0, .inr (.inr (1, 87))), (1, .inl x1), (2, .inl x2)], [.inl (-1)], 119, pm_RF, M)) rfl ?_
      exact R_end (v := some (.inl (-1))) rfl (Or.inl rfl) rfl rfl
    · refine R_st ho 5 (q' := (27, [(0, .inr (.inr (1, 87))), (1, .inl x1), (2, .inl x2)], [.inl 12, .inl (M 88 1)], 119, pm_RF, M)) rfl ?_
      refine R_ic ho rfl (tgt := 32) rfl ?_
      refine R_ne ?_ ?_
      · refine R_st ho 1 (q' := (31, [(0, .inr (.inr (1, 87))), (1, .inl x1), (2, .inl x2)], [.inl (-1)], 119, pm_RF, M)) rfl ?_
        exact R_end (v := some (.inl (-1))) rfl (Or.inl rfl) rfl rfl
      · refine R_st ho 11 (q' := (48, [(0, .inr (.inr (1, 87))), (1, .inl x1), (2, .inl x2)], [.inl x1, .inl (i_ad 42 (i_ml 2 (M 88 1))), .inr (.inr (20, 88))], 119, pm_RF, M)) rfl ?_
        refine R_iast ho rfl rfl ?_
        refine R_nm fun M748 => ?_
        refine R_st ho 13 (q' := (67, [(0, .inr (.inr (1, 87))), (1, .inl x1), (2, .inl x2)], [.inl x2, .inl (i_ad (i_ad 42 (i_ml 2 (M748 88 1))) 1), .inr (.inr (20, 88))], 119, pm_RF, M748)) rfl ?_
        refine R_iast ho rfl rfl ?_
        refine R_nm fun M749 => ?_
        refine R_st ho 8 (q' := (78, [(0, .inr (.inr (1, 87))), (1, .inl x1), (2, .inl x2)], [], 119, pm_RF, (pm_ms M749 88 1 (i_ad (M749 88 1) 1)))) rfl ?_
        refine R_nm fun M750 => ?_
        refine R_st ho 6 (q' := (86, [(0, .inr (.inr (1, 87))), (1, .inl x1), (2, .inl x2)], [.inl (i_sb (M750 88 1) 1)], 119, pm_RF, M750)) rfl ?_
        exact R_end (v := some (.inl (i_sb (M750 88 1) 1))) rfl (Or.inl rfl) rfl rfl
theorem ok_Q_undo_L23 (G : pm_G)    : ∀ (n_ : Nat) (y1 : Int) (M : pm_M), pm_R G mt_Q_undo 1 (23, [(0, .inr (.inr (1, 87))), (1, .inl y1)], [], 119, pm_RF, M) (f_Q_undo_L23 n_ y1 M) (fun e_ q_ => q_ = (66, [(0, .inr (.inr (1, 87)))], [], 119, pm_RF, e_)) := by
  have ho : pm_oG G mt_Q_undo := (oa_Q_undo).g G
  intro n_
  induction n_ with
  | zero => intro _ _; exact R_none
  | succ n_ ih_ =>
    intro y1 M
    rw [f_Q_undo_L23]
    refine R_st ho 2 (q' := (27, [(0, .inr (.inr (1, 87))), (1, .inl y1)], [.inl 186, .inl y1], 119, pm_RF, M)) rfl ?_
    refine R_ic ho rfl (tgt := 66) rfl ?_
    refine R_ge ?_ ?_
    · refine R_pk [0] rfl ?_
      exact R_ret rfl
    · refine R_st ho 17 (q' := (58, [(0, .inr (.inr (1, 87))), (1, .inl y1)], [.inl (i_ad (i_ad 292 (i_ml 186 (M 88 4))) y1), .inr (.inr (20, 88)), .inl (i_ad 70 y1), .inr (.inr (20, 88))], 119, pm_RF, M)) rfl ?_
      refine R_iald ho rfl rfl ?_
      refine R_iast ho rfl rfl ?_
      refine R_nm fun M752 => ?_
      refine R_st ho 2 (q' := (23, [(1, .inl (i_ad y1 1)), (0, .inr (.inr (1, 87)))], [], 119, pm_RF, M752)) rfl ?_
      refine R_pk [0, 1] rfl ?_
      exact ih_ (i_ad y1 1) M752
theorem ok_Q_undo (G : pm_G)  (M : pm_M)  : pm_R G mt_Q_undo 1 (0, [(0, .inr (.inr (1, 87)))], [], 119, pm_RF, M) (f_Q_undo M) (pm_Zr mt_Q_undo pm_gI) := by
  have ho : pm_oG G mt_Q_undo := (oa_Q_undo).g G
  unfold f_Q_undo
  refine R_st ho 4 (q' := (6, [(0, .inr (.inr (1, 87)))], [.inl (M 88 4)], 119, pm_RF, M)) rfl ?_
  refine R_if ho rfl (tgt := 11) rfl ?_
  refine R_ne ?_ ?_
  · refine R_st ho 1 (q' := (10, [(0, .inr (.inr (1, 87)))], [.inl (-1)], 119, pm_RF, M)) rfl ?_
    exact R_end (v := some (.inl (-1))) rfl (Or.inl rfl) rfl rfl
  · refine R_st ho 8 (q' := (21, [(0, .inr (.inr (1, 87)))], [], 119, pm_RF, (pm_ms M 88 4 (i_sb (M 88 4) 1)))) rfl ?_
    refine R_nm fun M751 => ?_
    refine R_st ho 2 (q' := (23, [(1, .inl 0), (0, .inr (.inr (1, 87)))], [], 119, pm_RF, M751)) rfl ?_
    refine R_pk [0, 1] rfl ?_
    refine R_bind (ok_Q_undo_L23 G pm_F 0 M751) ?_
    intro e753 q_ hq_
    obtain rfl : q_ = (66, [(0, .inr (.inr (1, 87)))], [], 119, pm_RF, e753) := hq_
    refine R_st ho 4 (q' := (72, [(0, .inr (.inr (1, 87)))], [.inl (e753 88 4)], 119, pm_RF, e753)) rfl ?_
    exact R_end (v := some (.inl (e753 88 4))) rfl (Or.inl rfl) rfl rfl
theorem ok_Q_isHead (G : pm_G) (x1 : Int) (M : pm_M)  : pm_R G mt_Q_isHead 2 (0, [(0, .inr (.inr (1, 87))), (1, .inl x1)], [], 119, pm_RF, M) (f_Q_isHead x1 M) (pm_Zr mt_Q_isHead (pm_gi M)) := by
  have ho : pm_oG G mt_Q_isHead := (oa_Q_isHead).g G
  unfold f_Q_isHead
  refine R_st ho 8 (q' := (10, [(0, .inr (.inr (1, 87))), (1, .inl x1)], [.inl (i_sb (M 88 1) 1), .inl 0, .inl x1], 119, pm_RF, M)) rfl ?_
  refine R_callS ho ms_Q_in lk_1_118 rfl (As := [.inl x1, .inl 0, .inl (i_sb (M 88 1) 1)]) (st := []) rfl (Nat.le_of_ble_eq_true rfl) rfl (by decide) (Nat.le_of_ble_eq_true rfl) (ok_Q_in G x1 0 (i_sb (M 88 1) 1) M ) (fun r754 => ?_)
  show pm_R _ _ _ (13, [(0, .inr (.inr (1, 87))), (1, .inl x1)], [.inl r754], 119, pm_RF, M) _ _
  exact R_gd (fun h_ => R_end (v := some (.inl r754)) rfl (Or.inr ⟨rfl, h_⟩) rfl rfl)
theorem ok_Q_isPlinth (G : pm_G) (x1 : Int) (M : pm_M)  : pm_R G mt_Q_isPlinth 2 (0, [(0, .inr (.inr (1, 87))), (1, .inl x1)], [], 119, pm_RF, M) (f_Q_isPlinth x1 M) (pm_Zr mt_Q_isPlinth (pm_gi M)) := by
  have ho : pm_oG G mt_Q_isPlinth := (oa_Q_isPlinth).g G
  unfold f_Q_isPlinth
  refine R_st ho 8 (q' := (10, [(0, .inr (.inr (1, 87))), (1, .inl x1)], [.inl (i_sb (M 88 0) 1), .inl 0, .inl x1], 119, pm_RF, M)) rfl ?_
  refine R_callS ho ms_Q_in lk_1_118 rfl (As := [.inl x1, .inl 0, .inl (i_sb (M 88 0) 1)]) (st := []) rfl (Nat.le_of_ble_eq_true rfl) rfl (by decide) (Nat.le_of_ble_eq_true rfl) (ok_Q_in G x1 0 (i_sb (M 88 0) 1) M ) (fun r756 => ?_)
  show pm_R _ _ _ (13, [(0, .inr (.inr (1, 87))), (1, .inl x1)], [.inl r756], 119, pm_RF, M) _ _
  exact R_gd (fun h_ => R_end (v := some (.inl r756)) rfl (Or.inr ⟨rfl, h_⟩) rfl rfl)
theorem ok_Q_plinthOf_L4 (G : pm_G)   (M : pm_M) : ∀ (n_ : Nat) (y1 : Int) (y2 : Int) (y3 : Int), pm_R G mt_Q_plinthOf 1 (4, [(0, .inr (.inr (1, 87))), (1, .inl y1), (2, .inl y2), (3, .inl y3)], [], 119, pm_RF, M) (f_Q_plinthOf_L4 M n_ y1 y2 y3) (fun e_ q_ => q_ = (35, [(2, .inl e_)], [], 119, pm_RF, M)) := by
  have ho : pm_oG G mt_Q_plinthOf := (oa_Q_plinthOf).g G
  intro n_
  induction n_ with
  | zero => intro _ _ _; exact R_none
  | succ n_ ih_ =>
    intro y1 y2 y3
    rw [f_Q_plinthOf_L4]
    refine R_st ho 2 (q' := (7, [(0, .inr (.inr (1, 87))), (1, .inl y1), (2, .inl y2), (3, .inl y3)], [.inl 8, .inl y3], 119, pm_RF, M)) rfl ?_
    refine R_ic ho rfl (tgt := 35) rfl ?_
    refine R_ge ?_ ?_
    · refine R_pk [2] rfl ?_
      exact R_ret rfl
    · refine R_st ho 5 (q' := (18, [(0, .inr (.inr (1, 87))), (1, .inl y1), (2, .inl y2), (3, .inl y3)], [.inl (i_ad 70 y3), .inr (.inr (20, 88))], 119, pm_RF, M)) rfl ?_
      refine R_iald ho rfl rfl ?_
      refine R_st ho 1 (q' := (20, [(0, .inr (.inr (1, 87))), (1, .inl y1), (2, .inl y2), (3, .inl y3)], [.inl y1, .inl (M 88 ((i_ad 70 y3)).toNat)], 119, pm_RF, M)) rfl ?_
      refine R_ic ho rfl (tgt := 27) rfl ?_
      refine R_ne ?_ ?_
      · refine R_st ho 5 (q' := (4, [(3, .inl (i_ad y3 1)), (2, .inl y3), (0, .inr (.inr (1, 87))), (1, .inl y1)], [], 119, pm_RF, M)) rfl ?_
        refine R_pk [0, 1, 2, 3] rfl ?_
        exact ih_ y1 y3 (i_ad y3 1)
      · refine R_st ho 4 (q' := (4, [(3, .inl (i_ad y3 1)), (2, .inl y2), (0, .inr (.inr (1, 87))), (1, .inl y1)], [], 119, pm_RF, M)) rfl ?_
        refine R_pk [0, 1, 2, 3] rfl ?_
        exact ih_ y1 y2 (i_ad y3 1)
theorem ok_Q_plinthOf (G : pm_G) (x1 : Int) (M : pm_M)  : pm_R G mt_Q_plinthOf 1 (0, [(0, .inr (.inr (1, 87))), (1, .inl x1)], [], 119, pm_RF, M) (f_Q_plinthOf x1 M) (pm_Zr mt_Q_plinthOf (pm_gi M)) := by
  have ho : pm_oG G mt_Q_plinthOf := (oa_Q_plinthOf).g G
  unfold f_Q_plinthOf
  refine R_st ho 4 (q' := (4, [(3, .inl 0), (2, .inl (-1)), (0, .inr (.inr (1, 87))), (1, .inl x1)], [], 119, pm_RF, M)) rfl ?_
  refine R_pk [0, 1, 2, 3] rfl ?_
  refine R_bind (ok_Q_plinthOf_L4 G M pm_F x1 (-1) 0) ?_
  intro e758 q_ hq_
  obtain rfl : q_ = (35, [(2, .inl e758)], [], 119, pm_RF, M) := hq_
  refine R_st ho 1 (q' := (36, [(2, .inl e758)], [.inl e758], 119, pm_RF, M)) rfl ?_
  exact R_end (v := some (.inl e758)) rfl (Or.inl rfl) rfl rfl
theorem ok_Q_canPut (G : pm_G) (x1 : Int) (x2 : Int) (M : pm_M)  : pm_R G mt_Q_canPut 3 (0, [(0, .inr (.inr (1, 87))), (1, .inl x1), (2, .inl x2)], [], 119, pm_RF, M) (f_Q_canPut x1 x2 M) (pm_Zr mt_Q_canPut (pm_gi M)) := by
  have ho : pm_oG G mt_Q_canPut := (oa_Q_canPut).g G
  unfold f_Q_canPut
  refine R_st ho 2 (q' := (2, [(0, .inr (.inr (1, 87))), (1, .inl x1), (2, .inl x2)], [.inl x1, .inr (.inr (1, 87))], 119, pm_RF, M)) rfl ?_
  refine R_callV ho mv_Q_isHead lk_1_122 rfl (As := [.inl x1]) (kd := 1) (a := 87) (st := []) rfl rfl (Nat.le_of_ble_eq_true rfl) rfl (by decide) (Nat.le_of_ble_eq_true rfl) (ok_Q_isHead G x1 M ) (fun r755 => ?_)
  show pm_R _ _ _ (5, [(0, .inr (.inr (1, 87))), (1, .inl x1), (2, .inl x2)], [.inl r755], 119, pm_RF, M) _ _
  refine R_if ho rfl (tgt := 42) rfl ?_
  refine R_eq ?_ ?_
  · refine R_st ho 1 (q' := (43, [(0, .inr (.inr (1, 87))), (1, .inl x1), (2, .inl x2)], [.inl 0], 119, pm_RF, M)) rfl ?_
    exact R_end (v := some (.inl 0)) rfl (Or.inr ⟨rfl, Or.inl rfl⟩) rfl rfl
  · refine R_st ho 2 (q' := (10, [(0, .inr (.inr (1, 87))), (1, .inl x1), (2, .inl x2)], [.inl x2, .inr (.inr (1, 87))], 119, pm_RF, M)) rfl ?_
    refine R_callV ho mv_Q_isPlinth lk_1_126 rfl (As := [.inl x2]) (kd := 1) (a := 87) (st := []) rfl rfl (Nat.le_of_ble_eq_true rfl) rfl (by decide) (Nat.le_of_ble_eq_true rfl) (ok_Q_isPlinth G x2 M ) (fun r757 => ?_)
    show pm_R _ _ _ (13, [(0, .inr (.inr (1, 87))), (1, .inl x1), (2, .inl x2)], [.inl r757], 119, pm_RF, M) _ _
    refine R_if ho rfl (tgt := 42) rfl ?_
    refine R_eq ?_ ?_
    · refine R_st ho 1 (q' := (43, [(0, .inr (.inr (1, 87))), (1, .inl x1), (2, .inl x2)], [.inl 0], 119, pm_RF, M)) rfl ?_
      exact R_end (v := some (.inl 0)) rfl (Or.inr ⟨rfl, Or.inl rfl⟩) rfl rfl
    · refine R_st ho 2 (q' := (18, [(0, .inr (.inr (1, 87))), (1, .inl x1), (2, .inl x2)], [.inl x1, .inr (.inr (1, 87))], 119, pm_RF, M)) rfl ?_
      refine R_callV ho mv_Q_plinthOf lk_1_129 rfl (As := [.inl x1]) (kd := 1) (a := 87) (st := []) rfl rfl (Nat.le_of_ble_eq_true rfl) rfl (by decide) (Nat.le_of_ble_eq_true rfl) (ok_Q_plinthOf G x1 M ) (fun r759 => ?_)
      show pm_R _ _ _ (21, [(0, .inr (.inr (1, 87))), (1, .inl x1), (2, .inl x2)], [.inl r759], 119, pm_RF, M) _ _
      refine R_st ho 1 (q' := (22, [(0, .inr (.inr (1, 87))), (1, .inl x1), (2, .inl x2)], [.inl (-1), .inl r759], 119, pm_RF, M)) rfl ?_
      refine R_ic ho rfl (tgt := 42) rfl ?_
      refine R_ne ?_ ?_
      · refine R_st ho 5 (q' := (33, [(0, .inr (.inr (1, 87))), (1, .inl x1), (2, .inl x2)], [.inl (i_ad 70 x2), .inr (.inr (20, 88))], 119, pm_RF, M)) rfl ?_
        refine R_iald ho rfl rfl ?_
        refine R_st ho 1 (q' := (35, [(0, .inr (.inr (1, 87))), (1, .inl x1), (2, .inl x2)], [.inl (-1), .inl (M 88 ((i_ad 70 x2)).toNat)], 119, pm_RF, M)) rfl ?_
        refine R_ic ho rfl (tgt := 42) rfl ?_
        refine R_ne ?_ ?_
        · refine R_st ho 2 (q' := (43, [(0, .inr (.inr (1, 87))), (1, .inl x1), (2, .inl x2)], [.inl 1], 119, pm_RF, M)) rfl ?_
          exact R_end (v := some (.inl 1)) rfl (Or.inr ⟨rfl, Or.inr rfl⟩) rfl rfl
        · refine R_st ho 1 (q' := (43, [(0, .inr (.inr (1, 87))), (1, .inl x1), (2, .inl x2)], [.inl 0], 119, pm_RF, M)) rfl ?_
          exact R_end (v := some (.inl 0)) rfl (Or.inr ⟨rfl, Or.inl rfl⟩) rfl rfl
      · refine R_st ho 1 (q' := (43, [(0, .inr (.inr (1, 87))), (1, .inl x1), (2, .inl x2)], [.inl 0], 119, pm_RF, M)) rfl ?_
        exact R_end (v := some (.inl 0)) rfl (Or.inr ⟨rfl, Or.inl rfl⟩) rfl rfl
theorem ok_Q_keepsStep_L15 (G : pm_G)    : ∀ (n_ : Nat) (y1 : Int) (M : pm_M), pm_R G mt_Q_keepsStep 1 (15, [(0, .inr (.inr (1, 87))), (1, .inl y1)], [], 119, pm_RF, M) (f_Q_keepsStep_L15 n_ y1 M) (fun e_ q_ => q_ = (44, [(0, .inr (.inr (1, 87)))], [], 119, pm_RF, e_)) := by
  have ho : pm_oG G mt_Q_keepsStep := (oa_Q_keepsStep).g G
  intro n_
  induction n_ with
  | zero => intro _ _; exact R_none
  | succ n_ ih_ =>
    intro y1 M
    rw [f_Q_keepsStep_L15]
    refine R_st ho 2 (q' := (19, [(0, .inr (.inr (1, 87))), (1, .inl y1)], [.inl 3826, .inl y1], 119, pm_RF, M)) rfl ?_
    refine R_ic ho rfl (tgt := 44) rfl ?_
    refine R_ge ?_ ?_
    · refine R_pk [0] rfl ?_
      exact R_ret rfl
    · refine R_st ho 8 (q' := (36, [(0, .inr (.inr (1, 87))), (1, .inl y1)], [.inl (i_ad y1 186), .inr (.inr (20, 88)), .inl y1, .inr (.inr (20, 88))], 119, pm_RF, M)) rfl ?_
      refine R_iald ho rfl rfl ?_
      refine R_iast ho rfl rfl ?_
      refine R_nm fun M761 => ?_
      refine R_st ho 2 (q' := (15, [(1, .inl (i_ad y1 1)), (0, .inr (.inr (1, 87)))], [], 119, pm_RF, M761)) rfl ?_
      refine R_pk [0, 1] rfl ?_
      exact ih_ (i_ad y1 1) M761
theorem ok_Q_keepsStep_L54 (G : pm_G)    : ∀ (n_ : Nat) (y1 : Int) (M : pm_M), pm_R G mt_Q_keepsStep 1 (54, [(0, .inr (.inr (1, 87))), (1, .inl y1)], [], 119, pm_RF, M) (f_Q_keepsStep_L54 n_ y1 M) (fun e_ q_ => q_ = (97, [(0, .inr (.inr (1, 87)))], [], 119, pm_RF, e_)) := by
  have ho : pm_oG G mt_Q_keepsStep := (oa_Q_keepsStep).g G
  intro n_
  induction n_ with
  | zero => intro _ _; exact R_none
  | succ n_ ih_ =>
    intro y1 M
    rw [f_Q_keepsStep_L54]
    refine R_st ho 2 (q' := (58, [(0, .inr (.inr (1, 87))), (1, .inl y1)], [.inl 186, .inl y1], 119, pm_RF, M)) rfl ?_
    refine R_ic ho rfl (tgt := 97) rfl ?_
    refine R_ge ?_ ?_
    · refine R_pk [0] rfl ?_
      exact R_ret rfl
    · refine R_st ho 17 (q' := (89, [(0, .inr (.inr (1, 87))), (1, .inl y1)], [.inl (i_ad 70 y1), .inr (.inr (20, 88)), .inl (i_ad (i_ad 292 (i_ml 186 (M 88 4))) y1), .inr (.inr (20, 88))], 119, pm_RF, M)) rfl ?_
      refine R_iald ho rfl rfl ?_
      refine R_iast ho rfl rfl ?_
      refine R_nm fun M764 => ?_
      refine R_st ho 2 (q' := (54, [(1, .inl (i_ad y1 1)), (0, .inr (.inr (1, 87)))], [], 119, pm_RF, M764)) rfl ?_
      refine R_pk [0, 1] rfl ?_
      exact ih_ (i_ad y1 1) M764
theorem ok_Q_keepsStep (G : pm_G)  (M : pm_M)  : pm_R G mt_Q_keepsStep 1 (0, [(0, .inr (.inr (1, 87)))], [], 119, pm_RF, M) (f_Q_keepsStep M) (pm_Zr mt_Q_keepsStep pm_gV) := by
  have ho : pm_oG G mt_Q_keepsStep := (oa_Q_keepsStep).g G
  unfold f_Q_keepsStep
  refine R_st ho 5 (q' := (8, [(0, .inr (.inr (1, 87)))], [.inl 20, .inl (M 88 4)], 119, pm_RF, M)) rfl ?_
  refine R_ic ho rfl (tgt := 52) rfl ?_
  refine R_ne ?_ ?_
  · refine R_st ho 2 (q' := (15, [(1, .inl 292), (0, .inr (.inr (1, 87)))], [], 119, pm_RF, M)) rfl ?_
    refine R_pk [0, 1] rfl ?_
    refine R_bind (ok_Q_keepsStep_L15 G pm_F 292 M) ?_
    intro e762 q_ hq_
    obtain rfl : q_ = (44, [(0, .inr (.inr (1, 87)))], [], 119, pm_RF, e762) := hq_
    refine R_st ho 5 (q' := (52, [(0, .inr (.inr (1, 87)))], [], 119, pm_RF, (pm_ms e762 88 4 19))) rfl ?_
    refine R_nm fun M763 => ?_
    refine R_st ho 2 (q' := (54, [(1, .inl 0), (0, .inr (.inr (1, 87)))], [], 119, pm_RF, M763)) rfl ?_
    refine R_pk [0, 1] rfl ?_
    refine R_bind (ok_Q_keepsStep_L54 G pm_F 0 M763) ?_
    intro e765 q_ hq_
    obtain rfl : q_ = (97, [(0, .inr (.inr (1, 87)))], [], 119, pm_RF, e765) := hq_
    refine R_st ho 8 (q' := (107, [(0, .inr (.inr (1, 87)))], [], 119, pm_RF, (pm_ms e765 88 4 (i_ad (e765 88 4) 1)))) rfl ?_
    refine R_nm fun M766 => ?_
    exact R_end (v := none) rfl rfl rfl rfl
  · refine R_st ho 2 (q' := (54, [(1, .inl 0), (0, .inr (.inr (1, 87)))], [], 119, pm_RF, M)) rfl ?_
    refine R_pk [0, 1] rfl ?_
    refine R_bind (ok_Q_keepsStep_L54 G pm_F 0 M) ?_
    intro e767 q_ hq_
    obtain rfl : q_ = (97, [(0, .inr (.inr (1, 87)))], [], 119, pm_RF, e767) := hq_
    refine R_st ho 8 (q' := (107, [(0, .inr (.inr (1, 87)))], [], 119, pm_RF, (pm_ms e767 88 4 (i_ad (e767 88 4) 1)))) rfl ?_
    refine R_nm fun M768 => ?_
    exact R_end (v := none) rfl rfl rfl rfl
theorem ok_Q_put (G : pm_G) (x1 : Int) (x2 : Int) (M : pm_M)  : pm_R G mt_Q_put 4 (0, [(0, .inr (.inr (1, 87))), (1, .inl x1), (2, .inl x2)], [], 119, pm_RF, M) (f_Q_put x1 x2 M) (pm_Zr mt_Q_put pm_gI) := by
  have ho : pm_oG G mt_Q_put := (oa_Q_put).g G
  unfold f_Q_put
  refine R_st ho 3 (q' := (3, [(0, .inr (.inr (1, 87))), (1, .inl x1), (2, .inl x2)], [.inl x2, .inl x1, .inr (.inr (1, 87))], 119, pm_RF, M)) rfl ?_
  refine R_callV ho mv_Q_canPut lk_1_133 rfl (As := [.inl x1, .inl x2]) (kd := 1) (a := 87) (st := []) rfl rfl (Nat.le_of_ble_eq_true rfl) rfl (by decide) (Nat.le_of_ble_eq_true rfl) (ok_Q_canPut G x1 x2 M ) (fun r760 => ?_)
  show pm_R _ _ _ (6, [(0, .inr (.inr (1, 87))), (1, .inl x1), (2, .inl x2)], [.inl r760], 119, pm_RF, M) _ _
  refine R_if ho rfl (tgt := 11) rfl ?_
  refine R_ne ?_ ?_
  · refine R_st ho 1 (q' := (10, [(0, .inr (.inr (1, 87))), (1, .inl x1), (2, .inl x2)], [.inl 0], 119, pm_RF, M)) rfl ?_
    exact R_end (v := some (.inl 0)) rfl (Or.inr ⟨rfl, Or.inl rfl⟩) rfl rfl
  · refine R_st ho 1 (q' := (12, [(0, .inr (.inr (1, 87))), (1, .inl x1), (2, .inl x2)], [.inr (.inr (1, 87))], 119, pm_RF, M)) rfl ?_
    refine R_callV ho mv_Q_keepsStep lk_1_137 rfl (As := []) (kd := 1) (a := 87) (st := []) rfl rfl (Nat.le_of_ble_eq_true rfl) rfl (by decide) (Nat.le_of_ble_eq_true rfl) (ok_Q_keepsStep G  M ) (fun M769 => ?_)
    show pm_R _ _ _ (15, [(0, .inr (.inr (1, 87))), (1, .inl x1), (2, .inl x2)], [], 119, pm_RF, M769) _ _
    refine R_st ho 6 (q' := (24, [(0, .inr (.inr (1, 87))), (1, .inl x1), (2, .inl x2)], [.inl x1, .inl (i_ad 70 x2), .inr (.inr (20, 88))], 119, pm_RF, M769)) rfl ?_
    refine R_iast ho rfl rfl ?_
    refine R_nm fun M770 => ?_
    refine R_st ho 1 (q' := (26, [(0, .inr (.inr (1, 87))), (1, .inl x1), (2, .inl x2)], [.inl 1], 119, pm_RF, M770)) rfl ?_
    exact R_end (v := some (.inl 1)) rfl (Or.inr ⟨rfl, Or.inr rfl⟩) rfl rfl
theorem ok_Q_off (G : pm_G) (x1 : Int) (M : pm_M)  : pm_R G mt_Q_off 3 (0, [(0, .inr (.inr (1, 87))), (1, .inl x1)], [], 119, pm_RF, M) (f_Q_off x1 M) (pm_Zr mt_Q_off pm_gI) := by
  have ho : pm_oG G mt_Q_off := (oa_Q_off).g G
  unfold f_Q_off
  refine R_st ho 2 (q' := (2, [(0, .inr (.inr (1, 87))), (1, .inl x1)], [.inl x1, .inr (.inr (1, 87))], 119, pm_RF, M)) rfl ?_
  refine R_callV ho mv_Q_isPlinth lk_1_126 rfl (As := [.inl x1]) (kd := 1) (a := 87) (st := []) rfl rfl (Nat.le_of_ble_eq_true rfl) rfl (by decide) (Nat.le_of_ble_eq_true rfl) (ok_Q_isPlinth G x1 M ) (fun r771 => ?_)
  show pm_R _ _ _ (5, [(0, .inr (.inr (1, 87))), (1, .inl x1)], [.inl r771], 119, pm_RF, M) _ _
  refine R_if ho rfl (tgt := 21) rfl ?_
  refine R_eq ?_ ?_
  · refine R_st ho 1 (q' := (22, [(0, .inr (.inr (1, 87))), (1, .inl x1)], [.inl (-1)], 119, pm_RF, M)) rfl ?_
    exact R_end (v := some (.inl (-1))) rfl (Or.inl rfl) rfl rfl
  · refine R_st ho 5 (q' := (16, [(0, .inr (.inr (1, 87))), (1, .inl x1)], [.inl (i_ad 70 x1), .inr (.inr (20, 88))], 119, pm_RF, M)) rfl ?_
    refine R_iald ho rfl rfl ?_
    refine R_st ho 1 (q' := (18, [(0, .inr (.inr (1, 87))), (1, .inl x1)], [.inl (-1), .inl (M 88 ((i_ad 70 x1)).toNat)], 119, pm_RF, M)) rfl ?_
    refine R_ic ho rfl (tgt := 23) rfl ?_
    refine R_ne ?_ ?_
    · refine R_st ho 1 (q' := (22, [(0, .inr (.inr (1, 87))), (1, .inl x1)], [.inl (-1)], 119, pm_RF, M)) rfl ?_
      exact R_end (v := some (.inl (-1))) rfl (Or.inl rfl) rfl rfl
    · refine R_st ho 1 (q' := (24, [(0, .inr (.inr (1, 87))), (1, .inl x1)], [.inr (.inr (1, 87))], 119, pm_RF, M)) rfl ?_
      refine R_callV ho mv_Q_keepsStep lk_1_137 rfl (As := []) (kd := 1) (a := 87) (st := []) rfl rfl (Nat.le_of_ble_eq_true rfl) rfl (by decide) (Nat.le_of_ble_eq_true rfl) (ok_Q_keepsStep G  M ) (fun M772 => ?_)
      show pm_R _ _ _ (27, [(0, .inr (.inr (1, 87))), (1, .inl x1)], [], 119, pm_RF, M772) _ _
      refine R_st ho 5 (q' := (35, [(0, .inr (.inr (1, 87))), (1, .inl x1)], [.inl (i_ad 70 x1), .inr (.inr (20, 88))], 119, pm_RF, M772)) rfl ?_
      refine R_iald ho rfl rfl ?_
      refine R_st ho 1 (q' := (37, [(2, .inl (M772 88 ((i_ad 70 x1)).toNat)), (0, .inr (.inr (1, 87))), (1, .inl x1)], [], 119, pm_RF, M772)) rfl ?_
      refine R_nx (fun z_ => (37, [(2, .inl z_), (0, .inr (.inr (1, 87))), (1, .inl x1)], [], 119, pm_RF, M772)) fun v773 => ?_
      refine R_st ho 6 (q' := (46, [(2, .inl v773), (0, .inr (.inr (1, 87))), (1, .inl x1)], [.inl (-1), .inl (i_ad 70 x1), .inr (.inr (20, 88))], 119, pm_RF, M772)) rfl ?_
      refine R_iast ho rfl rfl ?_
      refine R_nm fun M774 => ?_
      refine R_st ho 1 (q' := (48, [(2, .inl v773), (0, .inr (.inr (1, 87))), (1, .inl x1)], [.inl v773], 119, pm_RF, M774)) rfl ?_
      exact R_end (v := some (.inl v773)) rfl (Or.inl rfl) rfl rfl
theorem ok_Q_canChange (G : pm_G) (x1 : Int) (x2 : Int) (M : pm_M)  : pm_R G mt_Q_canChange 3 (0, [(0, .inr (.inr (1, 87))), (1, .inl x1), (2, .inl x2)], [], 119, pm_RF, M) (f_Q_canChange x1 x2 M) (pm_Zr mt_Q_canChange (pm_gi M)) := by
  have ho : pm_oG G mt_Q_canChange := (oa_Q_canChange).g G
  unfold f_Q_canChange
  refine R_st ho 2 (q' := (2, [(0, .inr (.inr (1, 87))), (1, .inl x1), (2, .inl x2)], [.inl x1, .inr (.inr (1, 87))], 119, pm_RF, M)) rfl ?_
  refine R_callV ho mv_Q_isPlinth lk_1_126 rfl (As := [.inl x1]) (kd := 1) (a := 87) (st := []) rfl rfl (Nat.le_of_ble_eq_true rfl) rfl (by decide) (Nat.le_of_ble_eq_true rfl) (ok_Q_isPlinth G x1 M ) (fun r775 => ?_)
  show pm_R _ _ _ (5, [(0, .inr (.inr (1, 87))), (1, .inl x1), (2, .inl x2)], [.inl r775], 119, pm_RF, M) _ _
  refine R_if ho rfl (tgt := 51) rfl ?_
  refine R_eq ?_ ?_
  · refine R_st ho 1 (q' := (52, [(0, .inr (.inr (1, 87))), (1, .inl x1), (2, .inl x2)], [.inl 0], 119, pm_RF, M)) rfl ?_
    exact R_end (v := some (.inl 0)) rfl (Or.inr ⟨rfl, Or.inl rfl⟩) rfl rfl
  · refine R_st ho 2 (q' := (10, [(0, .inr (.inr (1, 87))), (1, .inl x1), (2, .inl x2)], [.inl x2, .inr (.inr (1, 87))], 119, pm_RF, M)) rfl ?_
    refine R_callV ho mv_Q_isPlinth lk_1_126 rfl (As := [.inl x2]) (kd := 1) (a := 87) (st := []) rfl rfl (Nat.le_of_ble_eq_true rfl) rfl (by decide) (Nat.le_of_ble_eq_true rfl) (ok_Q_isPlinth G x2 M ) (fun r776 => ?_)
    show pm_R _ _ _ (13, [(0, .inr (.inr (1, 87))), (1, .inl x1), (2, .inl x2)], [.inl r776], 119, pm_RF, M) _ _
    refine R_if ho rfl (tgt := 51) rfl ?_
    refine R_eq ?_ ?_
    · refine R_st ho 1 (q' := (52, [(0, .inr (.inr (1, 87))), (1, .inl x1), (2, .inl x2)], [.inl 0], 119, pm_RF, M)) rfl ?_
      exact R_end (v := some (.inl 0)) rfl (Or.inr ⟨rfl, Or.inl rfl⟩) rfl rfl
    · refine R_st ho 2 (q' := (18, [(0, .inr (.inr (1, 87))), (1, .inl x1), (2, .inl x2)], [.inl x2, .inl x1], 119, pm_RF, M)) rfl ?_
      refine R_ic ho rfl (tgt := 51) rfl ?_
      refine R_eq ?_ ?_
      · refine R_st ho 1 (q' := (52, [(0, .inr (.inr (1, 87))), (1, .inl x1), (2, .inl x2)], [.inl 0], 119, pm_RF, M)) rfl ?_
        exact R_end (v := some (.inl 0)) rfl (Or.inr ⟨rfl, Or.inl rfl⟩) rfl rfl
      · refine R_st ho 5 (q' := (29, [(0, .inr (.inr (1, 87))), (1, .inl x1), (2, .inl x2)], [.inl (i_ad 70 x1), .inr (.inr (20, 88))], 119, pm_RF, M)) rfl ?_
        refine R_iald ho rfl rfl ?_
        refine R_st ho 1 (q' := (31, [(0, .inr (.inr (1, 87))), (1, .inl x1), (2, .inl x2)], [.inl (-1), .inl (M 88 ((i_ad 70 x1)).toNat)], 119, pm_RF, M)) rfl ?_
        refine R_ic ho rfl (tgt := 47) rfl ?_
        refine R_ne ?_ ?_
        · refine R_st ho 5 (q' := (42, [(0, .inr (.inr (1, 87))), (1, .inl x1), (2, .inl x2)], [.inl (i_ad 70 x2), .inr (.inr (20, 88))], 119, pm_RF, M)) rfl ?_
          refine R_iald ho rfl rfl ?_
          refine R_st ho 1 (q' := (44, [(0, .inr (.inr (1, 87))), (1, .inl x1), (2, .inl x2)], [.inl (-1), .inl (M 88 ((i_ad 70 x2)).toNat)], 119, pm_RF, M)) rfl ?_
          refine R_ic ho rfl (tgt := 51) rfl ?_
          refine R_eq ?_ ?_
          · refine R_st ho 1 (q' := (52, [(0, .inr (.inr (1, 87))), (1, .inl x1), (2, .inl x2)], [.inl 0], 119, pm_RF, M)) rfl ?_
            exact R_end (v := some (.inl 0)) rfl (Or.inr ⟨rfl, Or.inl rfl⟩) rfl rfl
          · refine R_st ho 2 (q' := (52, [(0, .inr (.inr (1, 87))), (1, .inl x1), (2, .inl x2)], [.inl 1], 119, pm_RF, M)) rfl ?_
            exact R_end (v := some (.inl 1)) rfl (Or.inr ⟨rfl, Or.inr rfl⟩) rfl rfl
        · refine R_st ho 2 (q' := (52, [(0, .inr (.inr (1, 87))), (1, .inl x1), (2, .inl x2)], [.inl 1], 119, pm_RF, M)) rfl ?_
          exact R_end (v := some (.inl 1)) rfl (Or.inr ⟨rfl, Or.inr rfl⟩) rfl rfl
theorem ok_Q_changes (G : pm_G) (x1 : Int) (x2 : Int) (M : pm_M)  : pm_R G mt_Q_changes 1 (0, [(0, .inr (.inr (1, 87))), (1, .inl x1), (2, .inl x2)], [], 119, pm_RF, M) (f_Q_changes x1 x2 M) (pm_Zr mt_Q_changes pm_gV) := by
  have ho : pm_oG G mt_Q_changes := (oa_Q_changes).g G
  unfold f_Q_changes
  refine R_st ho 5 (q' := (8, [(0, .inr (.inr (1, 87))), (1, .inl x1), (2, .inl x2)], [.inl (i_ad 70 x1), .inr (.inr (20, 88))], 119, pm_RF, M)) rfl ?_
  refine R_iald ho rfl rfl ?_
  refine R_st ho 1 (q' := (10, [(3, .inl (M 88 ((i_ad 70 x1)).toNat)), (0, .inr (.inr (1, 87))), (1, .inl x1), (2, .inl x2)], [], 119, pm_RF, M)) rfl ?_
  refine R_nx (fun z_ => (10, [(3, .inl z_), (0, .inr (.inr (1, 87))), (1, .inl x1), (2, .inl x2)], [], 119, pm_RF, M)) fun v779 => ?_
  refine R_st ho 10 (q' := (26, [(3, .inl v779), (0, .inr (.inr (1, 87))), (1, .inl x1), (2, .inl x2)], [.inl (i_ad 70 x2), .inr (.inr (20, 88)), .inl (i_ad 70 x1), .inr (.inr (20, 88))], 119, pm_RF, M)) rfl ?_
  refine R_iald ho rfl rfl ?_
  refine R_iast ho rfl rfl ?_
  refine R_nm fun M780 => ?_
  refine R_st ho 6 (q' := (37, [(3, .inl v779), (0, .inr (.inr (1, 87))), (1, .inl x1), (2, .inl x2)], [.inl v779, .inl (i_ad 70 x2), .inr (.inr (20, 88))], 119, pm_RF, M780)) rfl ?_
  refine R_iast ho rfl rfl ?_
  refine R_nm fun M781 => ?_
  exact R_end (v := none) rfl rfl rfl rfl
theorem ok_Q_change (G : pm_G) (x1 : Int) (x2 : Int) (M : pm_M)  : pm_R G mt_Q_change 4 (0, [(0, .inr (.inr (1, 87))), (1, .inl x1), (2, .inl x2)], [], 119, pm_RF, M) (f_Q_change x1 x2 M) (pm_Zr mt_Q_change pm_gI) := by
  have ho : pm_oG G mt_Q_change := (oa_Q_change).g G
  unfold f_Q_change
  refine R_st ho 3 (q' := (3, [(0, .inr (.inr (1, 87))), (1, .inl x1), (2, .inl x2)], [.inl x2, .inl x1, .inr (.inr (1, 87))], 119, pm_RF, M)) rfl ?_
  refine R_callV ho mv_Q_canChange lk_1_140 rfl (As := [.inl x1, .inl x2]) (kd := 1) (a := 87) (st := []) rfl rfl (Nat.le_of_ble_eq_true rfl) rfl (by decide) (Nat.le_of_ble_eq_true rfl) (ok_Q_canChange G x1 x2 M ) (fun r777 => ?_)
  show pm_R _ _ _ (6, [(0, .inr (.inr (1, 87))), (1, .inl x1), (2, .inl x2)], [.inl r777], 119, pm_RF, M) _ _
  refine R_if ho rfl (tgt := 11) rfl ?_
  refine R_ne ?_ ?_
  · refine R_st ho 1 (q' := (10, [(0, .inr (.inr (1, 87))), (1, .inl x1), (2, .inl x2)], [.inl 0], 119, pm_RF, M)) rfl ?_
    exact R_end (v := some (.inl 0)) rfl (Or.inr ⟨rfl, Or.inl rfl⟩) rfl rfl
  · refine R_st ho 1 (q' := (12, [(0, .inr (.inr (1, 87))), (1, .inl x1), (2, .inl x2)], [.inr (.inr (1, 87))], 119, pm_RF, M)) rfl ?_
    refine R_callV ho mv_Q_keepsStep lk_1_137 rfl (As := []) (kd := 1) (a := 87) (st := []) rfl rfl (Nat.le_of_ble_eq_true rfl) rfl (by decide) (Nat.le_of_ble_eq_true rfl) (ok_Q_keepsStep G  M ) (fun M778 => ?_)
    show pm_R _ _ _ (15, [(0, .inr (.inr (1, 87))), (1, .inl x1), (2, .inl x2)], [], 119, pm_RF, M778) _ _
    refine R_st ho 3 (q' := (18, [(0, .inr (.inr (1, 87))), (1, .inl x1), (2, .inl x2)], [.inl x2, .inl x1, .inr (.inr (1, 87))], 119, pm_RF, M778)) rfl ?_
    refine R_callV ho mv_Q_changes lk_1_143 rfl (As := [.inl x1, .inl x2]) (kd := 1) (a := 87) (st := []) rfl rfl (Nat.le_of_ble_eq_true rfl) rfl (by decide) (Nat.le_of_ble_eq_true rfl) (ok_Q_changes G x1 x2 M778 ) (fun M782 => ?_)
    show pm_R _ _ _ (21, [(0, .inr (.inr (1, 87))), (1, .inl x1), (2, .inl x2)], [], 119, pm_RF, M782) _ _
    refine R_st ho 1 (q' := (22, [(0, .inr (.inr (1, 87))), (1, .inl x1), (2, .inl x2)], [.inl 1], 119, pm_RF, M782)) rfl ?_
    exact R_end (v := some (.inl 1)) rfl (Or.inr ⟨rfl, Or.inr rfl⟩) rfl rfl
theorem ok_Q_carve (G : pm_G) (x1 : Int) (x2 : Int) (M : pm_M)  : pm_R G mt_Q_carve 3 (0, [(0, .inr (.inr (1, 87))), (1, .inl x1), (2, .inl x2)], [], 119, pm_RF, M) (f_Q_carve x1 x2 M) (pm_Zr mt_Q_carve pm_gI) := by
  have ho : pm_oG G mt_Q_carve := (oa_Q_carve).g G
  unfold f_Q_carve
  refine R_st ho 2 (q' := (2, [(0, .inr (.inr (1, 87))), (1, .inl x1), (2, .inl x2)], [.inl x1, .inr (.inr (1, 87))], 119, pm_RF, M)) rfl ?_
  refine R_callV ho mv_Q_isPlinth lk_1_126 rfl (As := [.inl x1]) (kd := 1) (a := 87) (st := []) rfl rfl (Nat.le_of_ble_eq_true rfl) rfl (by decide) (Nat.le_of_ble_eq_true rfl) (ok_Q_isPlinth G x1 M ) (fun r783 => ?_)
  show pm_R _ _ _ (5, [(0, .inr (.inr (1, 87))), (1, .inl x1), (2, .inl x2)], [.inl r783], 119, pm_RF, M) _ _
  refine R_if ho rfl (tgt := 31) rfl ?_
  refine R_eq ?_ ?_
  · refine R_st ho 1 (q' := (32, [(0, .inr (.inr (1, 87))), (1, .inl x1), (2, .inl x2)], [.inl 0], 119, pm_RF, M)) rfl ?_
    exact R_end (v := some (.inl 0)) rfl (Or.inr ⟨rfl, Or.inl rfl⟩) rfl rfl
  · refine R_st ho 3 (q' := (12, [(0, .inr (.inr (1, 87))), (1, .inl x1), (2, .inl x2)], [.inl 11, .inl (-1), .inl x2], 119, pm_RF, M)) rfl ?_
    refine R_callS ho ms_Q_in lk_1_118 rfl (As := [.inl x2, .inl (-1), .inl 11]) (st := []) rfl (Nat.le_of_ble_eq_true rfl) rfl (by decide) (Nat.le_of_ble_eq_true rfl) (ok_Q_in G x2 (-1) 11 M ) (fun r784 => ?_)
    show pm_R _ _ _ (15, [(0, .inr (.inr (1, 87))), (1, .inl x1), (2, .inl x2)], [.inl r784], 119, pm_RF, M) _ _
    refine R_if ho rfl (tgt := 31) rfl ?_
    refine R_eq ?_ ?_
    · refine R_st ho 1 (q' := (32, [(0, .inr (.inr (1, 87))), (1, .inl x1), (2, .inl x2)], [.inl 0], 119, pm_RF, M)) rfl ?_
      exact R_end (v := some (.inl 0)) rfl (Or.inr ⟨rfl, Or.inl rfl⟩) rfl rfl
    · refine R_st ho 5 (q' := (26, [(0, .inr (.inr (1, 87))), (1, .inl x1), (2, .inl x2)], [.inl (i_ad 78 x1), .inr (.inr (20, 88))], 119, pm_RF, M)) rfl ?_
      refine R_iald ho rfl rfl ?_
      refine R_st ho 1 (q' := (28, [(0, .inr (.inr (1, 87))), (1, .inl x1), (2, .inl x2)], [.inl x2, .inl (M 88 ((i_ad 78 x1)).toNat)], 119, pm_RF, M)) rfl ?_
      refine R_ic ho rfl (tgt := 33) rfl ?_
      refine R_ne ?_ ?_
      · refine R_st ho 1 (q' := (32, [(0, .inr (.inr (1, 87))), (1, .inl x1), (2, .inl x2)], [.inl 0], 119, pm_RF, M)) rfl ?_
        exact R_end (v := some (.inl 0)) rfl (Or.inr ⟨rfl, Or.inl rfl⟩) rfl rfl
      · refine R_st ho 1 (q' := (34, [(0, .inr (.inr (1, 87))), (1, .inl x1), (2, .inl x2)], [.inr (.inr (1, 87))], 119, pm_RF, M)) rfl ?_
        refine R_callV ho mv_Q_keepsStep lk_1_137 rfl (As := []) (kd := 1) (a := 87) (st := []) rfl rfl (Nat.le_of_ble_eq_true rfl) rfl (by decide) (Nat.le_of_ble_eq_true rfl) (ok_Q_keepsStep G  M ) (fun M785 => ?_)
        show pm_R _ _ _ (37, [(0, .inr (.inr (1, 87))), (1, .inl x1), (2, .inl x2)], [], 119, pm_RF, M785) _ _
        refine R_st ho 6 (q' := (46, [(0, .inr (.inr (1, 87))), (1, .inl x1), (2, .inl x2)], [.inl x2, .inl (i_ad 78 x1), .inr (.inr (20, 88))], 119, pm_RF, M785)) rfl ?_
        refine R_iast ho rfl rfl ?_
        refine R_nm fun M786 => ?_
        refine R_st ho 1 (q' := (48, [(0, .inr (.inr (1, 87))), (1, .inl x1), (2, .inl x2)], [.inl 1], 119, pm_RF, M786)) rfl ?_
        exact R_end (v := some (.inl 1)) rfl (Or.inr ⟨rfl, Or.inr rfl⟩) rfl rfl
theorem ok_Q_pay (G : pm_G) (x1 : Int) (x2 : Int) (M : pm_M)  : pm_R G mt_Q_pay 3 (0, [(0, .inr (.inr (1, 87))), (1, .inl x1), (2, .inl x2)], [], 119, pm_RF, M) (f_Q_pay x1 x2 M) (pm_Zr mt_Q_pay pm_gI) := by
  have ho : pm_oG G mt_Q_pay := (oa_Q_pay).g G
  unfold f_Q_pay
  refine R_st ho 2 (q' := (2, [(0, .inr (.inr (1, 87))), (1, .inl x1), (2, .inl x2)], [.inl x1, .inr (.inr (1, 87))], 119, pm_RF, M)) rfl ?_
  refine R_callV ho mv_Q_isHead lk_1_122 rfl (As := [.inl x1]) (kd := 1) (a := 87) (st := []) rfl rfl (Nat.le_of_ble_eq_true rfl) rfl (by decide) (Nat.le_of_ble_eq_true rfl) (ok_Q_isHead G x1 M ) (fun r787 => ?_)
  show pm_R _ _ _ (5, [(0, .inr (.inr (1, 87))), (1, .inl x1), (2, .inl x2)], [.inl r787], 119, pm_RF, M) _ _
  refine R_if ho rfl (tgt := 43) rfl ?_
  refine R_eq ?_ ?_
  · refine R_st ho 1 (q' := (44, [(0, .inr (.inr (1, 87))), (1, .inl x1), (2, .inl x2)], [.inl (-1)], 119, pm_RF, M)) rfl ?_
    exact R_end (v := some (.inl (-1))) rfl (Or.inl rfl) rfl rfl
  · refine R_st ho 3 (q' := (13, [(0, .inr (.inr (1, 87))), (1, .inl x1), (2, .inl x2)], [.inl 9999, .inl 1, .inl x2], 119, pm_RF, M)) rfl ?_
    refine R_callS ho ms_Q_in lk_1_118 rfl (As := [.inl x2, .inl 1, .inl 9999]) (st := []) rfl (Nat.le_of_ble_eq_true rfl) rfl (by decide) (Nat.le_of_ble_eq_true rfl) (ok_Q_in G x2 1 9999 M ) (fun r788 => ?_)
    show pm_R _ _ _ (16, [(0, .inr (.inr (1, 87))), (1, .inl x1), (2, .inl x2)], [.inl r788], 119, pm_RF, M) _ _
    refine R_if ho rfl (tgt := 43) rfl ?_
    refine R_eq ?_ ?_
    · refine R_st ho 1 (q' := (44, [(0, .inr (.inr (1, 87))), (1, .inl x1), (2, .inl x2)], [.inl (-1)], 119, pm_RF, M)) rfl ?_
      exact R_end (v := some (.inl (-1))) rfl (Or.inl rfl) rfl rfl
    · refine R_st ho 5 (q' := (27, [(0, .inr (.inr (1, 87))), (1, .inl x1), (2, .inl x2)], [.inl (i_ad 86 x1), .inr (.inr (20, 88))], 119, pm_RF, M)) rfl ?_
      refine R_iald ho rfl rfl ?_
      refine R_st ho 1 (q' := (29, [(0, .inr (.inr (1, 87))), (1, .inl x1), (2, .inl x2)], [.inl x2, .inl (M 88 ((i_ad 86 x1)).toNat)], 119, pm_RF, M)) rfl ?_
      refine R_ic ho rfl (tgt := 43) rfl ?_
      refine R_lt ?_ ?_
      · refine R_st ho 1 (q' := (44, [(0, .inr (.inr (1, 87))), (1, .inl x1), (2, .inl x2)], [.inl (-1)], 119, pm_RF, M)) rfl ?_
        exact R_end (v := some (.inl (-1))) rfl (Or.inl rfl) rfl rfl
      · refine R_st ho 5 (q' := (40, [(0, .inr (.inr (1, 87))), (1, .inl x1), (2, .inl x2)], [.inl x2, .inl (M 88 98)], 119, pm_RF, M)) rfl ?_
        refine R_ic ho rfl (tgt := 45) rfl ?_
        refine R_ge ?_ ?_
        · refine R_st ho 1 (q' := (46, [(0, .inr (.inr (1, 87))), (1, .inl x1), (2, .inl x2)], [.inr (.inr (1, 87))], 119, pm_RF, M)) rfl ?_
          refine R_callV ho mv_Q_keepsStep lk_1_137 rfl (As := []) (kd := 1) (a := 87) (st := []) rfl rfl (Nat.le_of_ble_eq_true rfl) rfl (by decide) (Nat.le_of_ble_eq_true rfl) (ok_Q_keepsStep G  M ) (fun M789 => ?_)
          show pm_R _ _ _ (49, [(0, .inr (.inr (1, 87))), (1, .inl x1), (2, .inl x2)], [], 119, pm_RF, M789) _ _
          refine R_st ho 6 (q' := (58, [(0, .inr (.inr (1, 87))), (1, .inl x1), (2, .inl x2)], [.inl (i_ad 86 x1), .inr (.inr (20, 88)), .inl (i_ad 86 x1), .inr (.inr (20, 88))], 119, pm_RF, M789)) rfl ?_
          refine R_iald ho rfl rfl ?_
          refine R_st ho 2 (q' := (61, [(0, .inr (.inr (1, 87))), (1, .inl x1), (2, .inl x2)], [.inl (i_sb (M789 88 ((i_ad 86 x1)).toNat) x2), .inl (i_ad 86 x1), .inr (.inr (20, 88))], 119, pm_RF, M789)) rfl ?_
          refine R_iast ho rfl rfl ?_
          refine R_nm fun M790 => ?_
          refine R_st ho 8 (q' := (73, [(0, .inr (.inr (1, 87))), (1, .inl x1), (2, .inl x2)], [], 119, pm_RF, (pm_ms M790 88 98 (i_sb (M790 88 98) x2)))) rfl ?_
          refine R_nm fun M791 => ?_
          refine R_st ho 5 (q' := (81, [(0, .inr (.inr (1, 87))), (1, .inl x1), (2, .inl x2)], [.inl (i_ad 86 x1), .inr (.inr (20, 88))], 119, pm_RF, M791)) rfl ?_
          refine R_iald ho rfl rfl ?_
          exact R_end (v := some (.inl (M791 88 ((i_ad 86 x1)).toNat))) rfl (Or.inl rfl) rfl rfl
        · refine R_st ho 1 (q' := (44, [(0, .inr (.inr (1, 87))), (1, .inl x1), (2, .inl x2)], [.inl (-1)], 119, pm_RF, M)) rfl ?_
          exact R_end (v := some (.inl (-1))) rfl (Or.inl rfl) rfl rfl
theorem ok_Q_feeds_L3 (G : pm_G)    : ∀ (n_ : Nat) (y1 : Int) (y2 : Int) (M : pm_M), pm_R G mt_Q_feeds 1 (3, [(0, .inr (.inr (1, 87))), (1, .inl y1), (2, .inl y2)], [], 119, pm_RF, M) (f_Q_feeds_L3 n_ y1 y2 M) (fun e_ q_ => q_ = (38, [], [], 119, pm_RF, e_)) := by
  have ho : pm_oG G mt_Q_feeds := (oa_Q_feeds).g G
  intro n_
  induction n_ with
  | zero => intro _ _ _; exact R_none
  | succ n_ ih_ =>
    intro y1 y2 M
    rw [f_Q_feeds_L3]
    refine R_st ho 1 (q' := (4, [(0, .inr (.inr (1, 87))), (1, .inl y1), (2, .inl y2)], [.inl y2], 119, pm_RF, M)) rfl ?_
    refine R_if ho rfl (tgt := 38) rfl ?_
    refine R_lt ?_ ?_
    · refine R_pk [] rfl ?_
      exact R_ret rfl
    · refine R_st ho 8 (q' := (19, [(0, .inr (.inr (1, 87))), (1, .inl y1), (2, .inl y2)], [.inl (i_2b (i_sr y1 y2)), .inl (M 87 3), .inr (.inr (22, 90))], 119, pm_RF, M)) rfl ?_
      refine R_bast ho rfl rfl ?_
      refine R_nm fun M792 => ?_
      refine R_st ho 6 (q' := (30, [(0, .inr (.inr (1, 87))), (1, .inl y1), (2, .inl y2)], [], 119, pm_RF, (pm_ms M792 87 3 (i_ad (M792 87 3) 1)))) rfl ?_
      refine R_nm fun M793 => ?_
      refine R_st ho 5 (q' := (3, [(2, .inl (i_sb y2 8)), (0, .inr (.inr (1, 87))), (1, .inl y1)], [], 119, pm_RF, M793)) rfl ?_
      refine R_pk [0, 1, 2] rfl ?_
      exact ih_ y1 (i_sb y2 8) M793
theorem ok_Q_feeds (G : pm_G) (x1 : Int) (M : pm_M)  : pm_R G mt_Q_feeds 1 (0, [(0, .inr (.inr (1, 87))), (1, .inl x1)], [], 119, pm_RF, M) (f_Q_feeds x1 M) (pm_Zr mt_Q_feeds pm_gV) := by
  have ho : pm_oG G mt_Q_feeds := (oa_Q_feeds).g G
  unfold f_Q_feeds
  refine R_st ho 2 (q' := (3, [(2, .inl 24), (0, .inr (.inr (1, 87))), (1, .inl x1)], [], 119, pm_RF, M)) rfl ?_
  refine R_pk [0, 1, 2] rfl ?_
  refine R_bind (ok_Q_feeds_L3 G pm_F x1 24 M) ?_
  intro e794 q_ hq_
  obtain rfl : q_ = (38, [], [], 119, pm_RF, e794) := hq_
  exact R_end (v := none) rfl rfl rfl rfl
theorem ok_Q_feed (G : pm_G) (x1 : Int) (x2 : Int) (x3 : Int) (x4 : Int) (x5 : Int) (M : pm_M)  : pm_R G mt_Q_feed 2 (0, [(0, .inr (.inr (1, 87))), (1, .inl x1), (2, .inl x2), (3, .inl x3), (4, .inl x4), (5, .inl x5)], [], 119, pm_RF, M) (f_Q_feed x1 x2 x3 x4 x5 M) (pm_Zr mt_Q_feed pm_gI) := by
  have ho : pm_oG G mt_Q_feed := (oa_Q_feed).g G
  unfold f_Q_feed
  refine R_st ho 5 (q' := (10, [(0, .inr (.inr (1, 87))), (1, .inl x1), (2, .inl x2), (3, .inl x3), (4, .inl x4), (5, .inl x5)], [.inl 300, .inl (i_ad (M 87 3) 20)], 119, pm_RF, M)) rfl ?_
  refine R_ic ho rfl (tgt := 15) rfl ?_
  refine R_le ?_ ?_
  · refine R_st ho 2 (q' := (17, [(0, .inr (.inr (1, 87))), (1, .inl x1), (2, .inl x2), (3, .inl x3), (4, .inl x4), (5, .inl x5)], [.inl x1, .inr (.inr (1, 87))], 119, pm_RF, M)) rfl ?_
    refine R_callV ho mv_Q_feeds lk_1_150 rfl (As := [.inl x1]) (kd := 1) (a := 87) (st := []) rfl rfl (Nat.le_of_ble_eq_true rfl) rfl (by decide) (Nat.le_of_ble_eq_true rfl) (ok_Q_feeds G x1 M ) (fun M795 => ?_)
    show pm_R _ _ _ (20, [(0, .inr (.inr (1, 87))), (1, .inl x1), (2, .inl x2), (3, .inl x3), (4, .inl x4), (5, .inl x5)], [], 119, pm_RF, M795) _ _
    refine R_st ho 2 (q' := (22, [(0, .inr (.inr (1, 87))), (1, .inl x1), (2, .inl x2), (3, .inl x3), (4, .inl x4), (5, .inl x5)], [.inl x2, .inr (.inr (1, 87))], 119, pm_RF, M795)) rfl ?_
    refine R_callV ho mv_Q_feeds lk_1_150 rfl (As := [.inl x2]) (kd := 1) (a := 87) (st := []) rfl rfl (Nat.le_of_ble_eq_true rfl) rfl (by decide) (Nat.le_of_ble_eq_true rfl) (ok_Q_feeds G x2 M795 ) (fun M796 => ?_)
    show pm_R _ _ _ (25, [(0, .inr (.inr (1, 87))), (1, .inl x1), (2, .inl x2), (3, .inl x3), (4, .inl x4), (5, .inl x5)], [], 119, pm_RF, M796) _ _
    refine R_st ho 2 (q' := (27, [(0, .inr (.inr (1, 87))), (1, .inl x1), (2, .inl x2), (3, .inl x3), (4, .inl x4), (5, .inl x5)], [.inl x3, .inr (.inr (1, 87))], 119, pm_RF, M796)) rfl ?_
    refine R_callV ho mv_Q_feeds lk_1_150 rfl (As := [.inl x3]) (kd := 1) (a := 87) (st := []) rfl rfl (Nat.le_of_ble_eq_true rfl) rfl (by decide) (Nat.le_of_ble_eq_true rfl) (ok_Q_feeds G x3 M796 ) (fun M797 => ?_)
    show pm_R _ _ _ (30, [(0, .inr (.inr (1, 87))), (1, .inl x1), (2, .inl x2), (3, .inl x3), (4, .inl x4), (5, .inl x5)], [], 119, pm_RF, M797) _ _
    refine R_st ho 2 (q' := (33, [(0, .inr (.inr (1, 87))), (1, .inl x1), (2, .inl x2), (3, .inl x3), (4, .inl x4), (5, .inl x5)], [.inl x4, .inr (.inr (1, 87))], 119, pm_RF, M797)) rfl ?_
    refine R_callV ho mv_Q_feeds lk_1_150 rfl (As := [.inl x4]) (kd := 1) (a := 87) (st := []) rfl rfl (Nat.le_of_ble_eq_true rfl) rfl (by decide) (Nat.le_of_ble_eq_true rfl) (ok_Q_feeds G x4 M797 ) (fun M798 => ?_)
    show pm_R _ _ _ (36, [(0, .inr (.inr (1, 87))), (1, .inl x1), (2, .inl x2), (3, .inl x3), (4, .inl x4), (5, .inl x5)], [], 119, pm_RF, M798) _ _
    refine R_st ho 2 (q' := (39, [(0, .inr (.inr (1, 87))), (1, .inl x1), (2, .inl x2), (3, .inl x3), (4, .inl x4), (5, .inl x5)], [.inl x5, .inr (.inr (1, 87))], 119, pm_RF, M798)) rfl ?_
    refine R_callV ho mv_Q_feeds lk_1_150 rfl (As := [.inl x5]) (kd := 1) (a := 87) (st := []) rfl rfl (Nat.le_of_ble_eq_true rfl) rfl (by decide) (Nat.le_of_ble_eq_true rfl) (ok_Q_feeds G x5 M798 ) (fun M799 => ?_)
    show pm_R _ _ _ (42, [(0, .inr (.inr (1, 87))), (1, .inl x1), (2, .inl x2), (3, .inl x3), (4, .inl x4), (5, .inl x5)], [], 119, pm_RF, M799) _ _
    refine R_st ho 2 (q' := (46, [(0, .inr (.inr (1, 87))), (1, .inl x1), (2, .inl x2), (3, .inl x3), (4, .inl x4), (5, .inl x5)], [.inl (M799 87 3)], 119, pm_RF, M799)) rfl ?_
    exact R_end (v := some (.inl (M799 87 3))) rfl (Or.inl rfl) rfl rfl
  · refine R_st ho 1 (q' := (14, [(0, .inr (.inr (1, 87))), (1, .inl x1), (2, .inl x2), (3, .inl x3), (4, .inl x4), (5, .inl x5)], [.inl (-1)], 119, pm_RF, M)) rfl ?_
    exact R_end (v := some (.inl (-1))) rfl (Or.inl rfl) rfl rfl
theorem ok_Q_end (G : pm_G) (x1 : Int) (M : pm_M)  : pm_R G mt_Q_end 2 (0, [(0, .inr (.inr (1, 87))), (1, .inl x1)], [], 119, pm_RF, M) (f_Q_end x1 M) (pm_Zr mt_Q_end pm_gI) := by
  have ho : pm_oG G mt_Q_end := (oa_Q_end).g G
  unfold f_Q_end
  refine R_st ho 4 (q' := (6, [(0, .inr (.inr (1, 87))), (1, .inl x1)], [.inl (M 87 3), .inl 0, .inl x1], 119, pm_RF, M)) rfl ?_
  refine R_callS ho ms_Q_in lk_1_118 rfl (As := [.inl x1, .inl 0, .inl (M 87 3)]) (st := []) rfl (Nat.le_of_ble_eq_true rfl) rfl (by decide) (Nat.le_of_ble_eq_true rfl) (ok_Q_in G x1 0 (M 87 3) M ) (fun r800 => ?_)
  show pm_R _ _ _ (9, [(0, .inr (.inr (1, 87))), (1, .inl x1)], [.inl r800], 119, pm_RF, M) _ _
  refine R_if ho rfl (tgt := 14) rfl ?_
  refine R_ne ?_ ?_
  · refine R_st ho 1 (q' := (13, [(0, .inr (.inr (1, 87))), (1, .inl x1)], [.inl (-1)], 119, pm_RF, M)) rfl ?_
    exact R_end (v := some (.inl (-1))) rfl (Or.inl rfl) rfl rfl
  · refine R_st ho 3 (q' := (19, [(0, .inr (.inr (1, 87))), (1, .inl x1)], [], 119, pm_RF, (pm_ms M 87 3 x1))) rfl ?_
    refine R_nm fun M801 => ?_
    refine R_st ho 1 (q' := (20, [(0, .inr (.inr (1, 87))), (1, .inl x1)], [.inl x1], 119, pm_RF, M801)) rfl ?_
    exact R_end (v := some (.inl x1)) rfl (Or.inl rfl) rfl rfl
theorem ok_Q_isLetter (G : pm_G) (x0 : Int) (M : pm_M)  : pm_R G mt_Q_isLetter 2 (0, [(0, .inl x0)], [], 119, pm_RF, M) (f_Q_isLetter x0 M) (pm_Zr mt_Q_isLetter (pm_gi M)) := by
  have ho : pm_oG G mt_Q_isLetter := (oa_Q_isLetter).g G
  unfold f_Q_isLetter
  refine R_st ho 3 (q' := (5, [(0, .inl x0)], [.inl 122, .inl 97, .inl x0], 119, pm_RF, M)) rfl ?_
  refine R_callS ho ms_Q_in lk_1_118 rfl (As := [.inl x0, .inl 97, .inl 122]) (st := []) rfl (Nat.le_of_ble_eq_true rfl) rfl (by decide) (Nat.le_of_ble_eq_true rfl) (ok_Q_in G x0 97 122 M ) (fun r819 => ?_)
  show pm_R _ _ _ (8, [(0, .inl x0)], [.inl r819], 119, pm_RF, M) _ _
  refine R_if ho rfl (tgt := 22) rfl ?_
  refine R_ne ?_ ?_
  · refine R_st ho 3 (q' := (16, [(0, .inl x0)], [.inl 90, .inl 65, .inl x0], 119, pm_RF, M)) rfl ?_
    refine R_callS ho ms_Q_in lk_1_118 rfl (As := [.inl x0, .inl 65, .inl 90]) (st := []) rfl (Nat.le_of_ble_eq_true rfl) rfl (by decide) (Nat.le_of_ble_eq_true rfl) (ok_Q_in G x0 65 90 M ) (fun r820 => ?_)
    show pm_R _ _ _ (19, [(0, .inl x0)], [.inl r820], 119, pm_RF, M) _ _
    refine R_if ho rfl (tgt := 26) rfl ?_
    refine R_eq ?_ ?_
    · refine R_st ho 1 (q' := (27, [(0, .inl x0)], [.inl 0], 119, pm_RF, M)) rfl ?_
      exact R_end (v := some (.inl 0)) rfl (Or.inr ⟨rfl, Or.inl rfl⟩) rfl rfl
    · refine R_st ho 2 (q' := (27, [(0, .inl x0)], [.inl 1], 119, pm_RF, M)) rfl ?_
      exact R_end (v := some (.inl 1)) rfl (Or.inr ⟨rfl, Or.inr rfl⟩) rfl rfl
  · refine R_st ho 2 (q' := (27, [(0, .inl x0)], [.inl 1], 119, pm_RF, M)) rfl ?_
    exact R_end (v := some (.inl 1)) rfl (Or.inr ⟨rfl, Or.inr rfl⟩) rfl rfl
theorem ok_Q_wordOf (G : pm_G) (x0 : Int) (M : pm_M)  : pm_R G mt_Q_wordOf 1 (0, [(0, .inr (.inl x0))], [], 119, pm_RF, M) (f_Q_wordOf x0 M) (pm_Zr mt_Q_wordOf (pm_gi M)) := by
  have ho : pm_oG G mt_Q_wordOf := (oa_Q_wordOf).g G
  unfold f_Q_wordOf
  refine R_st ho 2 (q' := (4, [(0, .inr (.inl x0))], [.inr (.inl 150885), .inr (.inl x0)], 119, pm_RF, M)) rfl ?_
  refine R_lc ho rfl rfl (tgt := 10) rfl ?_
  refine R_ne ?_ ?_
  · refine R_st ho 1 (q' := (9, [(0, .inr (.inl x0))], [.inl 0], 119, pm_RF, M)) rfl ?_
    exact R_end (v := some (.inl 0)) rfl (Or.inl rfl) rfl rfl
  · refine R_st ho 2 (q' := (14, [(0, .inr (.inl x0))], [.inr (.inl 12721779), .inr (.inl x0)], 119, pm_RF, M)) rfl ?_
    refine R_lc ho rfl rfl (tgt := 20) rfl ?_
    refine R_ne ?_ ?_
    · refine R_st ho 1 (q' := (19, [(0, .inr (.inl x0))], [.inl 1], 119, pm_RF, M)) rfl ?_
      exact R_end (v := some (.inl 1)) rfl (Or.inl rfl) rfl rfl
    · refine R_st ho 2 (q' := (24, [(0, .inr (.inl x0))], [.inr (.inl 581380403), .inr (.inl x0)], 119, pm_RF, M)) rfl ?_
      refine R_lc ho rfl rfl (tgt := 30) rfl ?_
      refine R_ne ?_ ?_
      · refine R_st ho 1 (q' := (29, [(0, .inr (.inl x0))], [.inl 2], 119, pm_RF, M)) rfl ?_
        exact R_end (v := some (.inl 2)) rfl (Or.inl rfl) rfl rfl
      · refine R_st ho 2 (q' := (34, [(0, .inr (.inl x0))], [.inr (.inl 818583781), .inr (.inl x0)], 119, pm_RF, M)) rfl ?_
        refine R_lc ho rfl rfl (tgt := 40) rfl ?_
        refine R_ne ?_ ?_
        · refine R_st ho 1 (q' := (39, [(0, .inr (.inl x0))], [.inl 3], 119, pm_RF, M)) rfl ?_
          exact R_end (v := some (.inl 3)) rfl (Or.inl rfl) rfl rfl
        · refine R_st ho 2 (q' := (44, [(0, .inr (.inl x0))], [.inr (.inl 646368051), .inr (.inl x0)], 119, pm_RF, M)) rfl ?_
          refine R_lc ho rfl rfl (tgt := 50) rfl ?_
          refine R_ne ?_ ?_
          · refine R_st ho 1 (q' := (49, [(0, .inr (.inl x0))], [.inl 4], 119, pm_RF, M)) rfl ?_
            exact R_end (v := some (.inl 4)) rfl (Or.inl rfl) rfl rfl
          · refine R_st ho 2 (q' := (54, [(0, .inr (.inl x0))], [.inr (.inl 200052), .inr (.inl x0)], 119, pm_RF, M)) rfl ?_
            refine R_lc ho rfl rfl (tgt := 60) rfl ?_
            refine R_ne ?_ ?_
            · refine R_st ho 1 (q' := (59, [(0, .inr (.inl x0))], [.inl 5], 119, pm_RF, M)) rfl ?_
              exact R_end (v := some (.inl 5)) rfl (Or.inl rfl) rfl rfl
            · refine R_st ho 2 (q' := (64, [(0, .inr (.inl x0))], [.inr (.inl 194982), .inr (.inl x0)], 119, pm_RF, M)) rfl ?_
              refine R_lc ho rfl rfl (tgt := 71) rfl ?_
              refine R_ne ?_ ?_
              · refine R_st ho 1 (q' := (70, [(0, .inr (.inl x0))], [.inl 6], 119, pm_RF, M)) rfl ?_
                exact R_end (v := some (.inl 6)) rfl (Or.inl rfl) rfl rfl
              · refine R_st ho 2 (q' := (75, [(0, .inr (.inl x0))], [.inr (.inl 38260894181), .inr (.inl x0)], 119, pm_RF, M)) rfl ?_
                refine R_lc ho rfl rfl (tgt := 82) rfl ?_
                refine R_ne ?_ ?_
                · refine R_st ho 1 (q' := (81, [(0, .inr (.inl x0))], [.inl 7], 119, pm_RF, M)) rfl ?_
                  exact R_end (v := some (.inl 7)) rfl (Or.inl rfl) rfl rfl
                · refine R_st ho 2 (q' := (86, [(0, .inr (.inl x0))], [.inr (.inl 12721395), .inr (.inl x0)], 119, pm_RF, M)) rfl ?_
                  refine R_lc ho rfl rfl (tgt := 93) rfl ?_
                  refine R_ne ?_ ?_
                  · refine R_st ho 1 (q' := (92, [(0, .inr (.inl x0))], [.inl 8], 119, pm_RF, M)) rfl ?_
                    exact R_end (v := some (.inl 8)) rfl (Or.inl rfl) rfl rfl
                  · refine R_st ho 2 (q' := (97, [(0, .inr (.inl x0))], [.inr (.inl 3054), .inr (.inl x0)], 119, pm_RF, M)) rfl ?_
                    refine R_lc ho rfl rfl (tgt := 104) rfl ?_
                    refine R_ne ?_ ?_
                    · refine R_st ho 1 (q' := (103, [(0, .inr (.inl x0))], [.inl 9], 119, pm_RF, M)) rfl ?_
                      exact R_end (v := some (.inl 9)) rfl (Or.inl rfl) rfl rfl
                    · refine R_st ho 2 (q' := (108, [(0, .inr (.inl x0))], [.inr (.inl 14589224), .inr (.inl x0)], 119, pm_RF, M)) rfl ?_
                      refine R_lc ho rfl rfl (tgt := 115) rfl ?_
                      refine R_ne ?_ ?_
                      · refine R_st ho 1 (q' := (114, [(0, .inr (.inl x0))], [.inl 10], 119, pm_RF, M)) rfl ?_
                        exact R_end (v := some (.inl 10)) rfl (Or.inl rfl) rfl rfl
                      · refine R_st ho 2 (q' := (119, [(0, .inr (.inl x0))], [.inr (.inl 3058), .inr (.inl x0)], 119, pm_RF, M)) rfl ?_
                        refine R_lc ho rfl rfl (tgt := 126) rfl ?_
                        refine R_ne ?_ ?_
                        · refine R_st ho 1 (q' := (125, [(0, .inr (.inl x0))], [.inl 11], 119, pm_RF, M)) rfl ?_
                          exact R_end (v := some (.inl 11)) rfl (Or.inl rfl) rfl rfl
                        · refine R_st ho 2 (q' := (130, [(0, .inr (.inl x0))], [.inr (.inl 138148), .inr (.inl x0)], 119, pm_RF, M)) rfl ?_
                          refine R_lc ho rfl rfl (tgt := 137) rfl ?_
                          refine R_ne ?_ ?_
                          · refine R_st ho 1 (q' := (136, [(0, .inr (.inl x0))], [.inl 12], 119, pm_RF, M)) rfl ?_
                            exact R_end (v := some (.inl 12)) rfl (Or.inl rfl) rfl rfl
                          · refine R_st ho 2 (q' := (141, [(0, .inr (.inl x0))], [.inr (.inl 191476), .inr (.inl x0)], 119, pm_RF, M)) rfl ?_
                            refine R_lc ho rfl rfl (tgt := 148) rfl ?_
                            refine R_ne ?_ ?_
                            · refine R_st ho 1 (q' := (147, [(0, .inr (.inl x0))], [.inl 13], 119, pm_RF, M)) rfl ?_
                              exact R_end (v := some (.inl 13)) rfl (Or.inl rfl) rfl rfl
                            · refine R_st ho 2 (q' := (152, [(0, .inr (.inl x0))], [.inr (.inl 52288744744), .inr (.inl x0)], 119, pm_RF, M)) rfl ?_
                              refine R_lc ho rfl rfl (tgt := 159) rfl ?_
                              refine R_ne ?_ ?_
                              · refine R_st ho 1 (q' := (158, [(0, .inr (.inl x0))], [.inl 14], 119, pm_RF, M)) rfl ?_
                                exact R_end (v := some (.inl 14)) rfl (Or.inl rfl) rfl rfl
                              · refine R_st ho 2 (q' := (163, [(0, .inr (.inl x0))], [.inr (.inl 866261285), .inr (.inl x0)], 119, pm_RF, M)) rfl ?_
                                refine R_lc ho rfl rfl (tgt := 170) rfl ?_
                                refine R_ne ?_ ?_
                                · refine R_st ho 1 (q' := (169, [(0, .inr (.inl x0))], [.inl 15], 119, pm_RF, M)) rfl ?_
                                  exact R_end (v := some (.inl 15)) rfl (Or.inl rfl) rfl rfl
                                · refine R_st ho 2 (q' := (174, [(0, .inr (.inl x0))], [.inr (.inl 14326135), .inr (.inl x0)], 119, pm_RF, M)) rfl ?_
                                  refine R_lc ho rfl rfl (tgt := 181) rfl ?_
                                  refine R_ne ?_ ?_
                                  · refine R_st ho 1 (q' := (180, [(0, .inr (.inl x0))], [.inl 16], 119, pm_RF, M)) rfl ?_
                                    exact R_end (v := some (.inl 16)) rfl (Or.inl rfl) rfl rfl
                                  · refine R_st ho 2 (q' := (185, [(0, .inr (.inl x0))], [.inr (.inl 149625), .inr (.inl x0)], 119, pm_RF, M)) rfl ?_
                                    refine R_lc ho rfl rfl (tgt := 192) rfl ?_
                                    refine R_ne ?_ ?_
                                    · refine R_st ho 1 (q' := (191, [(0, .inr (.inl x0))], [.inl 17], 119, pm_RF, M)) rfl ?_
                                      exact R_end (v := some (.inl 17)) rfl (Or.inl rfl) rfl rfl
                                    · refine R_st ho 2 (q' := (196, [(0, .inr (.inl x0))], [.inr (.inl 598932709), .inr (.inl x0)], 119, pm_RF, M)) rfl ?_
                                      refine R_lc ho rfl rfl (tgt := 203) rfl ?_
                                      refine R_ne ?_ ?_
                                      · refine R_st ho 1 (q' := (202, [(0, .inr (.inl x0))], [.inl 18], 119, pm_RF, M)) rfl ?_
                                        exact R_end (v := some (.inl 18)) rfl (Or.inl rfl) rfl rfl
                                      · refine R_st ho 2 (q' := (207, [(0, .inr (.inl x0))], [.inr (.inl 10639460), .inr (.inl x0)], 119, pm_RF, M)) rfl ?_
                                        refine R_lc ho rfl rfl (tgt := 214) rfl ?_
                                        refine R_ne ?_ ?_
                                        · refine R_st ho 1 (q' := (213, [(0, .inr (.inl x0))], [.inl 19], 119, pm_RF, M)) rfl ?_
                                          exact R_end (v := some (.inl 19)) rfl (Or.inl rfl) rfl rfl
                                        · refine R_st ho 2 (q' := (218, [(0, .inr (.inl x0))], [.inr (.inl 10099557), .inr (.inl x0)], 119, pm_RF, M)) rfl ?_
                                          refine R_lc ho rfl rfl (tgt := 225) rfl ?_
                                          refine R_ne ?_ ?_
                                          · refine R_st ho 1 (q' := (224, [(0, .inr (.inl x0))], [.inl 20], 119, pm_RF, M)) rfl ?_
                                            exact R_end (v := some (.inl 20)) rfl (Or.inl rfl) rfl rfl
                                          · refine R_st ho 2 (q' := (229, [(0, .inr (.inl x0))], [.inr (.inl 12196709), .inr (.inl x0)], 119, pm_RF, M)) rfl ?_
                                            refine R_lc ho rfl rfl (tgt := 236) rfl ?_
                                            refine R_ne ?_ ?_
                                            · refine R_st ho 1 (q' := (235, [(0, .inr (.inl x0))], [.inl 21], 119, pm_RF, M)) rfl ?_
                                              exact R_end (v := some (.inl 21)) rfl (Or.inl rfl) rfl rfl
                                            · refine R_st ho 2 (q' := (240, [(0, .inr (.inl x0))], [.inr (.inl 849771060), .inr (.inl x0)], 119, pm_RF, M)) rfl ?_
                                              refine R_lc ho rfl rfl (tgt := 247) rfl ?_
                                              refine R_ne ?_ ?_
                                              · refine R_st ho 1 (q' := (246, [(0, .inr (.inl x0))], [.inl 22], 119, pm_RF, M)) rfl ?_
                                                exact R_end (v := some (.inl 22)) rfl (Or.inl rfl) rfl rfl
                                              · refine R_st ho 2 (q' := (251, [(0, .inr (.inl x0))], [.inr (.inl 12548467), .inr (.inl x0)], 119, pm_RF, M)) rfl ?_
                                                refine R_lc ho rfl rfl (tgt := 258) rfl ?_
                                                refine R_ne ?_ ?_
                                                · refine R_st ho 1 (q' := (257, [(0, .inr (.inl x0))], [.inl 23], 119, pm_RF, M)) rfl ?_
                                                  exact R_end (v := some (.inl 23)) rfl (Or.inl rfl) rfl rfl
                                                · refine R_st ho 1 (q' := (259, [(0, .inr (.inl x0))], [.inl (-1)], 119, pm_RF, M)) rfl ?_
                                                  exact R_end (v := some (.inl (-1))) rfl (Or.inl rfl) rfl rfl
theorem ok_Q_next_L0 (G : pm_G)    : ∀ (n_ : Nat) (M : pm_M), pm_R G mt_Q_next 3 (0, [(0, .inr (.inr (1, 87)))], [], 119, pm_RF, M) (f_Q_next_L0 n_ M) (fun e_ q_ => q_ = (52, [(0, .inr (.inr (1, 87)))], [], 119, pm_RF, e_)) := by
  have ho : pm_oG G mt_Q_next := (oa_Q_next).g G
  intro n_
  induction n_ with
  | zero => intro _; exact R_none
  | succ n_ ih_ =>
    intro M
    rw [f_Q_next_L0]
    refine R_st ho 4 (q' := (8, [(0, .inr (.inr (1, 87)))], [.inl (M 87 13), .inl (M 87 14)], 119, pm_RF, M)) rfl ?_
    refine R_ic ho rfl (tgt := 52) rfl ?_
    refine R_ge ?_ ?_
    · exact R_ret rfl
    · refine R_st ho 4 (q' := (19, [(0, .inr (.inr (1, 87)))], [.inl (M 87 14), .inr (.inr (22, 90))], 119, pm_RF, M)) rfl ?_
      refine R_bald ho (by decide) rfl rfl ?_
      refine R_st ho 1 (q' := (22, [(0, .inr (.inr (1, 87)))], [.inl 32, .inl (M 90 ((M 87 14)).toNat)], 119, pm_RF, M)) rfl ?_
      refine R_ic ho rfl (tgt := 39) rfl ?_
      refine R_eq ?_ ?_
      · refine R_st ho 6 (q' := (49, [(0, .inr (.inr (1, 87)))], [], 119, pm_RF, (pm_ms M 87 14 (i_ad (M 87 14) 1)))) rfl ?_
        refine R_nm fun M813 => ?_
        refine R_st ho 1 (q' := (0, [(0, .inr (.inr (1, 87)))], [], 119, pm_RF, M813)) rfl ?_
        exact ih_ M813
      · refine R_st ho 4 (q' := (33, [(0, .inr (.inr (1, 87)))], [.inl (M 87 14), .inr (.inr (22, 90))], 119, pm_RF, M)) rfl ?_
        refine R_bald ho (by decide) rfl rfl ?_
        refine R_st ho 1 (q' := (36, [(0, .inr (.inr (1, 87)))], [.inl 10, .inl (M 90 ((M 87 14)).toNat)], 119, pm_RF, M)) rfl ?_
        refine R_ic ho rfl (tgt := 52) rfl ?_
        refine R_ne ?_ ?_
        · refine R_st ho 6 (q' := (49, [(0, .inr (.inr (1, 87)))], [], 119, pm_RF, (pm_ms M 87 14 (i_ad (M 87 14) 1)))) rfl ?_
          refine R_nm fun M814 => ?_
          refine R_st ho 1 (q' := (0, [(0, .inr (.inr (1, 87)))], [], 119, pm_RF, M814)) rfl ?_
          exact ih_ M814
        · exact R_ret rfl
theorem ok_Q_next_J385 (G : pm_G)     (y1 : Int) (M : pm_M) : pm_R G mt_Q_next 3 (385, [(0, .inr (.inr (1, 87))), (1, .inl y1)], [], 119, pm_RF, M) (f_Q_next_J385 y1 M) (pm_Zr mt_Q_next pm_gV) := by
  have ho : pm_oG G mt_Q_next := (oa_Q_next).g G
  unfold f_Q_next_J385
  refine R_st ho 4 (q' := (393, [(0, .inr (.inr (1, 87))), (1, .inl y1)], [.inl (M 87 13), .inl (M 87 14)], 119, pm_RF, M)) rfl ?_
  refine R_ic ho rfl (tgt := 439) rfl ?_
  refine R_ge ?_ ?_
  · exact R_end (v := none) rfl rfl rfl rfl
  · refine R_st ho 4 (q' := (404, [(0, .inr (.inr (1, 87))), (1, .inl y1)], [.inl (M 87 14), .inr (.inr (22, 90))], 119, pm_RF, M)) rfl ?_
    refine R_bald ho (by decide) rfl rfl ?_
    refine R_st ho 1 (q' := (407, [(0, .inr (.inr (1, 87))), (1, .inl y1)], [.inl 61, .inl (M 90 ((M 87 14)).toNat)], 119, pm_RF, M)) rfl ?_
    refine R_ic ho rfl (tgt := 439) rfl ?_
    refine R_ne ?_ ?_
    · refine R_st ho 3 (q' := (414, [(0, .inr (.inr (1, 87))), (1, .inl y1)], [.inl 60, .inl y1, .inr (.inr (1, 87))], 119, pm_RF, M)) rfl ?_
      refine R_ic ho rfl (tgt := 423) rfl ?_
      refine R_ne ?_ ?_
      · refine R_st ho 3 (q' := (429, [(0, .inr (.inr (1, 87))), (1, .inl y1)], [], 119, pm_RF, (pm_ms M 87 17 300))) rfl ?_
        refine R_nm fun M828 => ?_
        refine R_st ho 6 (q' := (439, [(0, .inr (.inr (1, 87))), (1, .inl y1)], [], 119, pm_RF, (pm_ms M828 87 14 (i_ad (M828 87 14) 1)))) rfl ?_
        refine R_nm fun M829 => ?_
        exact R_end (v := none) rfl rfl rfl rfl
      · refine R_st ho 2 (q' := (429, [(0, .inr (.inr (1, 87))), (1, .inl y1)], [], 119, pm_RF, (pm_ms M 87 17 301))) rfl ?_
        refine R_nm fun M830 => ?_
        refine R_st ho 6 (q' := (439, [(0, .inr (.inr (1, 87))), (1, .inl y1)], [], 119, pm_RF, (pm_ms M830 87 14 (i_ad (M830 87 14) 1)))) rfl ?_
        refine R_nm fun M831 => ?_
        exact R_end (v := none) rfl rfl rfl rfl
    · exact R_end (v := none) rfl rfl rfl rfl
theorem ok_Q_next_L232 (G : pm_G)    : ∀ (n_ : Nat) (M : pm_M), pm_R G mt_Q_next 3 (232, [(0, .inr (.inr (1, 87)))], [], 119, pm_RF, M) (f_Q_next_L232 n_ M) (fun e_ q_ => q_ = (439, [], [], 119, pm_RF, e_)) := by
  have ho : pm_oG G mt_Q_next := (oa_Q_next).g G
  intro n_
  induction n_ with
  | zero => intro _; exact R_none
  | succ n_ ih_ =>
    intro M
    rw [f_Q_next_L232]
    refine R_st ho 4 (q' := (240, [(0, .inr (.inr (1, 87)))], [.inl (M 87 13), .inl (M 87 14)], 119, pm_RF, M)) rfl ?_
    refine R_ic ho rfl (tgt := 439) rfl ?_
    refine R_ge ?_ ?_
    · refine R_pk [] rfl ?_
      exact R_ret rfl
    · refine R_st ho 4 (q' := (251, [(0, .inr (.inr (1, 87)))], [.inl (M 87 14), .inr (.inr (22, 90))], 119, pm_RF, M)) rfl ?_
      refine R_bald ho (by decide) rfl rfl ?_
      refine R_st ho 2 (q' := (256, [(0, .inr (.inr (1, 87)))], [.inl 57, .inl 48, .inl (M 90 ((M 87 14)).toNat)], 119, pm_RF, M)) rfl ?_
      refine R_callS ho ms_Q_in lk_1_118 rfl (As := [.inl (M 90 ((M 87 14)).toNat), .inl 48, .inl 57]) (st := []) rfl (Nat.le_of_ble_eq_true rfl) rfl (by decide) (Nat.le_of_ble_eq_true rfl) (ok_Q_in G (M 90 ((M 87 14)).toNat) 48 57 M ) (fun r838 => ?_)
      show pm_R _ _ _ (259, [(0, .inr (.inr (1, 87)))], [.inl r838], 119, pm_RF, M) _ _
      refine R_if ho rfl (tgt := 439) rfl ?_
      refine R_eq ?_ ?_
      · refine R_pk [] rfl ?_
        exact R_ret rfl
      · refine R_st ho 4 (q' := (269, [(0, .inr (.inr (1, 87)))], [.inl 99999, .inl (M 87 17), .inr (.inr (1, 87))], 119, pm_RF, M)) rfl ?_
        refine R_ic ho rfl (tgt := 279) rfl ?_
        refine R_le ?_ ?_
        · refine R_st ho 8 (q' := (294, [(0, .inr (.inr (1, 87)))], [.inl (M 87 14), .inr (.inr (22, 90)), .inl (i_ml 10 (M 87 17)), .inr (.inr (1, 87))], 119, pm_RF, M)) rfl ?_
          refine R_bald ho (by decide) rfl rfl ?_
          refine R_st ho 4 (q' := (302, [(0, .inr (.inr (1, 87)))], [], 119, pm_RF, (pm_ms M 87 17 (i_sb (i_ad (i_ml 10 (M 87 17)) (M 90 ((M 87 14)).toNat)) 48)))) rfl ?_
          refine R_nm fun M839 => ?_
          refine R_st ho 6 (q' := (312, [(0, .inr (.inr (1, 87)))], [], 119, pm_RF, (pm_ms M839 87 14 (i_ad (M839 87 14) 1)))) rfl ?_
          refine R_nm fun M840 => ?_
          refine R_st ho 1 (q' := (232, [(0, .inr (.inr (1, 87)))], [], 119, pm_RF, M840)) rfl ?_
          exact ih_ M840
        · refine R_st ho 4 (q' := (302, [(0, .inr (.inr (1, 87)))], [], 119, pm_RF, (pm_ms M 87 17 (M 87 17)))) rfl ?_
          refine R_nm fun M841 => ?_
          refine R_st ho 6 (q' := (312, [(0, .inr (.inr (1, 87)))], [], 119, pm_RF, (pm_ms M841 87 14 (i_ad (M841 87 14) 1)))) rfl ?_
          refine R_nm fun M842 => ?_
          refine R_st ho 1 (q' := (232, [(0, .inr (.inr (1, 87)))], [], 119, pm_RF, M842)) rfl ?_
          exact ih_ M842
theorem ok_Q_next_L99 (G : pm_G)    : ∀ (n_ : Nat) (y2 : Int) (y4 : Int) (M : pm_M), pm_R G mt_Q_next 3 (99, [(0, .inr (.inr (1, 87))), (2, .inr (.inl y2)), (4, .inl y4)], [], 119, pm_RF, M) (f_Q_next_L99 n_ y2 y4 M) (fun e_ q_ => q_ = (173, [(0, .inr (.inr (1, 87))), (2, .inr (.inl e_.1)), (4, .inl e_.2.1)], [], 119, pm_RF, e_.2.2)) := by
  have ho : pm_oG G mt_Q_next := (oa_Q_next).g G
  intro n_
  induction n_ with
  | zero => intro _ _ _; exact R_none
  | succ n_ ih_ =>
    intro y2 y4 M
    rw [f_Q_next_L99]
    refine R_st ho 4 (q' := (107, [(0, .inr (.inr (1, 87))), (2, .inr (.inl y2)), (4, .inl y4)], [.inl (M 87 13), .inl (M 87 14)], 119, pm_RF, M)) rfl ?_
    refine R_ic ho rfl (tgt := 173) rfl ?_
    refine R_ge ?_ ?_
    · exact R_ret rfl
    · refine R_st ho 4 (q' := (118, [(0, .inr (.inr (1, 87))), (2, .inr (.inl y2)), (4, .inl y4)], [.inl (M 87 14), .inr (.inr (22, 90))], 119, pm_RF, M)) rfl ?_
      refine R_bald ho (by decide) rfl rfl ?_
      refine R_callS ho ms_Q_isLetter lk_1_214 rfl (As := [.inl (M 90 ((M 87 14)).toNat)]) (st := []) rfl (Nat.le_of_ble_eq_true rfl) rfl (by decide) (Nat.le_of_ble_eq_true rfl) (ok_Q_isLetter G (M 90 ((M 87 14)).toNat) M ) (fun r844 => ?_)
      show pm_R _ _ _ (122, [(0, .inr (.inr (1, 87))), (2, .inr (.inl y2)), (4, .inl y4)], [.inl r844], 119, pm_RF, M) _ _
      refine R_if ho rfl (tgt := 173) rfl ?_
      refine R_eq ?_ ?_
      · exact R_ret rfl
      · refine R_st ho 2 (q' := (129, [(0, .inr (.inr (1, 87))), (2, .inr (.inl y2)), (4, .inl y4)], [.inl 8, .inl y4], 119, pm_RF, M)) rfl ?_
        refine R_ic ho rfl (tgt := 155) rfl ?_
        refine R_ge ?_ ?_
        · refine R_st ho 9 (q' := (170, [(4, .inl (i_ad y4 1)), (2, .inr (.inl y2)), (0, .inr (.inr (1, 87)))], [], 119, pm_RF, (pm_ms M 87 14 (i_ad (M 87 14) 1)))) rfl ?_
          refine R_nm fun M845 => ?_
          refine R_st ho 1 (q' := (99, [(4, .inl (i_ad y4 1)), (2, .inr (.inl y2)), (0, .inr (.inr (1, 87)))], [], 119, pm_RF, M845)) rfl ?_
          refine R_pk [0, 2, 4] rfl ?_
          exact ih_ y2 (i_ad y4 1) M845
        · refine R_st ho 7 (q' := (145, [(0, .inr (.inr (1, 87))), (2, .inr (.inl y2)), (4, .inl y4)], [.inl (M 87 14), .inr (.inr (22, 90)), .inr (.inl (l_ml 64 y2))], 119, pm_RF, M)) rfl ?_
          refine R_bald ho (by decide) rfl rfl ?_
          refine R_st ho 13 (q' := (170, [(4, .inl (i_ad y4 1)), (2, .inr (.inl (l_sb (l_ad (l_ml 64 y2) (M 90 ((M 87 14)).toNat)) 64))), (0, .inr (.inr (1, 87)))], [], 119, pm_RF, (pm_ms M 87 14 (i_ad (M 87 14) 1)))) rfl ?_
          refine R_nm fun M846 => ?_
          refine R_st ho 1 (q' := (99, [(4, .inl (i_ad y4 1)), (2, .inr (.inl (l_sb (l_ad (l_ml 64 y2) (M 90 ((M 87 14)).toNat)) 64))), (0, .inr (.inr (1, 87)))], [], 119, pm_RF, M846)) rfl ?_
          refine R_pk [0, 2, 4] rfl ?_
          exact ih_ (l_sb (l_ad (l_ml 64 y2) (M 90 ((M 87 14)).toNat)) 64) (i_ad y4 1) M846
theorem ok_Q_next_J173 (G : pm_G)     (y2 : Int) (y4 : Int) (M : pm_M) : pm_R G mt_Q_next 3 (173, [(0, .inr (.inr (1, 87))), (2, .inr (.inl y2)), (4, .inl y4)], [], 119, pm_RF, M) (f_Q_next_J173 y2 y4 M) (pm_Zr mt_Q_next pm_gV) := by
  have ho : pm_oG G mt_Q_next := (oa_Q_next).g G
  unfold f_Q_next_J173
  refine R_st ho 3 (q' := (178, [(0, .inr (.inr (1, 87))), (2, .inr (.inl y2)), (4, .inl y4)], [.inl 7, .inl y4, .inr (.inr (1, 87))], 119, pm_RF, M)) rfl ?_
  refine R_ic ho rfl (tgt := 185) rfl ?_
  refine R_le ?_ ?_
  · refine R_st ho 1 (q' := (186, [(0, .inr (.inr (1, 87))), (2, .inr (.inl y2)), (4, .inl y4)], [.inr (.inl y2), .inr (.inr (1, 87))], 119, pm_RF, M)) rfl ?_
    refine R_callS ho ms_Q_wordOf lk_1_219 rfl (As := [.inr (.inl y2)]) (st := [.inr (.inr (1, 87))]) rfl (Nat.le_of_ble_eq_true rfl) rfl (by decide) (Nat.le_of_ble_eq_true rfl) (ok_Q_wordOf G y2 M ) (fun r848 => ?_)
    show pm_R _ _ _ (189, [(0, .inr (.inr (1, 87))), (2, .inr (.inl y2)), (4, .inl y4)], [.inl r848, .inr (.inr (1, 87))], 119, pm_RF, M) _ _
    refine R_st ho 1 (q' := (192, [(0, .inr (.inr (1, 87))), (2, .inr (.inl y2)), (4, .inl y4)], [], 119, pm_RF, (pm_ms M 87 17 r848))) rfl ?_
    refine R_nm fun M849 => ?_
    refine R_st ho 3 (q' := (197, [(0, .inr (.inr (1, 87))), (2, .inr (.inl y2)), (4, .inl y4)], [.inl (M849 87 17), .inr (.inr (1, 87))], 119, pm_RF, M849)) rfl ?_
    refine R_if ho rfl (tgt := 204) rfl ?_
    refine R_ge ?_ ?_
    · refine R_st ho 2 (q' := (208, [(0, .inr (.inr (1, 87))), (2, .inr (.inl y2)), (4, .inl y4)], [], 119, pm_RF, (pm_ms M849 87 16 1))) rfl ?_
      refine R_nm fun M850 => ?_
      refine R_st ho 1 (q' := (439, [(0, .inr (.inr (1, 87))), (2, .inr (.inl y2)), (4, .inl y4)], [], 119, pm_RF, M850)) rfl ?_
      exact R_end (v := none) rfl rfl rfl rfl
    · refine R_st ho 3 (q' := (208, [(0, .inr (.inr (1, 87))), (2, .inr (.inl y2)), (4, .inl y4)], [], 119, pm_RF, (pm_ms M849 87 16 4))) rfl ?_
      refine R_nm fun M851 => ?_
      refine R_st ho 1 (q' := (439, [(0, .inr (.inr (1, 87))), (2, .inr (.inl y2)), (4, .inl y4)], [], 119, pm_RF, M851)) rfl ?_
      exact R_end (v := none) rfl rfl rfl rfl
  · refine R_st ho 3 (q' := (192, [(0, .inr (.inr (1, 87))), (2, .inr (.inl y2)), (4, .inl y4)], [], 119, pm_RF, (pm_ms M 87 17 (-1)))) rfl ?_
    refine R_nm fun M852 => ?_
    refine R_st ho 3 (q' := (197, [(0, .inr (.inr (1, 87))), (2, .inr (.inl y2)), (4, .inl y4)], [.inl (M852 87 17), .inr (.inr (1, 87))], 119, pm_RF, M852)) rfl ?_
    refine R_if ho rfl (tgt := 204) rfl ?_
    refine R_ge ?_ ?_
    · refine R_st ho 2 (q' := (208, [(0, .inr (.inr (1, 87))), (2, .inr (.inl y2)), (4, .inl y4)], [], 119, pm_RF, (pm_ms M852 87 16 1))) rfl ?_
      refine R_nm fun M853 => ?_
      refine R_st ho 1 (q' := (439, [(0, .inr (.inr (1, 87))), (2, .inr (.inl y2)), (4, .inl y4)], [], 119, pm_RF, M853)) rfl ?_
      exact R_end (v := none) rfl rfl rfl rfl
    · refine R_st ho 3 (q' := (208, [(0, .inr (.inr (1, 87))), (2, .inr (.inl y2)), (4, .inl y4)], [], 119, pm_RF, (pm_ms M852 87 16 4))) rfl ?_
      refine R_nm fun M854 => ?_
      refine R_st ho 1 (q' := (439, [(0, .inr (.inr (1, 87))), (2, .inr (.inl y2)), (4, .inl y4)], [], 119, pm_RF, M854)) rfl ?_
      exact R_end (v := none) rfl rfl rfl rfl
theorem ok_Q_next_J52 (G : pm_G)     (M : pm_M) : pm_R G mt_Q_next 3 (52, [(0, .inr (.inr (1, 87)))], [], 119, pm_RF, M) (f_Q_next_J52 M) (pm_Zr mt_Q_next pm_gV) := by
  have ho : pm_oG G mt_Q_next := (oa_Q_next).g G
  unfold f_Q_next_J52
  refine R_st ho 4 (q' := (60, [(0, .inr (.inr (1, 87)))], [], 119, pm_RF, (pm_ms M 87 15 (M 87 14)))) rfl ?_
  refine R_nm fun M816 => ?_
  refine R_st ho 4 (q' := (68, [(0, .inr (.inr (1, 87)))], [.inl (M816 87 13), .inl (M816 87 14)], 119, pm_RF, M816)) rfl ?_
  refine R_ic ho rfl (tgt := 77) rfl ?_
  refine R_ne ?_ ?_
  · refine R_st ho 3 (q' := (76, [(0, .inr (.inr (1, 87)))], [], 119, pm_RF, (pm_ms M816 87 16 0))) rfl ?_
    refine R_nm fun M817 => ?_
    exact R_end (v := none) rfl rfl rfl rfl
  · refine R_st ho 4 (q' := (85, [(0, .inr (.inr (1, 87)))], [.inl (M816 87 14), .inr (.inr (22, 90))], 119, pm_RF, M816)) rfl ?_
    refine R_bald ho (by decide) rfl rfl ?_
    refine R_st ho 1 (q' := (87, [(1, .inl (M816 90 ((M816 87 14)).toNat)), (0, .inr (.inr (1, 87)))], [], 119, pm_RF, M816)) rfl ?_
    refine R_nx (fun z_ => (87, [(1, .inl z_), (0, .inr (.inr (1, 87)))], [], 119, pm_RF, M816)) fun v818 => ?_
    refine R_st ho 1 (q' := (88, [(1, .inl v818), (0, .inr (.inr (1, 87)))], [.inl v818], 119, pm_RF, M816)) rfl ?_
    refine R_callS ho ms_Q_isLetter lk_1_214 rfl (As := [.inl v818]) (st := []) rfl (Nat.le_of_ble_eq_true rfl) rfl (by decide) (Nat.le_of_ble_eq_true rfl) (ok_Q_isLetter G v818 M816 ) (fun r821 => ?_)
    show pm_R _ _ _ (91, [(1, .inl v818), (0, .inr (.inr (1, 87)))], [.inl r821], 119, pm_RF, M816) _ _
    refine R_if ho rfl (tgt := 211) rfl ?_
    refine R_eq ?_ ?_
    · refine R_st ho 3 (q' := (216, [(1, .inl v818), (0, .inr (.inr (1, 87)))], [.inl 57, .inl 48, .inl v818], 119, pm_RF, M816)) rfl ?_
      refine R_callS ho ms_Q_in lk_1_118 rfl (As := [.inl v818, .inl 48, .inl 57]) (st := []) rfl (Nat.le_of_ble_eq_true rfl) rfl (by decide) (Nat.le_of_ble_eq_true rfl) (ok_Q_in G v818 48 57 M816 ) (fun r822 => ?_)
      show pm_R _ _ _ (219, [(1, .inl v818), (0, .inr (.inr (1, 87)))], [.inl r822], 119, pm_RF, M816) _ _
      refine R_if ho rfl (tgt := 315) rfl ?_
      refine R_eq ?_ ?_
      · refine R_st ho 6 (q' := (325, [(1, .inl v818), (0, .inr (.inr (1, 87)))], [], 119, pm_RF, (pm_ms M816 87 14 (i_ad (M816 87 14) 1)))) rfl ?_
        refine R_nm fun M823 => ?_
        refine R_st ho 3 (q' := (330, [(1, .inl v818), (0, .inr (.inr (1, 87)))], [], 119, pm_RF, (pm_ms M823 87 17 v818))) rfl ?_
        refine R_nm fun M824 => ?_
        refine R_st ho 4 (q' := (336, [(1, .inl v818), (0, .inr (.inr (1, 87)))], [.inl 62, .inl 59, .inl v818, .inr (.inr (1, 87))], 119, pm_RF, M824)) rfl ?_
        refine R_callS ho ms_Q_in lk_1_118 rfl (As := [.inl v818, .inl 59, .inl 62]) (st := [.inr (.inr (1, 87))]) rfl (Nat.le_of_ble_eq_true rfl) rfl (by decide) (Nat.le_of_ble_eq_true rfl) (ok_Q_in G v818 59 62 M824 ) (fun r825 => ?_)
        show pm_R _ _ _ (339, [(1, .inl v818), (0, .inr (.inr (1, 87)))], [.inl r825, .inr (.inr (1, 87))], 119, pm_RF, M824) _ _
        refine R_if ho rfl (tgt := 365) rfl ?_
        refine R_ne ?_ ?_
        · refine R_st ho 3 (q' := (347, [(1, .inl v818), (0, .inr (.inr (1, 87)))], [.inl 45, .inl 40, .inl v818, .inr (.inr (1, 87))], 119, pm_RF, M824)) rfl ?_
          refine R_callS ho ms_Q_in lk_1_118 rfl (As := [.inl v818, .inl 40, .inl 45]) (st := [.inr (.inr (1, 87))]) rfl (Nat.le_of_ble_eq_true rfl) rfl (by decide) (Nat.le_of_ble_eq_true rfl) (ok_Q_in G v818 40 45 M824 ) (fun r826 => ?_)
          show pm_R _ _ _ (350, [(1, .inl v818), (0, .inr (.inr (1, 87)))], [.inl r826, .inr (.inr (1, 87))], 119, pm_RF, M824) _ _
          refine R_if ho rfl (tgt := 365) rfl ?_
          refine R_ne ?_ ?_
          · refine R_st ho 2 (q' := (356, [(1, .inl v818), (0, .inr (.inr (1, 87)))], [.inl 47, .inl v818, .inr (.inr (1, 87))], 119, pm_RF, M824)) rfl ?_
            refine R_ic ho rfl (tgt := 365) rfl ?_
            refine R_eq ?_ ?_
            · refine R_st ho 3 (q' := (373, [(1, .inl v818), (0, .inr (.inr (1, 87)))], [], 119, pm_RF, (pm_ms M824 87 16 3))) rfl ?_
              refine R_nm fun M827 => ?_
              refine R_st ho 2 (q' := (376, [(1, .inl v818), (0, .inr (.inr (1, 87)))], [.inl 60, .inl v818], 119, pm_RF, M827)) rfl ?_
              refine R_ic ho rfl (tgt := 385) rfl ?_
              refine R_eq ?_ ?_
              · refine R_pk [0, 1] rfl ?_
                exact ok_Q_next_J385 G v818 M827
              · refine R_st ho 2 (q' := (382, [(1, .inl v818), (0, .inr (.inr (1, 87)))], [.inl 62, .inl v818], 119, pm_RF, M827)) rfl ?_
                refine R_ic ho rfl (tgt := 439) rfl ?_
                refine R_ne ?_ ?_
                · refine R_pk [0, 1] rfl ?_
                  exact ok_Q_next_J385 G v818 M827
                · exact R_end (v := none) rfl rfl rfl rfl
            · refine R_st ho 2 (q' := (362, [(1, .inl v818), (0, .inr (.inr (1, 87)))], [.inl 35, .inl v818, .inr (.inr (1, 87))], 119, pm_RF, M824)) rfl ?_
              refine R_ic ho rfl (tgt := 369) rfl ?_
              refine R_ne ?_ ?_
              · refine R_st ho 3 (q' := (373, [(1, .inl v818), (0, .inr (.inr (1, 87)))], [], 119, pm_RF, (pm_ms M824 87 16 3))) rfl ?_
                refine R_nm fun M832 => ?_
                refine R_st ho 2 (q' := (376, [(1, .inl v818), (0, .inr (.inr (1, 87)))], [.inl 60, .inl v818], 119, pm_RF, M832)) rfl ?_
                refine R_ic ho rfl (tgt := 385) rfl ?_
                refine R_eq ?_ ?_
                · refine R_pk [0, 1] rfl ?_
                  exact ok_Q_next_J385 G v818 M832
                · refine R_st ho 2 (q' := (382, [(1, .inl v818), (0, .inr (.inr (1, 87)))], [.inl 62, .inl v818], 119, pm_RF, M832)) rfl ?_
                  refine R_ic ho rfl (tgt := 439) rfl ?_
                  refine R_ne ?_ ?_
                  · refine R_pk [0, 1] rfl ?_
                    exact ok_Q_next_J385 G v818 M832
                  · exact R_end (v := none) rfl rfl rfl rfl
              · refine R_st ho 2 (q' := (373, [(1, .inl v818), (0, .inr (.inr (1, 87)))], [], 119, pm_RF, (pm_ms M824 87 16 4))) rfl ?_
                refine R_nm fun M833 => ?_
                refine R_st ho 2 (q' := (376, [(1, .inl v818), (0, .inr (.inr (1, 87)))], [.inl 60, .inl v818], 119, pm_RF, M833)) rfl ?_
                refine R_ic ho rfl (tgt := 385) rfl ?_
                refine R_eq ?_ ?_
                · refine R_pk [0, 1] rfl ?_
                  exact ok_Q_next_J385 G v818 M833
                · refine R_st ho 2 (q' := (382, [(1, .inl v818), (0, .inr (.inr (1, 87)))], [.inl 62, .inl v818], 119, pm_RF, M833)) rfl ?_
                  refine R_ic ho rfl (tgt := 439) rfl ?_
                  refine R_ne ?_ ?_
                  · refine R_pk [0, 1] rfl ?_
                    exact ok_Q_next_J385 G v818 M833
                  · exact R_end (v := none) rfl rfl rfl rfl
          · refine R_st ho 3 (q' := (373, [(1, .inl v818), (0, .inr (.inr (1, 87)))], [], 119, pm_RF, (pm_ms M824 87 16 3))) rfl ?_
            refine R_nm fun M834 => ?_
            refine R_st ho 2 (q' := (376, [(1, .inl v818), (0, .inr (.inr (1, 87)))], [.inl 60, .inl v818], 119, pm_RF, M834)) rfl ?_
            refine R_ic ho rfl (tgt := 385) rfl ?_
            refine R_eq ?_ ?_
            · refine R_pk [0, 1] rfl ?_
              exact ok_Q_next_J385 G v818 M834
            · refine R_st ho 2 (q' := (382, [(1, .inl v818), (0, .inr (.inr (1, 87)))], [.inl 62, .inl v818], 119, pm_RF, M834)) rfl ?_
              refine R_ic ho rfl (tgt := 439) rfl ?_
              refine R_ne ?_ ?_
              · refine R_pk [0, 1] rfl ?_
                exact ok_Q_next_J385 G v818 M834
              · exact R_end (v := none) rfl rfl rfl rfl
        · refine R_st ho 3 (q' := (373, [(1, .inl v818), (0, .inr (.inr (1, 87)))], [], 119, pm_RF, (pm_ms M824 87 16 3))) rfl ?_
          refine R_nm fun M835 => ?_
          refine R_st ho 2 (q' := (376, [(1, .inl v818), (0, .inr (.inr (1, 87)))], [.inl 60, .inl v818], 119, pm_RF, M835)) rfl ?_
          refine R_ic ho rfl (tgt := 385) rfl ?_
          refine R_eq ?_ ?_
          · refine R_pk [0, 1] rfl ?_
            exact ok_Q_next_J385 G v818 M835
          · refine R_st ho 2 (q' := (382, [(1, .inl v818), (0, .inr (.inr (1, 87)))], [.inl 62, .inl v818], 119, pm_RF, M835)) rfl ?_
            refine R_ic ho rfl (tgt := 439) rfl ?_
            refine R_ne ?_ ?_
            · refine R_pk [0, 1] rfl ?_
              exact ok_Q_next_J385 G v818 M835
            · exact R_end (v := none) rfl rfl rfl rfl
      · refine R_st ho 3 (q' := (227, [(1, .inl v818), (0, .inr (.inr (1, 87)))], [], 119, pm_RF, (pm_ms M816 87 16 2))) rfl ?_
        refine R_nm fun M836 => ?_
        refine R_st ho 3 (q' := (232, [(1, .inl v818), (0, .inr (.inr (1, 87)))], [], 119, pm_RF, (pm_ms M836 87 17 0))) rfl ?_
        refine R_nm fun M837 => ?_
        refine R_pk [0] rfl ?_
        refine R_bind (ok_Q_next_L232 G pm_F M837) ?_
        intro e843 q_ hq_
        obtain rfl : q_ = (439, [], [], 119, pm_RF, e843) := hq_
        exact R_end (v := none) rfl rfl rfl rfl
    · refine R_st ho 4 (q' := (99, [(4, .inl 0), (2, .inr (.inl 0)), (1, .inl v818), (0, .inr (.inr (1, 87)))], [], 119, pm_RF, M816)) rfl ?_
      refine R_pk [0, 2, 4] rfl ?_
      refine R_bind (ok_Q_next_L99 G pm_F 0 0 M816) ?_
      intro e847 q_ hq_
      obtain rfl : q_ = (173, [(0, .inr (.inr (1, 87))), (2, .inr (.inl e847.1)), (4, .inl e847.2.1)], [], 119, pm_RF, e847.2.2) := hq_
      exact ok_Q_next_J173 G e847.1 e847.2.1 e847.2.2
theorem ok_Q_next (G : pm_G)  (M : pm_M)  : pm_R G mt_Q_next 3 (0, [(0, .inr (.inr (1, 87)))], [], 119, pm_RF, M) (f_Q_next M) (pm_Zr mt_Q_next pm_gV) := by
  have ho : pm_oG G mt_Q_next := (oa_Q_next).g G
  unfold f_Q_next
  refine R_bind (ok_Q_next_L0 G pm_F M) ?_
  intro e815 q_ hq_
  obtain rfl : q_ = (52, [(0, .inr (.inr (1, 87)))], [], 119, pm_RF, e815) := hq_
  exact ok_Q_next_J52 G e815
theorem ok_Q_isWord (G : pm_G) (x1 : Int) (M : pm_M)  : pm_R G mt_Q_isWord 1 (0, [(0, .inr (.inr (1, 87))), (1, .inl x1)], [], 119, pm_RF, M) (f_Q_isWord x1 M) (pm_Zr mt_Q_isWord (pm_gi M)) := by
  have ho : pm_oG G mt_Q_isWord := (oa_Q_isWord).g G
  unfold f_Q_isWord
  refine R_st ho 3 (q' := (5, [(0, .inr (.inr (1, 87))), (1, .inl x1)], [.inl 1, .inl (M 87 16)], 119, pm_RF, M)) rfl ?_
  refine R_ic ho rfl (tgt := 20) rfl ?_
  refine R_ne ?_ ?_
  · refine R_st ho 3 (q' := (13, [(0, .inr (.inr (1, 87))), (1, .inl x1)], [.inl x1, .inl (M 87 17)], 119, pm_RF, M)) rfl ?_
    refine R_ic ho rfl (tgt := 20) rfl ?_
    refine R_ne ?_ ?_
    · refine R_st ho 2 (q' := (21, [(0, .inr (.inr (1, 87))), (1, .inl x1)], [.inl 1], 119, pm_RF, M)) rfl ?_
      exact R_end (v := some (.inl 1)) rfl (Or.inr ⟨rfl, Or.inr rfl⟩) rfl rfl
    · refine R_st ho 1 (q' := (21, [(0, .inr (.inr (1, 87))), (1, .inl x1)], [.inl 0], 119, pm_RF, M)) rfl ?_
      exact R_end (v := some (.inl 0)) rfl (Or.inr ⟨rfl, Or.inl rfl⟩) rfl rfl
  · refine R_st ho 1 (q' := (21, [(0, .inr (.inr (1, 87))), (1, .inl x1)], [.inl 0], 119, pm_RF, M)) rfl ?_
    exact R_end (v := some (.inl 0)) rfl (Or.inr ⟨rfl, Or.inl rfl⟩) rfl rfl
theorem ok_Q_opensFrame (G : pm_G) (x1 : Int) (M : pm_M)  : pm_R G mt_Q_opensFrame 1 (0, [(0, .inr (.inr (1, 87))), (1, .inl x1)], [], 119, pm_RF, M) (f_Q_opensFrame x1 M) (pm_Zr mt_Q_opensFrame pm_gV) := by
  have ho : pm_oG G mt_Q_opensFrame := (oa_Q_opensFrame).g G
  unfold f_Q_opensFrame
  refine R_st ho 5 (q' := (9, [(0, .inr (.inr (1, 87))), (1, .inl x1)], [.inl x1, .inl (M 87 21), .inr (.inr (20, 98))], 119, pm_RF, M)) rfl ?_
  refine R_iast ho rfl rfl ?_
  refine R_nm fun M857 => ?_
  refine R_st ho 6 (q' := (20, [(0, .inr (.inr (1, 87))), (1, .inl x1)], [], 119, pm_RF, (pm_ms M857 87 21 (i_ad (M857 87 21) 1)))) rfl ?_
  refine R_nm fun M858 => ?_
  exact R_end (v := none) rfl rfl rfl rfl
theorem ok_Q_errs (G : pm_G) (x1 : Int) (M : pm_M)  : pm_R G mt_Q_errs 1 (0, [(0, .inr (.inr (1, 87))), (1, .inl x1)], [], 119, pm_RF, M) (f_Q_errs x1 M) (pm_Zr mt_Q_errs pm_gV) := by
  have ho : pm_oG G mt_Q_errs := (oa_Q_errs).g G
  unfold f_Q_errs
  refine R_st ho 2 (q' := (4, [(0, .inr (.inr (1, 87))), (1, .inl x1)], [.inl (M 87 18)], 119, pm_RF, M)) rfl ?_
  refine R_if ho rfl (tgt := 20) rfl ?_
  refine R_ne ?_ ?_
  · refine R_st ho 3 (q' := (12, [(0, .inr (.inr (1, 87))), (1, .inl x1)], [], 119, pm_RF, (pm_ms M 87 18 x1))) rfl ?_
    refine R_nm fun M861 => ?_
    refine R_st ho 4 (q' := (20, [(0, .inr (.inr (1, 87))), (1, .inl x1)], [], 119, pm_RF, (pm_ms M861 87 19 (M861 87 15)))) rfl ?_
    refine R_nm fun M862 => ?_
    exact R_end (v := none) rfl rfl rfl rfl
  · exact R_end (v := none) rfl rfl rfl rfl
theorem ok_Q_opensSign (G : pm_G) (x1 : Int) (M : pm_M)  : pm_R G mt_Q_opensSign 4 (0, [(0, .inr (.inr (1, 87))), (1, .inl x1)], [], 119, pm_RF, M) (f_Q_opensSign x1 M) (pm_Zr mt_Q_opensSign pm_gI) := by
  have ho : pm_oG G mt_Q_opensSign := (oa_Q_opensSign).g G
  unfold f_Q_opensSign
  refine R_st ho 3 (q' := (6, [(0, .inr (.inr (1, 87))), (1, .inl x1)], [.inl 8, .inl (M 87 20)], 119, pm_RF, M)) rfl ?_
  refine R_ic ho rfl (tgt := 16) rfl ?_
  refine R_ne ?_ ?_
  · refine R_st ho 2 (q' := (11, [(0, .inr (.inr (1, 87))), (1, .inl x1)], [.inl 3, .inr (.inr (1, 87))], 119, pm_RF, M)) rfl ?_
    refine R_callV ho mv_Q_errs lk_1_242 rfl (As := [.inl 3]) (kd := 1) (a := 87) (st := []) rfl rfl (Nat.le_of_ble_eq_true rfl) rfl (by decide) (Nat.le_of_ble_eq_true rfl) (ok_Q_errs G 3 M ) (fun M863 => ?_)
    show pm_R _ _ _ (14, [(0, .inr (.inr (1, 87))), (1, .inl x1)], [], 119, pm_RF, M863) _ _
    refine R_st ho 1 (q' := (15, [(0, .inr (.inr (1, 87))), (1, .inl x1)], [.inl 0], 119, pm_RF, M863)) rfl ?_
    exact R_end (v := some (.inl 0)) rfl (Or.inr ⟨rfl, Or.inl rfl⟩) rfl rfl
  · refine R_st ho 6 (q' := (26, [(0, .inr (.inr (1, 87))), (1, .inl x1)], [], 119, pm_RF, (pm_ms M 87 20 (i_ad (M 87 20) 1)))) rfl ?_
    refine R_nm fun M864 => ?_
    refine R_st ho 2 (q' := (28, [(0, .inr (.inr (1, 87))), (1, .inl x1)], [.inl x1, .inr (.inr (1, 87))], 119, pm_RF, M864)) rfl ?_
    refine R_callV ho mv_Q_opensFrame lk_1_245 rfl (As := [.inl x1]) (kd := 1) (a := 87) (st := []) rfl rfl (Nat.le_of_ble_eq_true rfl) rfl (by decide) (Nat.le_of_ble_eq_true rfl) (ok_Q_opensFrame G x1 M864 ) (fun M865 => ?_)
    show pm_R _ _ _ (31, [(0, .inr (.inr (1, 87))), (1, .inl x1)], [], 119, pm_RF, M865) _ _
    refine R_st ho 1 (q' := (32, [(0, .inr (.inr (1, 87))), (1, .inl x1)], [.inr (.inr (1, 87))], 119, pm_RF, M865)) rfl ?_
    refine R_callV ho mv_Q_next lk_1_248 rfl (As := []) (kd := 1) (a := 87) (st := []) rfl rfl (Nat.le_of_ble_eq_true rfl) rfl (by decide) (Nat.le_of_ble_eq_true rfl) (ok_Q_next G  M865 ) (fun M866 => ?_)
    show pm_R _ _ _ (35, [(0, .inr (.inr (1, 87))), (1, .inl x1)], [], 119, pm_RF, M866) _ _
    refine R_st ho 1 (q' := (36, [(0, .inr (.inr (1, 87))), (1, .inl x1)], [.inl 1], 119, pm_RF, M866)) rfl ?_
    exact R_end (v := some (.inl 1)) rfl (Or.inr ⟨rfl, Or.inr rfl⟩) rfl rfl
theorem ok_Q_asks (G : pm_G)  (M : pm_M)  : pm_R G mt_Q_asks 5 (0, [(0, .inr (.inr (1, 87)))], [], 119, pm_RF, M) (f_Q_asks M) (pm_Zr mt_Q_asks pm_gV) := by
  have ho : pm_oG G mt_Q_asks := (oa_Q_asks).g G
  unfold f_Q_asks
  refine R_st ho 2 (q' := (3, [(0, .inr (.inr (1, 87)))], [.inl 13, .inr (.inr (1, 87))], 119, pm_RF, M)) rfl ?_
  refine R_callV ho mv_Q_isWord lk_1_263 rfl (As := [.inl 13]) (kd := 1) (a := 87) (st := []) rfl rfl (Nat.le_of_ble_eq_true rfl) rfl (by decide) (Nat.le_of_ble_eq_true rfl) (ok_Q_isWord G 13 M ) (fun r856 => ?_)
  show pm_R _ _ _ (6, [(0, .inr (.inr (1, 87)))], [.inl r856], 119, pm_RF, M) _ _
  refine R_if ho rfl (tgt := 18) rfl ?_
  refine R_eq ?_ ?_
  · refine R_st ho 2 (q' := (20, [(0, .inr (.inr (1, 87)))], [.inl 4, .inr (.inr (1, 87))], 119, pm_RF, M)) rfl ?_
    refine R_callV ho mv_Q_opensFrame lk_1_245 rfl (As := [.inl 4]) (kd := 1) (a := 87) (st := []) rfl rfl (Nat.le_of_ble_eq_true rfl) rfl (by decide) (Nat.le_of_ble_eq_true rfl) (ok_Q_opensFrame G 4 M ) (fun M859 => ?_)
    show pm_R _ _ _ (23, [(0, .inr (.inr (1, 87)))], [], 119, pm_RF, M859) _ _
    refine R_st ho 3 (q' := (28, [(0, .inr (.inr (1, 87)))], [], 119, pm_RF, (pm_ms M859 87 27 1))) rfl ?_
    refine R_nm fun M860 => ?_
    exact R_end (v := none) rfl rfl rfl rfl
  · refine R_st ho 2 (q' := (11, [(0, .inr (.inr (1, 87)))], [.inl 3, .inr (.inr (1, 87))], 119, pm_RF, M)) rfl ?_
    refine R_callV ho mv_Q_opensSign lk_1_266 rfl (As := [.inl 3]) (kd := 1) (a := 87) (st := []) rfl rfl (Nat.le_of_ble_eq_true rfl) rfl (by decide) (Nat.le_of_ble_eq_true rfl) (ok_Q_opensSign G 3 M ) (fun r867 => ?_)
    show pm_R _ _ _ (14, [(0, .inr (.inr (1, 87)))], [.inl r867.1], 119, pm_RF, r867.2) _ _
    refine R_st ho 2 (q' := (28, [(1, .inl r867.1), (0, .inr (.inr (1, 87)))], [], 119, pm_RF, r867.2)) rfl ?_
    exact R_end (v := none) rfl rfl rfl rfl
theorem ok_Q_emits (G : pm_G) (x1 : Int) (x2 : Int) (M : pm_M)  : pm_R G mt_Q_emits 1 (0, [(0, .inr (.inr (1, 87))), (1, .inl x1), (2, .inl x2)], [], 119, pm_RF, M) (f_Q_emits x1 x2 M) (pm_Zr mt_Q_emits pm_gV) := by
  have ho : pm_oG G mt_Q_emits := (oa_Q_emits).g G
  unfold f_Q_emits
  refine R_st ho 5 (q' := (9, [(0, .inr (.inr (1, 87))), (1, .inl x1), (2, .inl x2)], [.inl x1, .inl (M 87 34), .inr (.inr (20, 106))], 119, pm_RF, M)) rfl ?_
  refine R_iast ho rfl rfl ?_
  refine R_nm fun M869 => ?_
  refine R_st ho 5 (q' := (19, [(0, .inr (.inr (1, 87))), (1, .inl x1), (2, .inl x2)], [.inl x2, .inl (M869 87 34), .inr (.inr (20, 107))], 119, pm_RF, M869)) rfl ?_
  refine R_iast ho rfl rfl ?_
  refine R_nm fun M870 => ?_
  refine R_st ho 6 (q' := (30, [(0, .inr (.inr (1, 87))), (1, .inl x1), (2, .inl x2)], [], 119, pm_RF, (pm_ms M870 87 34 (i_ad (M870 87 34) 1)))) rfl ?_
  refine R_nm fun M871 => ?_
  exact R_end (v := none) rfl rfl rfl rfl
theorem ok_Q_top (G : pm_G)  (M : pm_M)  : pm_R G mt_Q_top 1 (0, [(0, .inr (.inr (1, 87)))], [], 119, pm_RF, M) (f_Q_top M) (pm_Zr mt_Q_top (pm_gi M)) := by
  have ho : pm_oG G mt_Q_top := (oa_Q_top).g G
  unfold f_Q_top
  refine R_st ho 6 (q' := (10, [(0, .inr (.inr (1, 87)))], [.inl (i_sb (M 87 21) 1), .inr (.inr (20, 98))], 119, pm_RF, M)) rfl ?_
  refine R_iald ho rfl rfl ?_
  exact R_end (v := some (.inl (M 98 ((i_sb (M 87 21) 1)).toNat))) rfl (Or.inl rfl) rfl rfl
theorem ok_Q_oneIsOver_L0 (G : pm_G)    : ∀ (n_ : Nat) (M : pm_M), pm_R G mt_Q_oneIsOver 2 (0, [(0, .inr (.inr (1, 87)))], [], 119, pm_RF, M) (f_Q_oneIsOver_L0 n_ M) (fun e_ q_ => q_ = (40, [(0, .inr (.inr (1, 87)))], [], 119, pm_RF, e_)) := by
  have ho : pm_oG G mt_Q_oneIsOver := (oa_Q_oneIsOver).g G
  intro n_
  induction n_ with
  | zero => intro _; exact R_none
  | succ n_ ih_ =>
    intro M
    rw [f_Q_oneIsOver_L0]
    refine R_st ho 1 (q' := (1, [(0, .inr (.inr (1, 87)))], [.inr (.inr (1, 87))], 119, pm_RF, M)) rfl ?_
    refine R_callV ho mv_Q_top lk_1_281 rfl (As := []) (kd := 1) (a := 87) (st := []) rfl rfl (Nat.le_of_ble_eq_true rfl) rfl (by decide) (Nat.le_of_ble_eq_true rfl) (ok_Q_top G  M ) (fun r874 => ?_)
    show pm_R _ _ _ (4, [(0, .inr (.inr (1, 87)))], [.inl r874], 119, pm_RF, M) _ _
    refine R_st ho 1 (q' := (6, [(0, .inr (.inr (1, 87)))], [.inl 7, .inl r874], 119, pm_RF, M)) rfl ?_
    refine R_ic ho rfl (tgt := 40) rfl ?_
    refine R_ne ?_ ?_
    · refine R_st ho 6 (q' := (19, [(0, .inr (.inr (1, 87)))], [], 119, pm_RF, (pm_ms M 87 21 (i_sb (M 87 21) 1)))) rfl ?_
      refine R_nm fun M875 => ?_
      refine R_st ho 6 (q' := (29, [(0, .inr (.inr (1, 87)))], [], 119, pm_RF, (pm_ms M875 87 20 (i_sb (M875 87 20) 1)))) rfl ?_
      refine R_nm fun M876 => ?_
      refine R_st ho 3 (q' := (34, [(0, .inr (.inr (1, 87)))], [.inl 0, .inl 402, .inr (.inr (1, 87))], 119, pm_RF, M876)) rfl ?_
      refine R_callV ho mv_Q_emits lk_1_257 rfl (As := [.inl 402, .inl 0]) (kd := 1) (a := 87) (st := []) rfl rfl (Nat.le_of_ble_eq_true rfl) rfl (by decide) (Nat.le_of_ble_eq_true rfl) (ok_Q_emits G 402 0 M876 ) (fun M877 => ?_)
      show pm_R _ _ _ (37, [(0, .inr (.inr (1, 87)))], [], 119, pm_RF, M877) _ _
      refine R_st ho 1 (q' := (0, [(0, .inr (.inr (1, 87)))], [], 119, pm_RF, M877)) rfl ?_
      exact ih_ M877
    · exact R_ret rfl
theorem ok_Q_oneIsOver (G : pm_G)  (M : pm_M)  : pm_R G mt_Q_oneIsOver 2 (0, [(0, .inr (.inr (1, 87)))], [], 119, pm_RF, M) (f_Q_oneIsOver M) (pm_Zr mt_Q_oneIsOver pm_gV) := by
  have ho : pm_oG G mt_Q_oneIsOver := (oa_Q_oneIsOver).g G
  unfold f_Q_oneIsOver
  refine R_bind (ok_Q_oneIsOver_L0 G pm_F M) ?_
  intro e878 q_ hq_
  obtain rfl : q_ = (40, [(0, .inr (.inr (1, 87)))], [], 119, pm_RF, e878) := hq_
  refine R_st ho 3 (q' := (45, [(0, .inr (.inr (1, 87)))], [], 119, pm_RF, (pm_ms e878 87 27 2))) rfl ?_
  refine R_nm fun M879 => ?_
  exact R_end (v := none) rfl rfl rfl rfl
theorem ok_Q_isSign (G : pm_G) (x1 : Int) (M : pm_M)  : pm_R G mt_Q_isSign 1 (0, [(0, .inr (.inr (1, 87))), (1, .inl x1)], [], 119, pm_RF, M) (f_Q_isSign x1 M) (pm_Zr mt_Q_isSign (pm_gi M)) := by
  have ho : pm_oG G mt_Q_isSign := (oa_Q_isSign).g G
  unfold f_Q_isSign
  refine R_st ho 3 (q' := (5, [(0, .inr (.inr (1, 87))), (1, .inl x1)], [.inl 3, .inl (M 87 16)], 119, pm_RF, M)) rfl ?_
  refine R_ic ho rfl (tgt := 20) rfl ?_
  refine R_ne ?_ ?_
  · refine R_st ho 3 (q' := (13, [(0, .inr (.inr (1, 87))), (1, .inl x1)], [.inl x1, .inl (M 87 17)], 119, pm_RF, M)) rfl ?_
    refine R_ic ho rfl (tgt := 20) rfl ?_
    refine R_ne ?_ ?_
    · refine R_st ho 2 (q' := (21, [(0, .inr (.inr (1, 87))), (1, .inl x1)], [.inl 1], 119, pm_RF, M)) rfl ?_
      exact R_end (v := some (.inl 1)) rfl (Or.inr ⟨rfl, Or.inr rfl⟩) rfl rfl
    · refine R_st ho 1 (q' := (21, [(0, .inr (.inr (1, 87))), (1, .inl x1)], [.inl 0], 119, pm_RF, M)) rfl ?_
      exact R_end (v := some (.inl 0)) rfl (Or.inr ⟨rfl, Or.inl rfl⟩) rfl rfl
  · refine R_st ho 1 (q' := (21, [(0, .inr (.inr (1, 87))), (1, .inl x1)], [.inl 0], 119, pm_RF, M)) rfl ?_
    exact R_end (v := some (.inl 0)) rfl (Or.inr ⟨rfl, Or.inl rfl⟩) rfl rfl
theorem ok_Q_begins (G : pm_G)  (M : pm_M)  : pm_R G mt_Q_begins 5 (0, [(0, .inr (.inr (1, 87)))], [], 119, pm_RF, M) (f_Q_begins M) (pm_Zr mt_Q_begins pm_gV) := by
  have ho : pm_oG G mt_Q_begins := (oa_Q_begins).g G
  unfold f_Q_begins
  refine R_st ho 3 (q' := (5, [(0, .inr (.inr (1, 87)))], [.inl 2, .inl (M 87 16)], 119, pm_RF, M)) rfl ?_
  refine R_ic ho rfl (tgt := 46) rfl ?_
  refine R_ne ?_ ?_
  · refine R_st ho 3 (q' := (15, [(0, .inr (.inr (1, 87)))], [.inl 9999, .inl (M 87 17)], 119, pm_RF, M)) rfl ?_
    refine R_ic ho rfl (tgt := 24) rfl ?_
    refine R_le ?_ ?_
    · refine R_st ho 4 (q' := (32, [(0, .inr (.inr (1, 87)))], [.inl (M 87 17), .inl 400, .inr (.inr (1, 87))], 119, pm_RF, M)) rfl ?_
      refine R_callV ho mv_Q_emits lk_1_257 rfl (As := [.inl 400, .inl (M 87 17)]) (kd := 1) (a := 87) (st := []) rfl rfl (Nat.le_of_ble_eq_true rfl) rfl (by decide) (Nat.le_of_ble_eq_true rfl) (ok_Q_emits G 400 (M 87 17) M ) (fun M872 => ?_)
      show pm_R _ _ _ (35, [(0, .inr (.inr (1, 87)))], [], 119, pm_RF, M872) _ _
      refine R_st ho 1 (q' := (36, [(0, .inr (.inr (1, 87)))], [.inr (.inr (1, 87))], 119, pm_RF, M872)) rfl ?_
      refine R_callV ho mv_Q_next lk_1_248 rfl (As := []) (kd := 1) (a := 87) (st := []) rfl rfl (Nat.le_of_ble_eq_true rfl) rfl (by decide) (Nat.le_of_ble_eq_true rfl) (ok_Q_next G  M872 ) (fun M873 => ?_)
      show pm_R _ _ _ (39, [(0, .inr (.inr (1, 87)))], [], 119, pm_RF, M873) _ _
      refine R_st ho 1 (q' := (40, [(0, .inr (.inr (1, 87)))], [.inr (.inr (1, 87))], 119, pm_RF, M873)) rfl ?_
      refine R_callV ho mv_Q_oneIsOver lk_1_272 rfl (As := []) (kd := 1) (a := 87) (st := []) rfl rfl (Nat.le_of_ble_eq_true rfl) rfl (by decide) (Nat.le_of_ble_eq_true rfl) (ok_Q_oneIsOver G  M873 ) (fun M880 => ?_)
      show pm_R _ _ _ (43, [(0, .inr (.inr (1, 87)))], [], 119, pm_RF, M880) _ _
      refine R_st ho 1 (q' := (164, [(0, .inr (.inr (1, 87)))], [], 119, pm_RF, M880)) rfl ?_
      exact R_end (v := none) rfl rfl rfl rfl
    · refine R_st ho 2 (q' := (20, [(0, .inr (.inr (1, 87)))], [.inl 2, .inr (.inr (1, 87))], 119, pm_RF, M)) rfl ?_
      refine R_callV ho mv_Q_errs lk_1_242 rfl (As := [.inl 2]) (kd := 1) (a := 87) (st := []) rfl rfl (Nat.le_of_ble_eq_true rfl) rfl (by decide) (Nat.le_of_ble_eq_true rfl) (ok_Q_errs G 2 M ) (fun M881 => ?_)
      show pm_R _ _ _ (23, [(0, .inr (.inr (1, 87)))], [], 119, pm_RF, M881) _ _
      exact R_end (v := none) rfl rfl rfl rfl
  · refine R_st ho 3 (q' := (51, [(0, .inr (.inr (1, 87)))], [.inl 1, .inl (M 87 16)], 119, pm_RF, M)) rfl ?_
    refine R_ic ho rfl (tgt := 121) rfl ?_
    refine R_ne ?_ ?_
    · refine R_st ho 3 (q' := (60, [(0, .inr (.inr (1, 87)))], [.inl 13, .inl (M 87 17)], 119, pm_RF, M)) rfl ?_
      refine R_ic ho rfl (tgt := 121) rfl ?_
      refine R_le ?_ ?_
      · refine R_st ho 2 (q' := (124, [(0, .inr (.inr (1, 87)))], [.inl 40, .inr (.inr (1, 87))], 119, pm_RF, M)) rfl ?_
        refine R_callV ho mv_Q_isSign lk_1_278 rfl (As := [.inl 40]) (kd := 1) (a := 87) (st := []) rfl rfl (Nat.le_of_ble_eq_true rfl) rfl (by decide) (Nat.le_of_ble_eq_true rfl) (ok_Q_isSign G 40 M ) (fun r882 => ?_)
        show pm_R _ _ _ (127, [(0, .inr (.inr (1, 87)))], [.inl r882], 119, pm_RF, M) _ _
        refine R_if ho rfl (tgt := 140) rfl ?_
        refine R_eq ?_ ?_
        · refine R_st ho 2 (q' := (143, [(0, .inr (.inr (1, 87)))], [.inl 45, .inr (.inr (1, 87))], 119, pm_RF, M)) rfl ?_
          refine R_callV ho mv_Q_isSign lk_1_278 rfl (As := [.inl 45]) (kd := 1) (a := 87) (st := []) rfl rfl (Nat.le_of_ble_eq_true rfl) rfl (by decide) (Nat.le_of_ble_eq_true rfl) (ok_Q_isSign G 45 M ) (fun r883 => ?_)
          show pm_R _ _ _ (146, [(0, .inr (.inr (1, 87)))], [.inl r883], 119, pm_RF, M) _ _
          refine R_if ho rfl (tgt := 159) rfl ?_
          refine R_eq ?_ ?_
          · refine R_st ho 2 (q' := (161, [(0, .inr (.inr (1, 87)))], [.inl 1, .inr (.inr (1, 87))], 119, pm_RF, M)) rfl ?_
            refine R_callV ho mv_Q_errs lk_1_242 rfl (As := [.inl 1]) (kd := 1) (a := 87) (st := []) rfl rfl (Nat.le_of_ble_eq_true rfl) rfl (by decide) (Nat.le_of_ble_eq_true rfl) (ok_Q_errs G 1 M ) (fun M884 => ?_)
            show pm_R _ _ _ (164, [(0, .inr (.inr (1, 87)))], [], 119, pm_RF, M884) _ _
            exact R_end (v := none) rfl rfl rfl rfl
          · refine R_st ho 2 (q' := (152, [(0, .inr (.inr (1, 87)))], [.inl 7, .inr (.inr (1, 87))], 119, pm_RF, M)) rfl ?_
            refine R_callV ho mv_Q_opensSign lk_1_266 rfl (As := [.inl 7]) (kd := 1) (a := 87) (st := []) rfl rfl (Nat.le_of_ble_eq_true rfl) rfl (by decide) (Nat.le_of_ble_eq_true rfl) (ok_Q_opensSign G 7 M ) (fun r885 => ?_)
            show pm_R _ _ _ (155, [(0, .inr (.inr (1, 87)))], [.inl r885.1], 119, pm_RF, r885.2) _ _
            refine R_st ho 2 (q' := (164, [(1, .inl r885.1), (0, .inr (.inr (1, 87)))], [], 119, pm_RF, r885.2)) rfl ?_
            exact R_end (v := none) rfl rfl rfl rfl
        · refine R_st ho 2 (q' := (133, [(0, .inr (.inr (1, 87)))], [.inl 6, .inr (.inr (1, 87))], 119, pm_RF, M)) rfl ?_
          refine R_callV ho mv_Q_opensSign lk_1_266 rfl (As := [.inl 6]) (kd := 1) (a := 87) (st := []) rfl rfl (Nat.le_of_ble_eq_true rfl) rfl (by decide) (Nat.le_of_ble_eq_true rfl) (ok_Q_opensSign G 6 M ) (fun r886 => ?_)
          show pm_R _ _ _ (136, [(0, .inr (.inr (1, 87)))], [.inl r886.1], 119, pm_RF, r886.2) _ _
          refine R_st ho 2 (q' := (164, [(1, .inl r886.1), (0, .inr (.inr (1, 87)))], [], 119, pm_RF, r886.2)) rfl ?_
          exact R_end (v := none) rfl rfl rfl rfl
      · refine R_st ho 7 (q' := (73, [(1, .inl (i_sb (i_sb (M 87 17) 13) 1)), (0, .inr (.inr (1, 87)))], [], 119, pm_RF, M)) rfl ?_
        refine R_nx (fun z_ => (73, [(1, .inl z_), (0, .inr (.inr (1, 87)))], [], 119, pm_RF, M)) fun v887 => ?_
        refine R_st ho 3 (q' := (78, [(1, .inl v887), (0, .inr (.inr (1, 87)))], [.inl 3, .inl (M 87 29)], 119, pm_RF, M)) rfl ?_
        refine R_ic ho rfl (tgt := 86) rfl ?_
        refine R_ne ?_ ?_
        · refine R_st ho 6 (q' := (93, [(1, .inl v887), (0, .inr (.inr (1, 87)))], [.inl (i_an (i_sr 31 v887) 1)], 119, pm_RF, M)) rfl ?_
          refine R_if ho rfl (tgt := 102) rfl ?_
          refine R_ne ?_ ?_
          · refine R_st ho 2 (q' := (98, [(1, .inl v887), (0, .inr (.inr (1, 87)))], [.inl 5, .inr (.inr (1, 87))], 119, pm_RF, M)) rfl ?_
            refine R_callV ho mv_Q_errs lk_1_242 rfl (As := [.inl 5]) (kd := 1) (a := 87) (st := []) rfl rfl (Nat.le_of_ble_eq_true rfl) rfl (by decide) (Nat.le_of_ble_eq_true rfl) (ok_Q_errs G 5 M ) (fun M888 => ?_)
            show pm_R _ _ _ (101, [(1, .inl v887), (0, .inr (.inr (1, 87)))], [], 119, pm_RF, M888) _ _
            exact R_end (v := none) rfl rfl rfl rfl
          · refine R_st ho 3 (q' := (107, [(1, .inl v887), (0, .inr (.inr (1, 87)))], [.inl v887, .inl 401, .inr (.inr (1, 87))], 119, pm_RF, M)) rfl ?_
            refine R_callV ho mv_Q_emits lk_1_257 rfl (As := [.inl 401, .inl v887]) (kd := 1) (a := 87) (st := []) rfl rfl (Nat.le_of_ble_eq_true rfl) rfl (by decide) (Nat.le_of_ble_eq_true rfl) (ok_Q_emits G 401 v887 M ) (fun M889 => ?_)
            show pm_R _ _ _ (110, [(1, .inl v887), (0, .inr (.inr (1, 87)))], [], 119, pm_RF, M889) _ _
            refine R_st ho 1 (q' := (111, [(1, .inl v887), (0, .inr (.inr (1, 87)))], [.inr (.inr (1, 87))], 119, pm_RF, M889)) rfl ?_
            refine R_callV ho mv_Q_next lk_1_248 rfl (As := []) (kd := 1) (a := 87) (st := []) rfl rfl (Nat.le_of_ble_eq_true rfl) rfl (by decide) (Nat.le_of_ble_eq_true rfl) (ok_Q_next G  M889 ) (fun M890 => ?_)
            show pm_R _ _ _ (114, [(1, .inl v887), (0, .inr (.inr (1, 87)))], [], 119, pm_RF, M890) _ _
            refine R_st ho 1 (q' := (115, [(1, .inl v887), (0, .inr (.inr (1, 87)))], [.inr (.inr (1, 87))], 119, pm_RF, M890)) rfl ?_
            refine R_callV ho mv_Q_oneIsOver lk_1_272 rfl (As := []) (kd := 1) (a := 87) (st := []) rfl rfl (Nat.le_of_ble_eq_true rfl) rfl (by decide) (Nat.le_of_ble_eq_true rfl) (ok_Q_oneIsOver G  M890 ) (fun M891 => ?_)
            show pm_R _ _ _ (118, [(1, .inl v887), (0, .inr (.inr (1, 87)))], [], 119, pm_RF, M891) _ _
            refine R_st ho 1 (q' := (164, [(1, .inl v887), (0, .inr (.inr (1, 87)))], [], 119, pm_RF, M891)) rfl ?_
            exact R_end (v := none) rfl rfl rfl rfl
        · refine R_st ho 5 (q' := (93, [(1, .inl v887), (0, .inr (.inr (1, 87)))], [.inl (i_an (i_sr 1007 v887) 1)], 119, pm_RF, M)) rfl ?_
          refine R_if ho rfl (tgt := 102) rfl ?_
          refine R_ne ?_ ?_
          · refine R_st ho 2 (q' := (98, [(1, .inl v887), (0, .inr (.inr (1, 87)))], [.inl 5, .inr (.inr (1, 87))], 119, pm_RF, M)) rfl ?_
            refine R_callV ho mv_Q_errs lk_1_242 rfl (As := [.inl 5]) (kd := 1) (a := 87) (st := []) rfl rfl (Nat.le_of_ble_eq_true rfl) rfl (by decide) (Nat.le_of_ble_eq_true rfl) (ok_Q_errs G 5 M ) (fun M892 => ?_)
            show pm_R _ _ _ (101, [(1, .inl v887), (0, .inr (.inr (1, 87)))], [], 119, pm_RF, M892) _ _
            exact R_end (v := none) rfl rfl rfl rfl
          · refine R_st ho 3 (q' := (107, [(1, .inl v887), (0, .inr (.inr (1, 87)))], [.inl v887, .inl 401, .inr (.inr (1, 87))], 119, pm_RF, M)) rfl ?_
            refine R_callV ho mv_Q_emits lk_1_257 rfl (As := [.inl 401, .inl v887]) (kd := 1) (a := 87) (st := []) rfl rfl (Nat.le_of_ble_eq_true rfl) rfl (by decide) (Nat.le_of_ble_eq_true rfl) (ok_Q_emits G 401 v887 M ) (fun M893 => ?_)
            show pm_R _ _ _ (110, [(1, .inl v887), (0, .inr (.inr (1, 87)))], [], 119, pm_RF, M893) _ _
            refine R_st ho 1 (q' := (111, [(1, .inl v887), (0, .inr (.inr (1, 87)))], [.inr (.inr (1, 87))], 119, pm_RF, M893)) rfl ?_
            refine R_callV ho mv_Q_next lk_1_248 rfl (As := []) (kd := 1) (a := 87) (st := []) rfl rfl (Nat.le_of_ble_eq_true rfl) rfl (by decide) (Nat.le_of_ble_eq_true rfl) (ok_Q_next G  M893 ) (fun M894 => ?_)
            show pm_R _ _ _ (114, [(1, .inl v887), (0, .inr (.inr (1, 87)))], [], 119, pm_RF, M894) _ _
            refine R_st ho 1 (q' := (115, [(1, .inl v887), (0, .inr (.inr (1, 87)))], [.inr (.inr (1, 87))], 119, pm_RF, M894)) rfl ?_
            refine R_callV ho mv_Q_oneIsOver lk_1_272 rfl (As := []) (kd := 1) (a := 87) (st := []) rfl rfl (Nat.le_of_ble_eq_true rfl) rfl (by decide) (Nat.le_of_ble_eq_true rfl) (ok_Q_oneIsOver G  M894 ) (fun M895 => ?_)
            show pm_R _ _ _ (118, [(1, .inl v887), (0, .inr (.inr (1, 87)))], [], 119, pm_RF, M895) _ _
            refine R_st ho 1 (q' := (164, [(1, .inl v887), (0, .inr (.inr (1, 87)))], [], 119, pm_RF, M895)) rfl ?_
            exact R_end (v := none) rfl rfl rfl rfl
    · refine R_st ho 2 (q' := (124, [(0, .inr (.inr (1, 87)))], [.inl 40, .inr (.inr (1, 87))], 119, pm_RF, M)) rfl ?_
      refine R_callV ho mv_Q_isSign lk_1_278 rfl (As := [.inl 40]) (kd := 1) (a := 87) (st := []) rfl rfl (Nat.le_of_ble_eq_true rfl) rfl (by decide) (Nat.le_of_ble_eq_true rfl) (ok_Q_isSign G 40 M ) (fun r896 => ?_)
      show pm_R _ _ _ (127, [(0, .inr (.inr (1, 87)))], [.inl r896], 119, pm_RF, M) _ _
      refine R_if ho rfl (tgt := 140) rfl ?_
      refine R_eq ?_ ?_
      · refine R_st ho 2 (q' := (143, [(0, .inr (.inr (1, 87)))], [.inl 45, .inr (.inr (1, 87))], 119, pm_RF, M)) rfl ?_
        refine R_callV ho mv_Q_isSign lk_1_278 rfl (As := [.inl 45]) (kd := 1) (a := 87) (st := []) rfl rfl (Nat.le_of_ble_eq_true rfl) rfl (by decide) (Nat.le_of_ble_eq_true rfl) (ok_Q_isSign G 45 M ) (fun r897 => ?_)
        show pm_R _ _ _ (146, [(0, .inr (.inr (1, 87)))], [.inl r897], 119, pm_RF, M) _ _
        refine R_if ho rfl (tgt := 159) rfl ?_
        refine R_eq ?_ ?_
        · refine R_st ho 2 (q' := (161, [(0, .inr (.inr (1, 87)))], [.inl 1, .inr (.inr (1, 87))], 119, pm_RF, M)) rfl ?_
          refine R_callV ho mv_Q_errs lk_1_242 rfl (As := [.inl 1]) (kd := 1) (a := 87) (st := []) rfl rfl (Nat.le_of_ble_eq_true rfl) rfl (by decide) (Nat.le_of_ble_eq_true rfl) (ok_Q_errs G 1 M ) (fun M898 => ?_)
          show pm_R _ _ _ (164, [(0, .inr (.inr (1, 87)))], [], 119, pm_RF, M898) _ _
          exact R_end (v := none) rfl rfl rfl rfl
        · refine R_st ho 2 (q' := (152, [(0, .inr (.inr (1, 87)))], [.inl 7, .inr (.inr (1, 87))], 119, pm_RF, M)) rfl ?_
          refine R_callV ho mv_Q_opensSign lk_1_266 rfl (As := [.inl 7]) (kd := 1) (a := 87) (st := []) rfl rfl (Nat.le_of_ble_eq_true rfl) rfl (by decide) (Nat.le_of_ble_eq_true rfl) (ok_Q_opensSign G 7 M ) (fun r899 => ?_)
          show pm_R _ _ _ (155, [(0, .inr (.inr (1, 87)))], [.inl r899.1], 119, pm_RF, r899.2) _ _
          refine R_st ho 2 (q' := (164, [(1, .inl r899.1), (0, .inr (.inr (1, 87)))], [], 119, pm_RF, r899.2)) rfl ?_
          exact R_end (v := none) rfl rfl rfl rfl
      · refine R_st ho 2 (q' := (133, [(0, .inr (.inr (1, 87)))], [.inl 6, .inr (.inr (1, 87))], 119, pm_RF, M)) rfl ?_
        refine R_callV ho mv_Q_opensSign lk_1_266 rfl (As := [.inl 6]) (kd := 1) (a := 87) (st := []) rfl rfl (Nat.le_of_ble_eq_true rfl) rfl (by decide) (Nat.le_of_ble_eq_true rfl) (ok_Q_opensSign G 6 M ) (fun r900 => ?_)
        show pm_R _ _ _ (136, [(0, .inr (.inr (1, 87)))], [.inl r900.1], 119, pm_RF, r900.2) _ _
        refine R_st ho 2 (q' := (164, [(1, .inl r900.1), (0, .inr (.inr (1, 87)))], [], 119, pm_RF, r900.2)) rfl ?_
        exact R_end (v := none) rfl rfl rfl rfl
theorem ok_Q_rank (G : pm_G) (x0 : Int) (M : pm_M)  : pm_R G mt_Q_rank 1 (0, [(0, .inl x0)], [], 119, pm_RF, M) (f_Q_rank x0 M) (pm_Zr mt_Q_rank (pm_gi M)) := by
  have ho : pm_oG G mt_Q_rank := (oa_Q_rank).g G
  unfold f_Q_rank
  refine R_st ho 2 (q' := (4, [(0, .inl x0)], [.inl 407, .inl x0], 119, pm_RF, M)) rfl ?_
  refine R_ic ho rfl (tgt := 11) rfl ?_
  refine R_ne ?_ ?_
  · refine R_st ho 2 (q' := (39, [(0, .inl x0)], [.inl 1], 119, pm_RF, M)) rfl ?_
    exact R_end (v := some (.inl 1)) rfl (Or.inl rfl) rfl rfl
  · refine R_st ho 2 (q' := (15, [(0, .inl x0)], [.inl 406, .inl x0], 119, pm_RF, M)) rfl ?_
    refine R_ic ho rfl (tgt := 22) rfl ?_
    refine R_ne ?_ ?_
    · refine R_st ho 2 (q' := (39, [(0, .inl x0)], [.inl 2], 119, pm_RF, M)) rfl ?_
      exact R_end (v := some (.inl 2)) rfl (Or.inl rfl) rfl rfl
    · refine R_st ho 2 (q' := (25, [(0, .inl x0)], [.inl 43, .inl x0], 119, pm_RF, M)) rfl ?_
      refine R_ic ho rfl (tgt := 34) rfl ?_
      refine R_eq ?_ ?_
      · refine R_st ho 2 (q' := (39, [(0, .inl x0)], [.inl 3], 119, pm_RF, M)) rfl ?_
        exact R_end (v := some (.inl 3)) rfl (Or.inl rfl) rfl rfl
      · refine R_st ho 2 (q' := (31, [(0, .inl x0)], [.inl 45, .inl x0], 119, pm_RF, M)) rfl ?_
        refine R_ic ho rfl (tgt := 38) rfl ?_
        refine R_ne ?_ ?_
        · refine R_st ho 2 (q' := (39, [(0, .inl x0)], [.inl 3], 119, pm_RF, M)) rfl ?_
          exact R_end (v := some (.inl 3)) rfl (Or.inl rfl) rfl rfl
        · refine R_st ho 1 (q' := (39, [(0, .inl x0)], [.inl 4], 119, pm_RF, M)) rfl ?_
          exact R_end (v := some (.inl 4)) rfl (Or.inl rfl) rfl rfl
theorem ok_Q_works_L0 (G : pm_G)    : ∀ (n_ : Nat) (y1 : Int) (M : pm_M), pm_R G mt_Q_works 2 (0, [(0, .inr (.inr (1, 87))), (1, .inl y1)], [], 119, pm_RF, M) (f_Q_works_L0 n_ y1 M) (fun e_ q_ => q_ = (70, [], [], 119, pm_RF, e_)) := by
  have ho : pm_oG G mt_Q_works := (oa_Q_works).g G
  intro n_
  induction n_ with
  | zero => intro _ _; exact R_none
  | succ n_ ih_ =>
    intro y1 M
    rw [f_Q_works_L0]
    refine R_st ho 2 (q' := (4, [(0, .inr (.inr (1, 87))), (1, .inl y1)], [.inl (M 87 24)], 119, pm_RF, M)) rfl ?_
    refine R_if ho rfl (tgt := 70) rfl ?_
    refine R_le ?_ ?_
    · refine R_pk [] rfl ?_
      exact R_ret rfl
    · refine R_st ho 6 (q' := (17, [(0, .inr (.inr (1, 87))), (1, .inl y1)], [.inl (i_sb (M 87 24) 1), .inr (.inr (20, 101))], 119, pm_RF, M)) rfl ?_
      refine R_iald ho rfl rfl ?_
      refine R_st ho 2 (q' := (22, [(0, .inr (.inr (1, 87))), (1, .inl y1)], [.inl (M 87 21), .inl (M 101 ((i_sb (M 87 24) 1)).toNat)], 119, pm_RF, M)) rfl ?_
      refine R_ic ho rfl (tgt := 70) rfl ?_
      refine R_ne ?_ ?_
      · refine R_st ho 6 (q' := (35, [(0, .inr (.inr (1, 87))), (1, .inl y1)], [.inl (i_sb (M 87 24) 1), .inr (.inr (20, 100))], 119, pm_RF, M)) rfl ?_
        refine R_iald ho rfl rfl ?_
        refine R_callS ho ms_Q_rank lk_1_254 rfl (As := [.inl (M 100 ((i_sb (M 87 24) 1)).toNat)]) (st := []) rfl (Nat.le_of_ble_eq_true rfl) rfl (by decide) (Nat.le_of_ble_eq_true rfl) (ok_Q_rank G (M 100 ((i_sb (M 87 24) 1)).toNat) M ) (fun r904 => ?_)
        show pm_R _ _ _ (39, [(0, .inr (.inr (1, 87))), (1, .inl y1)], [.inl r904], 119, pm_RF, M) _ _
        refine R_st ho 1 (q' := (40, [(0, .inr (.inr (1, 87))), (1, .inl y1)], [.inl y1, .inl r904], 119, pm_RF, M)) rfl ?_
        refine R_ic ho rfl (tgt := 70) rfl ?_
        refine R_lt ?_ ?_
        · refine R_pk [] rfl ?_
          exact R_ret rfl
        · refine R_st ho 6 (q' := (53, [(0, .inr (.inr (1, 87))), (1, .inl y1)], [], 119, pm_RF, (pm_ms M 87 24 (i_sb (M 87 24) 1)))) rfl ?_
          refine R_nm fun M905 => ?_
          refine R_st ho 5 (q' := (62, [(0, .inr (.inr (1, 87))), (1, .inl y1)], [.inl (M905 87 24), .inr (.inr (20, 100)), .inr (.inr (1, 87))], 119, pm_RF, M905)) rfl ?_
          refine R_iald ho rfl rfl ?_
          refine R_st ho 1 (q' := (64, [(0, .inr (.inr (1, 87))), (1, .inl y1)], [.inl 0, .inl (M905 100 ((M905 87 24)).toNat), .inr (.inr (1, 87))], 119, pm_RF, M905)) rfl ?_
          refine R_callV ho mv_Q_emits lk_1_257 rfl (As := [.inl (M905 100 ((M905 87 24)).toNat), .inl 0]) (kd := 1) (a := 87) (st := []) rfl rfl (Nat.le_of_ble_eq_true rfl) rfl (by decide) (Nat.le_of_ble_eq_true rfl) (ok_Q_emits G (M905 100 ((M905 87 24)).toNat) 0 M905 ) (fun M906 => ?_)
          show pm_R _ _ _ (67, [(0, .inr (.inr (1, 87))), (1, .inl y1)], [], 119, pm_RF, M906) _ _
          refine R_st ho 1 (q' := (0, [(0, .inr (.inr (1, 87))), (1, .inl y1)], [], 119, pm_RF, M906)) rfl ?_
          exact ih_ y1 M906
      · refine R_pk [] rfl ?_
        exact R_ret rfl
theorem ok_Q_works (G : pm_G) (x1 : Int) (M : pm_M)  : pm_R G mt_Q_works 2 (0, [(0, .inr (.inr (1, 87))), (1, .inl x1)], [], 119, pm_RF, M) (f_Q_works x1 M) (pm_Zr mt_Q_works pm_gV) := by
  have ho : pm_oG G mt_Q_works := (oa_Q_works).g G
  unfold f_Q_works
  refine R_bind (ok_Q_works_L0 G pm_F x1 M) ?_
  intro e907 q_ hq_
  obtain rfl : q_ = (70, [], [], 119, pm_RF, e907) := hq_
  exact R_end (v := none) rfl rfl rfl rfl
theorem ok_Q_waitsFor (G : pm_G) (x1 : Int) (M : pm_M)  : pm_R G mt_Q_waitsFor 4 (0, [(0, .inr (.inr (1, 87))), (1, .inl x1)], [], 119, pm_RF, M) (f_Q_waitsFor x1 M) (pm_Zr mt_Q_waitsFor pm_gV) := by
  have ho : pm_oG G mt_Q_waitsFor := (oa_Q_waitsFor).g G
  unfold f_Q_waitsFor
  refine R_st ho 2 (q' := (2, [(0, .inr (.inr (1, 87))), (1, .inl x1)], [.inl x1, .inr (.inr (1, 87))], 119, pm_RF, M)) rfl ?_
  refine R_callS ho ms_Q_rank lk_1_254 rfl (As := [.inl x1]) (st := [.inr (.inr (1, 87))]) rfl (Nat.le_of_ble_eq_true rfl) rfl (by decide) (Nat.le_of_ble_eq_true rfl) (ok_Q_rank G x1 M ) (fun r903 => ?_)
  show pm_R _ _ _ (5, [(0, .inr (.inr (1, 87))), (1, .inl x1)], [.inl r903, .inr (.inr (1, 87))], 119, pm_RF, M) _ _
  refine R_callV ho mv_Q_works lk_1_260 rfl (As := [.inl r903]) (kd := 1) (a := 87) (st := []) rfl rfl (Nat.le_of_ble_eq_true rfl) rfl (by decide) (Nat.le_of_ble_eq_true rfl) (ok_Q_works G r903 M ) (fun M908 => ?_)
  show pm_R _ _ _ (8, [(0, .inr (.inr (1, 87))), (1, .inl x1)], [], 119, pm_RF, M908) _ _
  refine R_st ho 5 (q' := (17, [(0, .inr (.inr (1, 87))), (1, .inl x1)], [.inl x1, .inl (M908 87 24), .inr (.inr (20, 100))], 119, pm_RF, M908)) rfl ?_
  refine R_iast ho rfl rfl ?_
  refine R_nm fun M909 => ?_
  refine R_st ho 6 (q' := (30, [(0, .inr (.inr (1, 87))), (1, .inl x1)], [.inl (M909 87 21), .inl (M909 87 24), .inr (.inr (20, 101))], 119, pm_RF, M909)) rfl ?_
  refine R_iast ho rfl rfl ?_
  refine R_nm fun M910 => ?_
  refine R_st ho 6 (q' := (41, [(0, .inr (.inr (1, 87))), (1, .inl x1)], [], 119, pm_RF, (pm_ms M910 87 24 (i_ad (M910 87 24) 1)))) rfl ?_
  refine R_nm fun M911 => ?_
  refine R_st ho 1 (q' := (42, [(0, .inr (.inr (1, 87))), (1, .inl x1)], [.inr (.inr (1, 87))], 119, pm_RF, M911)) rfl ?_
  refine R_callV ho mv_Q_next lk_1_248 rfl (As := []) (kd := 1) (a := 87) (st := []) rfl rfl (Nat.le_of_ble_eq_true rfl) rfl (by decide) (Nat.le_of_ble_eq_true rfl) (ok_Q_next G  M911 ) (fun M912 => ?_)
  show pm_R _ _ _ (45, [(0, .inr (.inr (1, 87))), (1, .inl x1)], [], 119, pm_RF, M912) _ _
  exact R_end (v := none) rfl rfl rfl rfl
theorem ok_Q_isAsking (G : pm_G) (x0 : Int) (M : pm_M)  : pm_R G mt_Q_isAsking 1 (0, [(0, .inl x0)], [], 119, pm_RF, M) (f_Q_isAsking x0 M) (pm_Zr mt_Q_isAsking (pm_gi M)) := by
  have ho : pm_oG G mt_Q_isAsking := (oa_Q_isAsking).g G
  unfold f_Q_isAsking
  refine R_st ho 2 (q' := (3, [(0, .inl x0)], [.inl 60, .inl x0], 119, pm_RF, M)) rfl ?_
  refine R_ic ho rfl (tgt := 38) rfl ?_
  refine R_eq ?_ ?_
  · refine R_st ho 2 (q' := (43, [(0, .inl x0)], [.inl 1], 119, pm_RF, M)) rfl ?_
    exact R_end (v := some (.inl 1)) rfl (Or.inr ⟨rfl, Or.inr rfl⟩) rfl rfl
  · refine R_st ho 2 (q' := (9, [(0, .inl x0)], [.inl 62, .inl x0], 119, pm_RF, M)) rfl ?_
    refine R_ic ho rfl (tgt := 38) rfl ?_
    refine R_eq ?_ ?_
    · refine R_st ho 2 (q' := (43, [(0, .inl x0)], [.inl 1], 119, pm_RF, M)) rfl ?_
      exact R_end (v := some (.inl 1)) rfl (Or.inr ⟨rfl, Or.inr rfl⟩) rfl rfl
    · refine R_st ho 2 (q' := (15, [(0, .inl x0)], [.inl 61, .inl x0], 119, pm_RF, M)) rfl ?_
      refine R_ic ho rfl (tgt := 38) rfl ?_
      refine R_eq ?_ ?_
      · refine R_st ho 2 (q' := (43, [(0, .inl x0)], [.inl 1], 119, pm_RF, M)) rfl ?_
        exact R_end (v := some (.inl 1)) rfl (Or.inr ⟨rfl, Or.inr rfl⟩) rfl rfl
      · refine R_st ho 2 (q' := (21, [(0, .inl x0)], [.inl 35, .inl x0], 119, pm_RF, M)) rfl ?_
        refine R_ic ho rfl (tgt := 38) rfl ?_
        refine R_eq ?_ ?_
        · refine R_st ho 2 (q' := (43, [(0, .inl x0)], [.inl 1], 119, pm_RF, M)) rfl ?_
          exact R_end (v := some (.inl 1)) rfl (Or.inr ⟨rfl, Or.inr rfl⟩) rfl rfl
        · refine R_st ho 2 (q' := (28, [(0, .inl x0)], [.inl 300, .inl x0], 119, pm_RF, M)) rfl ?_
          refine R_ic ho rfl (tgt := 38) rfl ?_
          refine R_eq ?_ ?_
          · refine R_st ho 2 (q' := (43, [(0, .inl x0)], [.inl 1], 119, pm_RF, M)) rfl ?_
            exact R_end (v := some (.inl 1)) rfl (Or.inr ⟨rfl, Or.inr rfl⟩) rfl rfl
          · refine R_st ho 2 (q' := (35, [(0, .inl x0)], [.inl 301, .inl x0], 119, pm_RF, M)) rfl ?_
            refine R_ic ho rfl (tgt := 42) rfl ?_
            refine R_ne ?_ ?_
            · refine R_st ho 2 (q' := (43, [(0, .inl x0)], [.inl 1], 119, pm_RF, M)) rfl ?_
              exact R_end (v := some (.inl 1)) rfl (Or.inr ⟨rfl, Or.inr rfl⟩) rfl rfl
            · refine R_st ho 1 (q' := (43, [(0, .inl x0)], [.inl 0], 119, pm_RF, M)) rfl ?_
              exact R_end (v := some (.inl 0)) rfl (Or.inr ⟨rfl, Or.inl rfl⟩) rfl rfl
theorem ok_Q_askIsOver_L0 (G : pm_G)    : ∀ (n_ : Nat) (M : pm_M), pm_R G mt_Q_askIsOver 2 (0, [(0, .inr (.inr (1, 87)))], [], 119, pm_RF, M) (f_Q_askIsOver_L0 n_ M) (fun e_ q_ => q_ = (39, [(0, .inr (.inr (1, 87)))], [], 119, pm_RF, e_)) := by
  have ho : pm_oG G mt_Q_askIsOver := (oa_Q_askIsOver).g G
  intro n_
  induction n_ with
  | zero => intro _; exact R_none
  | succ n_ ih_ =>
    intro M
    rw [f_Q_askIsOver_L0]
    refine R_st ho 1 (q' := (1, [(0, .inr (.inr (1, 87)))], [.inr (.inr (1, 87))], 119, pm_RF, M)) rfl ?_
    refine R_callV ho mv_Q_top lk_1_281 rfl (As := []) (kd := 1) (a := 87) (st := []) rfl rfl (Nat.le_of_ble_eq_true rfl) rfl (by decide) (Nat.le_of_ble_eq_true rfl) (ok_Q_top G  M ) (fun r927 => ?_)
    show pm_R _ _ _ (4, [(0, .inr (.inr (1, 87)))], [.inl r927], 119, pm_RF, M) _ _
    refine R_st ho 1 (q' := (5, [(0, .inr (.inr (1, 87)))], [.inl 3, .inl r927], 119, pm_RF, M)) rfl ?_
    refine R_ic ho rfl (tgt := 39) rfl ?_
    refine R_ne ?_ ?_
    · refine R_st ho 6 (q' := (18, [(0, .inr (.inr (1, 87)))], [], 119, pm_RF, (pm_ms M 87 21 (i_sb (M 87 21) 1)))) rfl ?_
      refine R_nm fun M928 => ?_
      refine R_st ho 6 (q' := (28, [(0, .inr (.inr (1, 87)))], [], 119, pm_RF, (pm_ms M928 87 20 (i_sb (M928 87 20) 1)))) rfl ?_
      refine R_nm fun M929 => ?_
      refine R_st ho 3 (q' := (33, [(0, .inr (.inr (1, 87)))], [.inl 0, .inl 405, .inr (.inr (1, 87))], 119, pm_RF, M929)) rfl ?_
      refine R_callV ho mv_Q_emits lk_1_257 rfl (As := [.inl 405, .inl 0]) (kd := 1) (a := 87) (st := []) rfl rfl (Nat.le_of_ble_eq_true rfl) rfl (by decide) (Nat.le_of_ble_eq_true rfl) (ok_Q_emits G 405 0 M929 ) (fun M930 => ?_)
      show pm_R _ _ _ (36, [(0, .inr (.inr (1, 87)))], [], 119, pm_RF, M930) _ _
      refine R_st ho 1 (q' := (0, [(0, .inr (.inr (1, 87)))], [], 119, pm_RF, M930)) rfl ?_
      exact ih_ M930
    · exact R_ret rfl
theorem ok_Q_askIsOver (G : pm_G)  (M : pm_M)  : pm_R G mt_Q_askIsOver 2 (0, [(0, .inr (.inr (1, 87)))], [], 119, pm_RF, M) (f_Q_askIsOver M) (pm_Zr mt_Q_askIsOver pm_gV) := by
  have ho : pm_oG G mt_Q_askIsOver := (oa_Q_askIsOver).g G
  unfold f_Q_askIsOver
  refine R_bind (ok_Q_askIsOver_L0 G pm_F M) ?_
  intro e931 q_ hq_
  obtain rfl : q_ = (39, [(0, .inr (.inr (1, 87)))], [], 119, pm_RF, e931) := hq_
  refine R_st ho 3 (q' := (44, [(0, .inr (.inr (1, 87)))], [], 119, pm_RF, (pm_ms e931 87 27 3))) rfl ?_
  refine R_nm fun M932 => ?_
  exact R_end (v := none) rfl rfl rfl rfl
