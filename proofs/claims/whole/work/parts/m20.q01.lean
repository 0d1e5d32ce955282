/-! printed by my own program: functions of the pure memory, and that the code follows them -/
theorem ok_Q_clauseIsOver (G : pm_G)  (M : pm_M)  : pm_R G mt_Q_clauseIsOver 4 (0, [(0, .inr (.inr (1, 87)))], [], 119, pm_RF, M) (f_Q_clauseIsOver M) (pm_Zr mt_Q_clauseIsOver pm_gV) := by
  have ho : pm_oG G mt_Q_clauseIsOver := (oa_Q_clauseIsOver).g G
  unfold f_Q_clauseIsOver
  refine R_st ho 2 (q' := (2, [(0, .inr (.inr (1, 87)))], [.inl 1, .inr (.inr (1, 87))], 119, pm_RF, M)) rfl ?_
  refine R_callV ho mv_Q_works lk_1_260 rfl (As := [.inl 1]) (kd := 1) (a := 87) (st := []) rfl rfl (Nat.le_of_ble_eq_true rfl) rfl (by decide) (Nat.le_of_ble_eq_true rfl) (ok_Q_works G 1 M ) (fun M936 => ?_)
  show pm_R _ _ _ (5, [(0, .inr (.inr (1, 87)))], [], 119, pm_RF, M936) _ _
  refine R_st ho 3 (q' := (10, [(0, .inr (.inr (1, 87)))], [], 119, pm_RF, (pm_ms M936 87 21 0))) rfl ?_
  refine R_nm fun M937 => ?_
  refine R_st ho 3 (q' := (15, [(0, .inr (.inr (1, 87)))], [.inl 0, .inl 408, .inr (.inr (1, 87))], 119, pm_RF, M937)) rfl ?_
  refine R_callV ho mv_Q_emits lk_1_257 rfl (As := [.inl 408, .inl 0]) (kd := 1) (a := 87) (st := []) rfl rfl (Nat.le_of_ble_eq_true rfl) rfl (by decide) (Nat.le_of_ble_eq_true rfl) (ok_Q_emits G 408 0 M937 ) (fun M938 => ?_)
  show pm_R _ _ _ (18, [(0, .inr (.inr (1, 87)))], [], 119, pm_RF, M938) _ _
  refine R_st ho 6 (q' := (28, [(0, .inr (.inr (1, 87)))], [], 119, pm_RF, (pm_ms M938 87 28 (i_ad (M938 87 28) 1)))) rfl ?_
  refine R_nm fun M939 => ?_
  refine R_st ho 1 (q' := (29, [(0, .inr (.inr (1, 87)))], [.inr (.inr (1, 87))], 119, pm_RF, M939)) rfl ?_
  refine R_callV ho mv_Q_next lk_1_248 rfl (As := []) (kd := 1) (a := 87) (st := []) rfl rfl (Nat.le_of_ble_eq_true rfl) rfl (by decide) (Nat.le_of_ble_eq_true rfl) (ok_Q_next G  M939 ) (fun M940 => ?_)
  show pm_R _ _ _ (32, [(0, .inr (.inr (1, 87)))], [], 119, pm_RF, M940) _ _
  refine R_st ho 3 (q' := (37, [(0, .inr (.inr (1, 87)))], [], 119, pm_RF, (pm_ms M940 87 27 4))) rfl ?_
  refine R_nm fun M941 => ?_
  exact R_end (v := none) rfl rfl rfl rfl
theorem ok_Q_goesOn_J181 (G : pm_G)     (y1 : Int) (M : pm_M) : pm_R G mt_Q_goesOn 5 (181, [(0, .inr (.inr (1, 87))), (1, .inl y1)], [], 119, pm_RF, M) (f_Q_goesOn_J181 y1 M) (pm_Zr mt_Q_goesOn pm_gV) := by
  have ho : pm_oG G mt_Q_goesOn := (oa_Q_goesOn).g G
  unfold f_Q_goesOn_J181
  refine R_st ho 2 (q' := (183, [(0, .inr (.inr (1, 87))), (1, .inl y1)], [.inl 5, .inl y1], 119, pm_RF, M)) rfl ?_
  refine R_ic ho rfl (tgt := 224) rfl ?_
  refine R_ne ?_ ?_
  · refine R_st ho 2 (q' := (188, [(0, .inr (.inr (1, 87))), (1, .inl y1)], [.inl 3, .inr (.inr (1, 87))], 119, pm_RF, M)) rfl ?_
    refine R_callV ho mv_Q_works lk_1_260 rfl (As := [.inl 3]) (kd := 1) (a := 87) (st := []) rfl rfl (Nat.le_of_ble_eq_true rfl) rfl (by decide) (Nat.le_of_ble_eq_true rfl) (ok_Q_works G 3 M ) (fun M923 => ?_)
    show pm_R _ _ _ (191, [(0, .inr (.inr (1, 87))), (1, .inl y1)], [], 119, pm_RF, M923) _ _
    refine R_st ho 4 (q' := (199, [(0, .inr (.inr (1, 87))), (1, .inl y1)], [.inl (M923 87 21), .inr (.inr (20, 99))], 119, pm_RF, M923)) rfl ?_
    refine R_iald ho rfl rfl ?_
    refine R_st ho 1 (q' := (201, [(2, .inl (M923 99 ((M923 87 21)).toNat)), (0, .inr (.inr (1, 87))), (1, .inl y1)], [], 119, pm_RF, M923)) rfl ?_
    refine R_nx (fun z_ => (201, [(2, .inl z_), (0, .inr (.inr (1, 87))), (1, .inl y1)], [], 119, pm_RF, M923)) fun v924 => ?_
    refine R_st ho 6 (q' := (211, [(2, .inl v924), (0, .inr (.inr (1, 87))), (1, .inl y1)], [], 119, pm_RF, (pm_ms M923 87 21 (i_sb (M923 87 21) 1)))) rfl ?_
    refine R_nm fun M925 => ?_
    refine R_st ho 3 (q' := (214, [(2, .inl v924), (0, .inr (.inr (1, 87))), (1, .inl y1)], [.inl 0, .inl v924, .inr (.inr (1, 87))], 119, pm_RF, M925)) rfl ?_
    refine R_callV ho mv_Q_emits lk_1_257 rfl (As := [.inl v924, .inl 0]) (kd := 1) (a := 87) (st := []) rfl rfl (Nat.le_of_ble_eq_true rfl) rfl (by decide) (Nat.le_of_ble_eq_true rfl) (ok_Q_emits G v924 0 M925 ) (fun M926 => ?_)
    show pm_R _ _ _ (217, [(2, .inl v924), (0, .inr (.inr (1, 87))), (1, .inl y1)], [], 119, pm_RF, M926) _ _
    refine R_st ho 1 (q' := (218, [(2, .inl v924), (0, .inr (.inr (1, 87))), (1, .inl y1)], [.inr (.inr (1, 87))], 119, pm_RF, M926)) rfl ?_
    refine R_callV ho mv_Q_askIsOver lk_1_291 rfl (As := []) (kd := 1) (a := 87) (st := []) rfl rfl (Nat.le_of_ble_eq_true rfl) rfl (by decide) (Nat.le_of_ble_eq_true rfl) (ok_Q_askIsOver G  M926 ) (fun M933 => ?_)
    show pm_R _ _ _ (221, [(2, .inl v924), (0, .inr (.inr (1, 87))), (1, .inl y1)], [], 119, pm_RF, M933) _ _
    refine R_st ho 1 (q' := (250, [(2, .inl v924), (0, .inr (.inr (1, 87))), (1, .inl y1)], [], 119, pm_RF, M933)) rfl ?_
    exact R_end (v := none) rfl rfl rfl rfl
  · refine R_st ho 2 (q' := (226, [(0, .inr (.inr (1, 87))), (1, .inl y1)], [.inl 1, .inl y1], 119, pm_RF, M)) rfl ?_
    refine R_ic ho rfl (tgt := 245) rfl ?_
    refine R_ne ?_ ?_
    · refine R_st ho 2 (q' := (232, [(0, .inr (.inr (1, 87))), (1, .inl y1)], [.inl 59, .inr (.inr (1, 87))], 119, pm_RF, M)) rfl ?_
      refine R_callV ho mv_Q_isSign lk_1_278 rfl (As := [.inl 59]) (kd := 1) (a := 87) (st := []) rfl rfl (Nat.le_of_ble_eq_true rfl) rfl (by decide) (Nat.le_of_ble_eq_true rfl) (ok_Q_isSign G 59 M ) (fun r934 => ?_)
      show pm_R _ _ _ (235, [(0, .inr (.inr (1, 87))), (1, .inl y1)], [.inl r934], 119, pm_RF, M) _ _
      refine R_if ho rfl (tgt := 245) rfl ?_
      refine R_eq ?_ ?_
      · refine R_st ho 2 (q' := (247, [(0, .inr (.inr (1, 87))), (1, .inl y1)], [.inl 1, .inr (.inr (1, 87))], 119, pm_RF, M)) rfl ?_
        refine R_callV ho mv_Q_errs lk_1_242 rfl (As := [.inl 1]) (kd := 1) (a := 87) (st := []) rfl rfl (Nat.le_of_ble_eq_true rfl) rfl (by decide) (Nat.le_of_ble_eq_true rfl) (ok_Q_errs G 1 M ) (fun M935 => ?_)
        show pm_R _ _ _ (250, [(0, .inr (.inr (1, 87))), (1, .inl y1)], [], 119, pm_RF, M935) _ _
        exact R_end (v := none) rfl rfl rfl rfl
      · refine R_st ho 1 (q' := (239, [(0, .inr (.inr (1, 87))), (1, .inl y1)], [.inr (.inr (1, 87))], 119, pm_RF, M)) rfl ?_
        refine R_callV ho mv_Q_clauseIsOver lk_1_294 rfl (As := []) (kd := 1) (a := 87) (st := []) rfl rfl (Nat.le_of_ble_eq_true rfl) rfl (by decide) (Nat.le_of_ble_eq_true rfl) (ok_Q_clauseIsOver G  M ) (fun M942 => ?_)
        show pm_R _ _ _ (242, [(0, .inr (.inr (1, 87))), (1, .inl y1)], [], 119, pm_RF, M942) _ _
        refine R_st ho 1 (q' := (250, [(0, .inr (.inr (1, 87))), (1, .inl y1)], [], 119, pm_RF, M942)) rfl ?_
        exact R_end (v := none) rfl rfl rfl rfl
    · refine R_st ho 2 (q' := (247, [(0, .inr (.inr (1, 87))), (1, .inl y1)], [.inl 1, .inr (.inr (1, 87))], 119, pm_RF, M)) rfl ?_
      refine R_callV ho mv_Q_errs lk_1_242 rfl (As := [.inl 1]) (kd := 1) (a := 87) (st := []) rfl rfl (Nat.le_of_ble_eq_true rfl) rfl (by decide) (Nat.le_of_ble_eq_true rfl) (ok_Q_errs G 1 M ) (fun M943 => ?_)
      show pm_R _ _ _ (250, [(0, .inr (.inr (1, 87))), (1, .inl y1)], [], 119, pm_RF, M943) _ _
      exact R_end (v := none) rfl rfl rfl rfl
theorem ok_Q_goesOn_J116 (G : pm_G)     (y1 : Int) (M : pm_M) : pm_R G mt_Q_goesOn 5 (116, [(0, .inr (.inr (1, 87))), (1, .inl y1)], [], 119, pm_RF, M) (f_Q_goesOn_J116 y1 M) (pm_Zr mt_Q_goesOn pm_gV) := by
  have ho : pm_oG G mt_Q_goesOn := (oa_Q_goesOn).g G
  unfold f_Q_goesOn_J116
  refine R_st ho 2 (q' := (118, [(0, .inr (.inr (1, 87))), (1, .inl y1)], [.inl 4, .inl y1], 119, pm_RF, M)) rfl ?_
  refine R_ic ho rfl (tgt := 181) rfl ?_
  refine R_ne ?_ ?_
  · refine R_st ho 3 (q' := (126, [(0, .inr (.inr (1, 87))), (1, .inl y1)], [.inl 3, .inl (M 87 16)], 119, pm_RF, M)) rfl ?_
    refine R_ic ho rfl (tgt := 181) rfl ?_
    refine R_ne ?_ ?_
    · refine R_st ho 2 (q' := (133, [(0, .inr (.inr (1, 87))), (1, .inl y1)], [.inl (M 87 17)], 119, pm_RF, M)) rfl ?_
      refine R_callS ho ms_Q_isAsking lk_1_288 rfl (As := [.inl (M 87 17)]) (st := []) rfl (Nat.le_of_ble_eq_true rfl) rfl (by decide) (Nat.le_of_ble_eq_true rfl) (ok_Q_isAsking G (M 87 17) M ) (fun r922 => ?_)
      show pm_R _ _ _ (136, [(0, .inr (.inr (1, 87))), (1, .inl y1)], [.inl r922], 119, pm_RF, M) _ _
      refine R_if ho rfl (tgt := 181) rfl ?_
      refine R_eq ?_ ?_
      · exact ok_Q_goesOn_J181 G y1 M
      · refine R_st ho 2 (q' := (141, [(0, .inr (.inr (1, 87))), (1, .inl y1)], [.inl 3, .inr (.inr (1, 87))], 119, pm_RF, M)) rfl ?_
        refine R_callV ho mv_Q_works lk_1_260 rfl (As := [.inl 3]) (kd := 1) (a := 87) (st := []) rfl rfl (Nat.le_of_ble_eq_true rfl) rfl (by decide) (Nat.le_of_ble_eq_true rfl) (ok_Q_works G 3 M ) (fun M944 => ?_)
        show pm_R _ _ _ (144, [(0, .inr (.inr (1, 87))), (1, .inl y1)], [], 119, pm_RF, M944) _ _
        refine R_st ho 6 (q' := (156, [(0, .inr (.inr (1, 87))), (1, .inl y1)], [.inl (M944 87 17), .inl (M944 87 21), .inr (.inr (20, 99))], 119, pm_RF, M944)) rfl ?_
        refine R_iast ho rfl rfl ?_
        refine R_nm fun M945 => ?_
        refine R_st ho 7 (q' := (168, [(0, .inr (.inr (1, 87))), (1, .inl y1)], [.inl 5, .inl (i_sb (M945 87 21) 1), .inr (.inr (20, 98))], 119, pm_RF, M945)) rfl ?_
        refine R_iast ho rfl rfl ?_
        refine R_nm fun M946 => ?_
        refine R_st ho 1 (q' := (170, [(0, .inr (.inr (1, 87))), (1, .inl y1)], [.inr (.inr (1, 87))], 119, pm_RF, M946)) rfl ?_
        refine R_callV ho mv_Q_next lk_1_248 rfl (As := []) (kd := 1) (a := 87) (st := []) rfl rfl (Nat.le_of_ble_eq_true rfl) rfl (by decide) (Nat.le_of_ble_eq_true rfl) (ok_Q_next G  M946 ) (fun M947 => ?_)
        show pm_R _ _ _ (173, [(0, .inr (.inr (1, 87))), (1, .inl y1)], [], 119, pm_RF, M947) _ _
        refine R_st ho 3 (q' := (178, [(0, .inr (.inr (1, 87))), (1, .inl y1)], [], 119, pm_RF, (pm_ms M947 87 27 1))) rfl ?_
        refine R_nm fun M948 => ?_
        refine R_st ho 1 (q' := (250, [(0, .inr (.inr (1, 87))), (1, .inl y1)], [], 119, pm_RF, M948)) rfl ?_
        exact R_end (v := none) rfl rfl rfl rfl
    · exact ok_Q_goesOn_J181 G y1 M
  · exact ok_Q_goesOn_J181 G y1 M
theorem ok_Q_goesOn_J65 (G : pm_G)     (y1 : Int) (M : pm_M) : pm_R G mt_Q_goesOn 5 (65, [(0, .inr (.inr (1, 87))), (1, .inl y1)], [], 119, pm_RF, M) (f_Q_goesOn_J65 y1 M) (pm_Zr mt_Q_goesOn pm_gV) := by
  have ho : pm_oG G mt_Q_goesOn := (oa_Q_goesOn).g G
  unfold f_Q_goesOn_J65
  refine R_st ho 2 (q' := (68, [(0, .inr (.inr (1, 87))), (1, .inl y1)], [.inl 6, .inl y1], 119, pm_RF, M)) rfl ?_
  refine R_ic ho rfl (tgt := 116) rfl ?_
  refine R_ne ?_ ?_
  · refine R_st ho 2 (q' := (74, [(0, .inr (.inr (1, 87))), (1, .inl y1)], [.inl 41, .inr (.inr (1, 87))], 119, pm_RF, M)) rfl ?_
    refine R_callV ho mv_Q_isSign lk_1_278 rfl (As := [.inl 41]) (kd := 1) (a := 87) (st := []) rfl rfl (Nat.le_of_ble_eq_true rfl) rfl (by decide) (Nat.le_of_ble_eq_true rfl) (ok_Q_isSign G 41 M ) (fun r921 => ?_)
    show pm_R _ _ _ (77, [(0, .inr (.inr (1, 87))), (1, .inl y1)], [.inl r921], 119, pm_RF, M) _ _
    refine R_if ho rfl (tgt := 116) rfl ?_
    refine R_eq ?_ ?_
    · exact ok_Q_goesOn_J116 G y1 M
    · refine R_st ho 2 (q' := (82, [(0, .inr (.inr (1, 87))), (1, .inl y1)], [.inl 3, .inr (.inr (1, 87))], 119, pm_RF, M)) rfl ?_
      refine R_callV ho mv_Q_works lk_1_260 rfl (As := [.inl 3]) (kd := 1) (a := 87) (st := []) rfl rfl (Nat.le_of_ble_eq_true rfl) rfl (by decide) (Nat.le_of_ble_eq_true rfl) (ok_Q_works G 3 M ) (fun M949 => ?_)
      show pm_R _ _ _ (85, [(0, .inr (.inr (1, 87))), (1, .inl y1)], [], 119, pm_RF, M949) _ _
      refine R_st ho 6 (q' := (95, [(0, .inr (.inr (1, 87))), (1, .inl y1)], [], 119, pm_RF, (pm_ms M949 87 21 (i_sb (M949 87 21) 1)))) rfl ?_
      refine R_nm fun M950 => ?_
      refine R_st ho 6 (q' := (105, [(0, .inr (.inr (1, 87))), (1, .inl y1)], [], 119, pm_RF, (pm_ms M950 87 20 (i_sb (M950 87 20) 1)))) rfl ?_
      refine R_nm fun M951 => ?_
      refine R_st ho 1 (q' := (106, [(0, .inr (.inr (1, 87))), (1, .inl y1)], [.inr (.inr (1, 87))], 119, pm_RF, M951)) rfl ?_
      refine R_callV ho mv_Q_next lk_1_248 rfl (As := []) (kd := 1) (a := 87) (st := []) rfl rfl (Nat.le_of_ble_eq_true rfl) rfl (by decide) (Nat.le_of_ble_eq_true rfl) (ok_Q_next G  M951 ) (fun M952 => ?_)
      show pm_R _ _ _ (109, [(0, .inr (.inr (1, 87))), (1, .inl y1)], [], 119, pm_RF, M952) _ _
      refine R_st ho 1 (q' := (110, [(0, .inr (.inr (1, 87))), (1, .inl y1)], [.inr (.inr (1, 87))], 119, pm_RF, M952)) rfl ?_
      refine R_callV ho mv_Q_oneIsOver lk_1_272 rfl (As := []) (kd := 1) (a := 87) (st := []) rfl rfl (Nat.le_of_ble_eq_true rfl) rfl (by decide) (Nat.le_of_ble_eq_true rfl) (ok_Q_oneIsOver G  M952 ) (fun M953 => ?_)
      show pm_R _ _ _ (113, [(0, .inr (.inr (1, 87))), (1, .inl y1)], [], 119, pm_RF, M953) _ _
      refine R_st ho 1 (q' := (250, [(0, .inr (.inr (1, 87))), (1, .inl y1)], [], 119, pm_RF, M953)) rfl ?_
      exact R_end (v := none) rfl rfl rfl rfl
  · exact ok_Q_goesOn_J116 G y1 M
theorem ok_Q_goesOn (G : pm_G)  (M : pm_M)  : pm_R G mt_Q_goesOn 5 (0, [(0, .inr (.inr (1, 87)))], [], 119, pm_RF, M) (f_Q_goesOn M) (pm_Zr mt_Q_goesOn pm_gV) := by
  have ho : pm_oG G mt_Q_goesOn := (oa_Q_goesOn).g G
  unfold f_Q_goesOn
  refine R_st ho 1 (q' := (1, [(0, .inr (.inr (1, 87)))], [.inr (.inr (1, 87))], 119, pm_RF, M)) rfl ?_
  refine R_callV ho mv_Q_top lk_1_281 rfl (As := []) (kd := 1) (a := 87) (st := []) rfl rfl (Nat.le_of_ble_eq_true rfl) rfl (by decide) (Nat.le_of_ble_eq_true rfl) (ok_Q_top G  M ) (fun r902 => ?_)
  show pm_R _ _ _ (4, [(0, .inr (.inr (1, 87)))], [.inl r902], 119, pm_RF, M) _ _
  refine R_st ho 4 (q' := (10, [(1, .inl r902), (0, .inr (.inr (1, 87)))], [.inl 3, .inl (M 87 16)], 119, pm_RF, M)) rfl ?_
  refine R_ic ho rfl (tgt := 65) rfl ?_
  refine R_ne ?_ ?_
  · refine R_st ho 3 (q' := (19, [(1, .inl r902), (0, .inr (.inr (1, 87)))], [.inl 43, .inl (M 87 17)], 119, pm_RF, M)) rfl ?_
    refine R_ic ho rfl (tgt := 49) rfl ?_
    refine R_eq ?_ ?_
    · refine R_st ho 3 (q' := (54, [(1, .inl r902), (0, .inr (.inr (1, 87)))], [.inl (M 87 17), .inr (.inr (1, 87))], 119, pm_RF, M)) rfl ?_
      refine R_callV ho mv_Q_waitsFor lk_1_285 rfl (As := [.inl (M 87 17)]) (kd := 1) (a := 87) (st := []) rfl rfl (Nat.le_of_ble_eq_true rfl) rfl (by decide) (Nat.le_of_ble_eq_true rfl) (ok_Q_waitsFor G (M 87 17) M ) (fun M913 => ?_)
      show pm_R _ _ _ (57, [(1, .inl r902), (0, .inr (.inr (1, 87)))], [], 119, pm_RF, M913) _ _
      refine R_st ho 3 (q' := (62, [(1, .inl r902), (0, .inr (.inr (1, 87)))], [], 119, pm_RF, (pm_ms M913 87 27 1))) rfl ?_
      refine R_nm fun M914 => ?_
      refine R_st ho 1 (q' := (250, [(1, .inl r902), (0, .inr (.inr (1, 87)))], [], 119, pm_RF, M914)) rfl ?_
      exact R_end (v := none) rfl rfl rfl rfl
    · refine R_st ho 3 (q' := (28, [(1, .inl r902), (0, .inr (.inr (1, 87)))], [.inl 45, .inl (M 87 17)], 119, pm_RF, M)) rfl ?_
      refine R_ic ho rfl (tgt := 49) rfl ?_
      refine R_eq ?_ ?_
      · refine R_st ho 3 (q' := (54, [(1, .inl r902), (0, .inr (.inr (1, 87)))], [.inl (M 87 17), .inr (.inr (1, 87))], 119, pm_RF, M)) rfl ?_
        refine R_callV ho mv_Q_waitsFor lk_1_285 rfl (As := [.inl (M 87 17)]) (kd := 1) (a := 87) (st := []) rfl rfl (Nat.le_of_ble_eq_true rfl) rfl (by decide) (Nat.le_of_ble_eq_true rfl) (ok_Q_waitsFor G (M 87 17) M ) (fun M915 => ?_)
        show pm_R _ _ _ (57, [(1, .inl r902), (0, .inr (.inr (1, 87)))], [], 119, pm_RF, M915) _ _
        refine R_st ho 3 (q' := (62, [(1, .inl r902), (0, .inr (.inr (1, 87)))], [], 119, pm_RF, (pm_ms M915 87 27 1))) rfl ?_
        refine R_nm fun M916 => ?_
        refine R_st ho 1 (q' := (250, [(1, .inl r902), (0, .inr (.inr (1, 87)))], [], 119, pm_RF, M916)) rfl ?_
        exact R_end (v := none) rfl rfl rfl rfl
      · refine R_st ho 3 (q' := (37, [(1, .inl r902), (0, .inr (.inr (1, 87)))], [.inl 42, .inl (M 87 17)], 119, pm_RF, M)) rfl ?_
        refine R_ic ho rfl (tgt := 49) rfl ?_
        refine R_eq ?_ ?_
        · refine R_st ho 3 (q' := (54, [(1, .inl r902), (0, .inr (.inr (1, 87)))], [.inl (M 87 17), .inr (.inr (1, 87))], 119, pm_RF, M)) rfl ?_
          refine R_callV ho mv_Q_waitsFor lk_1_285 rfl (As := [.inl (M 87 17)]) (kd := 1) (a := 87) (st := []) rfl rfl (Nat.le_of_ble_eq_true rfl) rfl (by decide) (Nat.le_of_ble_eq_true rfl) (ok_Q_waitsFor G (M 87 17) M ) (fun M917 => ?_)
          show pm_R _ _ _ (57, [(1, .inl r902), (0, .inr (.inr (1, 87)))], [], 119, pm_RF, M917) _ _
          refine R_st ho 3 (q' := (62, [(1, .inl r902), (0, .inr (.inr (1, 87)))], [], 119, pm_RF, (pm_ms M917 87 27 1))) rfl ?_
          refine R_nm fun M918 => ?_
          refine R_st ho 1 (q' := (250, [(1, .inl r902), (0, .inr (.inr (1, 87)))], [], 119, pm_RF, M918)) rfl ?_
          exact R_end (v := none) rfl rfl rfl rfl
        · refine R_st ho 3 (q' := (46, [(1, .inl r902), (0, .inr (.inr (1, 87)))], [.inl 47, .inl (M 87 17)], 119, pm_RF, M)) rfl ?_
          refine R_ic ho rfl (tgt := 65) rfl ?_
          refine R_ne ?_ ?_
          · refine R_st ho 3 (q' := (54, [(1, .inl r902), (0, .inr (.inr (1, 87)))], [.inl (M 87 17), .inr (.inr (1, 87))], 119, pm_RF, M)) rfl ?_
            refine R_callV ho mv_Q_waitsFor lk_1_285 rfl (As := [.inl (M 87 17)]) (kd := 1) (a := 87) (st := []) rfl rfl (Nat.le_of_ble_eq_true rfl) rfl (by decide) (Nat.le_of_ble_eq_true rfl) (ok_Q_waitsFor G (M 87 17) M ) (fun M919 => ?_)
            show pm_R _ _ _ (57, [(1, .inl r902), (0, .inr (.inr (1, 87)))], [], 119, pm_RF, M919) _ _
            refine R_st ho 3 (q' := (62, [(1, .inl r902), (0, .inr (.inr (1, 87)))], [], 119, pm_RF, (pm_ms M919 87 27 1))) rfl ?_
            refine R_nm fun M920 => ?_
            refine R_st ho 1 (q' := (250, [(1, .inl r902), (0, .inr (.inr (1, 87)))], [], 119, pm_RF, M920)) rfl ?_
            exact R_end (v := none) rfl rfl rfl rfl
          · refine R_pk [0, 1] rfl ?_
            exact ok_Q_goesOn_J65 G r902 M
  · refine R_pk [0, 1] rfl ?_
    exact ok_Q_goesOn_J65 G r902 M
theorem ok_Q_asksOn (G : pm_G)  (M : pm_M)  : pm_R G mt_Q_asksOn 5 (0, [(0, .inr (.inr (1, 87)))], [], 119, pm_RF, M) (f_Q_asksOn M) (pm_Zr mt_Q_asksOn pm_gV) := by
  have ho : pm_oG G mt_Q_asksOn := (oa_Q_asksOn).g G
  unfold f_Q_asksOn
  refine R_st ho 2 (q' := (3, [(0, .inr (.inr (1, 87)))], [.inl 11, .inr (.inr (1, 87))], 119, pm_RF, M)) rfl ?_
  refine R_callV ho mv_Q_isWord lk_1_263 rfl (As := [.inl 11]) (kd := 1) (a := 87) (st := []) rfl rfl (Nat.le_of_ble_eq_true rfl) rfl (by decide) (Nat.le_of_ble_eq_true rfl) (ok_Q_isWord G 11 M ) (fun r955 => ?_)
  show pm_R _ _ _ (6, [(0, .inr (.inr (1, 87)))], [.inl r955], 119, pm_RF, M) _ _
  refine R_if ho rfl (tgt := 18) rfl ?_
  refine R_ne ?_ ?_
  · refine R_st ho 2 (q' := (12, [(0, .inr (.inr (1, 87)))], [.inl 12, .inr (.inr (1, 87))], 119, pm_RF, M)) rfl ?_
    refine R_callV ho mv_Q_isWord lk_1_263 rfl (As := [.inl 12]) (kd := 1) (a := 87) (st := []) rfl rfl (Nat.le_of_ble_eq_true rfl) rfl (by decide) (Nat.le_of_ble_eq_true rfl) (ok_Q_isWord G 12 M ) (fun r956 => ?_)
    show pm_R _ _ _ (15, [(0, .inr (.inr (1, 87)))], [.inl r956], 119, pm_RF, M) _ _
    refine R_if ho rfl (tgt := 48) rfl ?_
    refine R_eq ?_ ?_
    · refine R_st ho 1 (q' := (49, [(0, .inr (.inr (1, 87)))], [.inr (.inr (1, 87))], 119, pm_RF, M)) rfl ?_
      refine R_callV ho mv_Q_top lk_1_281 rfl (As := []) (kd := 1) (a := 87) (st := []) rfl rfl (Nat.le_of_ble_eq_true rfl) rfl (by decide) (Nat.le_of_ble_eq_true rfl) (ok_Q_top G  M ) (fun r957 => ?_)
      show pm_R _ _ _ (52, [(0, .inr (.inr (1, 87)))], [.inl r957], 119, pm_RF, M) _ _
      refine R_st ho 1 (q' := (53, [(0, .inr (.inr (1, 87)))], [.inl 2, .inl r957], 119, pm_RF, M)) rfl ?_
      refine R_ic ho rfl (tgt := 72) rfl ?_
      refine R_ne ?_ ?_
      · refine R_st ho 2 (q' := (59, [(0, .inr (.inr (1, 87)))], [.inl 59, .inr (.inr (1, 87))], 119, pm_RF, M)) rfl ?_
        refine R_callV ho mv_Q_isSign lk_1_278 rfl (As := [.inl 59]) (kd := 1) (a := 87) (st := []) rfl rfl (Nat.le_of_ble_eq_true rfl) rfl (by decide) (Nat.le_of_ble_eq_true rfl) (ok_Q_isSign G 59 M ) (fun r958 => ?_)
        show pm_R _ _ _ (62, [(0, .inr (.inr (1, 87)))], [.inl r958], 119, pm_RF, M) _ _
        refine R_if ho rfl (tgt := 72) rfl ?_
        refine R_eq ?_ ?_
        · refine R_st ho 2 (q' := (74, [(0, .inr (.inr (1, 87)))], [.inl 1, .inr (.inr (1, 87))], 119, pm_RF, M)) rfl ?_
          refine R_callV ho mv_Q_errs lk_1_242 rfl (As := [.inl 1]) (kd := 1) (a := 87) (st := []) rfl rfl (Nat.le_of_ble_eq_true rfl) rfl (by decide) (Nat.le_of_ble_eq_true rfl) (ok_Q_errs G 1 M ) (fun M959 => ?_)
          show pm_R _ _ _ (77, [(0, .inr (.inr (1, 87)))], [], 119, pm_RF, M959) _ _
          exact R_end (v := none) rfl rfl rfl rfl
        · refine R_st ho 1 (q' := (66, [(0, .inr (.inr (1, 87)))], [.inr (.inr (1, 87))], 119, pm_RF, M)) rfl ?_
          refine R_callV ho mv_Q_clauseIsOver lk_1_294 rfl (As := []) (kd := 1) (a := 87) (st := []) rfl rfl (Nat.le_of_ble_eq_true rfl) rfl (by decide) (Nat.le_of_ble_eq_true rfl) (ok_Q_clauseIsOver G  M ) (fun M960 => ?_)
          show pm_R _ _ _ (69, [(0, .inr (.inr (1, 87)))], [], 119, pm_RF, M960) _ _
          refine R_st ho 1 (q' := (77, [(0, .inr (.inr (1, 87)))], [], 119, pm_RF, M960)) rfl ?_
          exact R_end (v := none) rfl rfl rfl rfl
      · refine R_st ho 2 (q' := (74, [(0, .inr (.inr (1, 87)))], [.inl 1, .inr (.inr (1, 87))], 119, pm_RF, M)) rfl ?_
        refine R_callV ho mv_Q_errs lk_1_242 rfl (As := [.inl 1]) (kd := 1) (a := 87) (st := []) rfl rfl (Nat.le_of_ble_eq_true rfl) rfl (by decide) (Nat.le_of_ble_eq_true rfl) (ok_Q_errs G 1 M ) (fun M961 => ?_)
        show pm_R _ _ _ (77, [(0, .inr (.inr (1, 87)))], [], 119, pm_RF, M961) _ _
        exact R_end (v := none) rfl rfl rfl rfl
    · refine R_st ho 3 (q' := (22, [(0, .inr (.inr (1, 87)))], [.inl 11, .inr (.inr (1, 87)), .inr (.inr (1, 87))], 119, pm_RF, M)) rfl ?_
      refine R_callV ho mv_Q_isWord lk_1_263 rfl (As := [.inl 11]) (kd := 1) (a := 87) (st := [.inr (.inr (1, 87))]) rfl rfl (Nat.le_of_ble_eq_true rfl) rfl (by decide) (Nat.le_of_ble_eq_true rfl) (ok_Q_isWord G 11 M ) (fun r962 => ?_)
      show pm_R _ _ _ (25, [(0, .inr (.inr (1, 87)))], [.inl r962, .inr (.inr (1, 87))], 119, pm_RF, M) _ _
      refine R_if ho rfl (tgt := 34) rfl ?_
      refine R_eq ?_ ?_
      · refine R_st ho 1 (q' := (37, [(0, .inr (.inr (1, 87)))], [.inl 406, .inr (.inr (1, 87))], 119, pm_RF, M)) rfl ?_
        refine R_callV ho mv_Q_waitsFor lk_1_285 rfl (As := [.inl 406]) (kd := 1) (a := 87) (st := []) rfl rfl (Nat.le_of_ble_eq_true rfl) rfl (by decide) (Nat.le_of_ble_eq_true rfl) (ok_Q_waitsFor G 406 M ) (fun M963 => ?_)
        show pm_R _ _ _ (40, [(0, .inr (.inr (1, 87)))], [], 119, pm_RF, M963) _ _
        refine R_st ho 3 (q' := (45, [(0, .inr (.inr (1, 87)))], [], 119, pm_RF, (pm_ms M963 87 27 0))) rfl ?_
        refine R_nm fun M964 => ?_
        refine R_st ho 1 (q' := (77, [(0, .inr (.inr (1, 87)))], [], 119, pm_RF, M964)) rfl ?_
        exact R_end (v := none) rfl rfl rfl rfl
      · refine R_st ho 2 (q' := (37, [(0, .inr (.inr (1, 87)))], [.inl 407, .inr (.inr (1, 87))], 119, pm_RF, M)) rfl ?_
        refine R_callV ho mv_Q_waitsFor lk_1_285 rfl (As := [.inl 407]) (kd := 1) (a := 87) (st := []) rfl rfl (Nat.le_of_ble_eq_true rfl) rfl (by decide) (Nat.le_of_ble_eq_true rfl) (ok_Q_waitsFor G 407 M ) (fun M965 => ?_)
        show pm_R _ _ _ (40, [(0, .inr (.inr (1, 87)))], [], 119, pm_RF, M965) _ _
        refine R_st ho 3 (q' := (45, [(0, .inr (.inr (1, 87)))], [], 119, pm_RF, (pm_ms M965 87 27 0))) rfl ?_
        refine R_nm fun M966 => ?_
        refine R_st ho 1 (q' := (77, [(0, .inr (.inr (1, 87)))], [], 119, pm_RF, M966)) rfl ?_
        exact R_end (v := none) rfl rfl rfl rfl
  · refine R_st ho 3 (q' := (22, [(0, .inr (.inr (1, 87)))], [.inl 11, .inr (.inr (1, 87)), .inr (.inr (1, 87))], 119, pm_RF, M)) rfl ?_
    refine R_callV ho mv_Q_isWord lk_1_263 rfl (As := [.inl 11]) (kd := 1) (a := 87) (st := [.inr (.inr (1, 87))]) rfl rfl (Nat.le_of_ble_eq_true rfl) rfl (by decide) (Nat.le_of_ble_eq_true rfl) (ok_Q_isWord G 11 M ) (fun r967 => ?_)
    show pm_R _ _ _ (25, [(0, .inr (.inr (1, 87)))], [.inl r967, .inr (.inr (1, 87))], 119, pm_RF, M) _ _
    refine R_if ho rfl (tgt := 34) rfl ?_
    refine R_eq ?_ ?_
    · refine R_st ho 1 (q' := (37, [(0, .inr (.inr (1, 87)))], [.inl 406, .inr (.inr (1, 87))], 119, pm_RF, M)) rfl ?_
      refine R_callV ho mv_Q_waitsFor lk_1_285 rfl (As := [.inl 406]) (kd := 1) (a := 87) (st := []) rfl rfl (Nat.le_of_ble_eq_true rfl) rfl (by decide) (Nat.le_of_ble_eq_true rfl) (ok_Q_waitsFor G 406 M ) (fun M968 => ?_)
      show pm_R _ _ _ (40, [(0, .inr (.inr (1, 87)))], [], 119, pm_RF, M968) _ _
      refine R_st ho 3 (q' := (45, [(0, .inr (.inr (1, 87)))], [], 119, pm_RF, (pm_ms M968 87 27 0))) rfl ?_
      refine R_nm fun M969 => ?_
      refine R_st ho 1 (q' := (77, [(0, .inr (.inr (1, 87)))], [], 119, pm_RF, M969)) rfl ?_
      exact R_end (v := none) rfl rfl rfl rfl
    · refine R_st ho 2 (q' := (37, [(0, .inr (.inr (1, 87)))], [.inl 407, .inr (.inr (1, 87))], 119, pm_RF, M)) rfl ?_
      refine R_callV ho mv_Q_waitsFor lk_1_285 rfl (As := [.inl 407]) (kd := 1) (a := 87) (st := []) rfl rfl (Nat.le_of_ble_eq_true rfl) rfl (by decide) (Nat.le_of_ble_eq_true rfl) (ok_Q_waitsFor G 407 M ) (fun M970 => ?_)
      show pm_R _ _ _ (40, [(0, .inr (.inr (1, 87)))], [], 119, pm_RF, M970) _ _
      refine R_st ho 3 (q' := (45, [(0, .inr (.inr (1, 87)))], [], 119, pm_RF, (pm_ms M970 87 27 0))) rfl ?_
      refine R_nm fun M971 => ?_
      refine R_st ho 1 (q' := (77, [(0, .inr (.inr (1, 87)))], [], 119, pm_RF, M971)) rfl ?_
      exact R_end (v := none) rfl rfl rfl rfl
theorem ok_Q_number (G : pm_G) (x1 : Int) (x2 : Int) (M : pm_M)  : pm_R G mt_Q_number 4 (0, [(0, .inr (.inr (1, 87))), (1, .inl x1), (2, .inl x2)], [], 119, pm_RF, M) (f_Q_number x1 x2 M) (pm_Zr mt_Q_number pm_gI) := by
  have ho : pm_oG G mt_Q_number := (oa_Q_number).g G
  unfold f_Q_number
  refine R_st ho 2 (q' := (4, [(0, .inr (.inr (1, 87))), (1, .inl x1), (2, .inl x2)], [.inl (M 87 18)], 119, pm_RF, M)) rfl ?_
  refine R_if ho rfl (tgt := 15) rfl ?_
  refine R_gt ?_ ?_
  · refine R_st ho 2 (q' := (17, [(0, .inr (.inr (1, 87))), (1, .inl x1), (2, .inl x2)], [.inl 1, .inr (.inr (1, 87))], 119, pm_RF, M)) rfl ?_
    refine R_callV ho mv_Q_errs lk_1_242 rfl (As := [.inl 1]) (kd := 1) (a := 87) (st := []) rfl rfl (Nat.le_of_ble_eq_true rfl) rfl (by decide) (Nat.le_of_ble_eq_true rfl) (ok_Q_errs G 1 M ) (fun M980 => ?_)
    show pm_R _ _ _ (20, [(0, .inr (.inr (1, 87))), (1, .inl x1), (2, .inl x2)], [], 119, pm_RF, M980) _ _
    refine R_st ho 1 (q' := (21, [(0, .inr (.inr (1, 87))), (1, .inl x1), (2, .inl x2)], [.inl x1], 119, pm_RF, M980)) rfl ?_
    exact R_end (v := some (.inl x1)) rfl (Or.inl rfl) rfl rfl
  · refine R_st ho 3 (q' := (12, [(0, .inr (.inr (1, 87))), (1, .inl x1), (2, .inl x2)], [.inl 2, .inl (M 87 16)], 119, pm_RF, M)) rfl ?_
    refine R_ic ho rfl (tgt := 22) rfl ?_
    refine R_eq ?_ ?_
    · refine R_st ho 4 (q' := (28, [(0, .inr (.inr (1, 87))), (1, .inl x1), (2, .inl x2)], [.inl x2, .inl x1, .inl (M 87 17)], 119, pm_RF, M)) rfl ?_
      refine R_callS ho ms_Q_in lk_1_118 rfl (As := [.inl (M 87 17), .inl x1, .inl x2]) (st := []) rfl (Nat.le_of_ble_eq_true rfl) rfl (by decide) (Nat.le_of_ble_eq_true rfl) (ok_Q_in G (M 87 17) x1 x2 M ) (fun r981 => ?_)
      show pm_R _ _ _ (31, [(0, .inr (.inr (1, 87))), (1, .inl x1), (2, .inl x2)], [.inl r981], 119, pm_RF, M) _ _
      refine R_if ho rfl (tgt := 41) rfl ?_
      refine R_ne ?_ ?_
      · refine R_st ho 2 (q' := (36, [(0, .inr (.inr (1, 87))), (1, .inl x1), (2, .inl x2)], [.inl 2, .inr (.inr (1, 87))], 119, pm_RF, M)) rfl ?_
        refine R_callV ho mv_Q_errs lk_1_242 rfl (As := [.inl 2]) (kd := 1) (a := 87) (st := []) rfl rfl (Nat.le_of_ble_eq_true rfl) rfl (by decide) (Nat.le_of_ble_eq_true rfl) (ok_Q_errs G 2 M ) (fun M982 => ?_)
        show pm_R _ _ _ (39, [(0, .inr (.inr (1, 87))), (1, .inl x1), (2, .inl x2)], [], 119, pm_RF, M982) _ _
        refine R_st ho 1 (q' := (40, [(0, .inr (.inr (1, 87))), (1, .inl x1), (2, .inl x2)], [.inl x1], 119, pm_RF, M982)) rfl ?_
        exact R_end (v := some (.inl x1)) rfl (Or.inl rfl) rfl rfl
      · refine R_st ho 4 (q' := (47, [(3, .inl (M 87 17)), (0, .inr (.inr (1, 87))), (1, .inl x1), (2, .inl x2)], [.inr (.inr (1, 87))], 119, pm_RF, M)) rfl ?_
        refine R_callV ho mv_Q_next lk_1_248 rfl (As := []) (kd := 1) (a := 87) (st := []) rfl rfl (Nat.le_of_ble_eq_true rfl) rfl (by decide) (Nat.le_of_ble_eq_true rfl) (ok_Q_next G  M ) (fun M983 => ?_)
        show pm_R _ _ _ (50, [(3, .inl (M 87 17)), (0, .inr (.inr (1, 87))), (1, .inl x1), (2, .inl x2)], [], 119, pm_RF, M983) _ _
        refine R_st ho 1 (q' := (51, [(3, .inl (M 87 17)), (0, .inr (.inr (1, 87))), (1, .inl x1), (2, .inl x2)], [.inl (M 87 17)], 119, pm_RF, M983)) rfl ?_
        exact R_end (v := some (.inl (M 87 17))) rfl (Or.inl rfl) rfl rfl
    · refine R_st ho 2 (q' := (17, [(0, .inr (.inr (1, 87))), (1, .inl x1), (2, .inl x2)], [.inl 1, .inr (.inr (1, 87))], 119, pm_RF, M)) rfl ?_
      refine R_callV ho mv_Q_errs lk_1_242 rfl (As := [.inl 1]) (kd := 1) (a := 87) (st := []) rfl rfl (Nat.le_of_ble_eq_true rfl) rfl (by decide) (Nat.le_of_ble_eq_true rfl) (ok_Q_errs G 1 M ) (fun M984 => ?_)
      show pm_R _ _ _ (20, [(0, .inr (.inr (1, 87))), (1, .inl x1), (2, .inl x2)], [], 119, pm_RF, M984) _ _
      refine R_st ho 1 (q' := (21, [(0, .inr (.inr (1, 87))), (1, .inl x1), (2, .inl x2)], [.inl x1], 119, pm_RF, M984)) rfl ?_
      exact R_end (v := some (.inl x1)) rfl (Or.inl rfl) rfl rfl
theorem ok_Q_wasTold_L4 (G : pm_G)   (M : pm_M) : ∀ (n_ : Nat) (y1 : Int) (y2 : Int) (y3 : Int), pm_R G mt_Q_wasTold 1 (4, [(0, .inr (.inr (1, 87))), (1, .inl y1), (2, .inl y2), (3, .inl y3)], [], 119, pm_RF, M) (f_Q_wasTold_L4 M n_ y1 y2 y3) (fun e_ q_ => q_ = (38, [(2, .inl e_)], [], 119, pm_RF, M)) := by
  have ho : pm_oG G mt_Q_wasTold := (oa_Q_wasTold).g G
  intro n_
  induction n_ with
  | zero => intro _ _ _; exact R_none
  | succ n_ ih_ =>
    intro y1 y2 y3
    rw [f_Q_wasTold_L4]
    refine R_st ho 3 (q' := (9, [(0, .inr (.inr (1, 87))), (1, .inl y1), (2, .inl y2), (3, .inl y3)], [.inl (M 87 28), .inl y3], 119, pm_RF, M)) rfl ?_
    refine R_ic ho rfl (tgt := 38) rfl ?_
    refine R_ge ?_ ?_
    · refine R_pk [2] rfl ?_
      exact R_ret rfl
    · refine R_st ho 1 (q' := (13, [(0, .inr (.inr (1, 87))), (1, .inl y1), (2, .inl y2), (3, .inl y3)], [.inl y2], 119, pm_RF, M)) rfl ?_
      refine R_if ho rfl (tgt := 26) rfl ?_
      refine R_ne ?_ ?_
      · refine R_st ho 3 (q' := (21, [(0, .inr (.inr (1, 87))), (1, .inl y1), (2, .inl y2), (3, .inl y3)], [.inl y3, .inr (.inr (20, 102))], 119, pm_RF, M)) rfl ?_
        refine R_iald ho rfl rfl ?_
        refine R_st ho 1 (q' := (23, [(0, .inr (.inr (1, 87))), (1, .inl y1), (2, .inl y2), (3, .inl y3)], [.inl y1, .inl (M 102 (y3).toNat)], 119, pm_RF, M)) rfl ?_
        refine R_ic ho rfl (tgt := 30) rfl ?_
        refine R_ne ?_ ?_
        · refine R_st ho 5 (q' := (4, [(3, .inl (i_ad y3 1)), (2, .inl 1), (0, .inr (.inr (1, 87))), (1, .inl y1)], [], 119, pm_RF, M)) rfl ?_
          refine R_pk [0, 1, 2, 3] rfl ?_
          exact ih_ y1 1 (i_ad y3 1)
        · refine R_st ho 4 (q' := (4, [(3, .inl (i_ad y3 1)), (2, .inl 0), (0, .inr (.inr (1, 87))), (1, .inl y1)], [], 119, pm_RF, M)) rfl ?_
          refine R_pk [0, 1, 2, 3] rfl ?_
          exact ih_ y1 0 (i_ad y3 1)
      · refine R_st ho 5 (q' := (4, [(3, .inl (i_ad y3 1)), (2, .inl 1), (0, .inr (.inr (1, 87))), (1, .inl y1)], [], 119, pm_RF, M)) rfl ?_
        refine R_pk [0, 1, 2, 3] rfl ?_
        exact ih_ y1 1 (i_ad y3 1)
theorem ok_Q_wasTold (G : pm_G) (x1 : Int) (M : pm_M)  : pm_R G mt_Q_wasTold 1 (0, [(0, .inr (.inr (1, 87))), (1, .inl x1)], [], 119, pm_RF, M) (f_Q_wasTold x1 M) (pm_Zr mt_Q_wasTold (pm_gi M)) := by
  have ho : pm_oG G mt_Q_wasTold := (oa_Q_wasTold).g G
  unfold f_Q_wasTold
  refine R_st ho 4 (q' := (4, [(3, .inl 0), (2, .inl 0), (0, .inr (.inr (1, 87))), (1, .inl x1)], [], 119, pm_RF, M)) rfl ?_
  refine R_pk [0, 1, 2, 3] rfl ?_
  refine R_bind (ok_Q_wasTold_L4 G M pm_F x1 0 0) ?_
  intro e1009 q_ hq_
  obtain rfl : q_ = (38, [(2, .inl e1009)], [], 119, pm_RF, M) := hq_
  refine R_st ho 1 (q' := (39, [(2, .inl e1009)], [.inl e1009], 119, pm_RF, M)) rfl ?_
  exact R_gd (fun h_ => R_end (v := some (.inl e1009)) rfl (Or.inr ⟨rfl, h_⟩) rfl rfl)
theorem ok_Q_clause_J295 (G : pm_G)     (M : pm_M) : pm_R G mt_Q_clause 5 (295, [(0, .inr (.inr (1, 87)))], [], 119, pm_RF, M) (f_Q_clause_J295 M) (pm_Zr mt_Q_clause pm_gV) := by
  have ho : pm_oG G mt_Q_clause := (oa_Q_clause).g G
  unfold f_Q_clause_J295
  refine R_st ho 2 (q' := (299, [(0, .inr (.inr (1, 87)))], [.inl (M 87 18)], 119, pm_RF, M)) rfl ?_
  refine R_if ho rfl (tgt := 316) rfl ?_
  refine R_ne ?_ ?_
  · refine R_st ho 2 (q' := (305, [(0, .inr (.inr (1, 87)))], [.inl 59, .inr (.inr (1, 87))], 119, pm_RF, M)) rfl ?_
    refine R_callV ho mv_Q_isSign lk_1_278 rfl (As := [.inl 59]) (kd := 1) (a := 87) (st := []) rfl rfl (Nat.le_of_ble_eq_true rfl) rfl (by decide) (Nat.le_of_ble_eq_true rfl) (ok_Q_isSign G 59 M ) (fun r992 => ?_)
    show pm_R _ _ _ (308, [(0, .inr (.inr (1, 87)))], [.inl r992], 119, pm_RF, M) _ _
    refine R_if ho rfl (tgt := 316) rfl ?_
    refine R_ne ?_ ?_
    · refine R_st ho 2 (q' := (313, [(0, .inr (.inr (1, 87)))], [.inl 1, .inr (.inr (1, 87))], 119, pm_RF, M)) rfl ?_
      refine R_callV ho mv_Q_errs lk_1_242 rfl (As := [.inl 1]) (kd := 1) (a := 87) (st := []) rfl rfl (Nat.le_of_ble_eq_true rfl) rfl (by decide) (Nat.le_of_ble_eq_true rfl) (ok_Q_errs G 1 M ) (fun M993 => ?_)
      show pm_R _ _ _ (316, [(0, .inr (.inr (1, 87)))], [], 119, pm_RF, M993) _ _
      refine R_st ho 2 (q' := (320, [(0, .inr (.inr (1, 87)))], [.inl (M993 87 18)], 119, pm_RF, M993)) rfl ?_
      refine R_if ho rfl (tgt := 327) rfl ?_
      refine R_ne ?_ ?_
      · refine R_st ho 1 (q' := (324, [(0, .inr (.inr (1, 87)))], [.inr (.inr (1, 87))], 119, pm_RF, M993)) rfl ?_
        refine R_callV ho mv_Q_clauseIsOver lk_1_294 rfl (As := []) (kd := 1) (a := 87) (st := []) rfl rfl (Nat.le_of_ble_eq_true rfl) rfl (by decide) (Nat.le_of_ble_eq_true rfl) (ok_Q_clauseIsOver G  M993 ) (fun M994 => ?_)
        show pm_R _ _ _ (327, [(0, .inr (.inr (1, 87)))], [], 119, pm_RF, M994) _ _
        exact R_end (v := none) rfl rfl rfl rfl
      · exact R_end (v := none) rfl rfl rfl rfl
    · refine R_st ho 2 (q' := (320, [(0, .inr (.inr (1, 87)))], [.inl (M 87 18)], 119, pm_RF, M)) rfl ?_
      refine R_if ho rfl (tgt := 327) rfl ?_
      refine R_ne ?_ ?_
      · refine R_st ho 1 (q' := (324, [(0, .inr (.inr (1, 87)))], [.inr (.inr (1, 87))], 119, pm_RF, M)) rfl ?_
        refine R_callV ho mv_Q_clauseIsOver lk_1_294 rfl (As := []) (kd := 1) (a := 87) (st := []) rfl rfl (Nat.le_of_ble_eq_true rfl) rfl (by decide) (Nat.le_of_ble_eq_true rfl) (ok_Q_clauseIsOver G  M ) (fun M995 => ?_)
        show pm_R _ _ _ (327, [(0, .inr (.inr (1, 87)))], [], 119, pm_RF, M995) _ _
        exact R_end (v := none) rfl rfl rfl rfl
      · exact R_end (v := none) rfl rfl rfl rfl
  · refine R_st ho 2 (q' := (320, [(0, .inr (.inr (1, 87)))], [.inl (M 87 18)], 119, pm_RF, M)) rfl ?_
    refine R_if ho rfl (tgt := 327) rfl ?_
    refine R_ne ?_ ?_
    · refine R_st ho 1 (q' := (324, [(0, .inr (.inr (1, 87)))], [.inr (.inr (1, 87))], 119, pm_RF, M)) rfl ?_
      refine R_callV ho mv_Q_clauseIsOver lk_1_294 rfl (As := []) (kd := 1) (a := 87) (st := []) rfl rfl (Nat.le_of_ble_eq_true rfl) rfl (by decide) (Nat.le_of_ble_eq_true rfl) (ok_Q_clauseIsOver G  M ) (fun M996 => ?_)
      show pm_R _ _ _ (327, [(0, .inr (.inr (1, 87)))], [], 119, pm_RF, M996) _ _
      exact R_end (v := none) rfl rfl rfl rfl
    · exact R_end (v := none) rfl rfl rfl rfl
theorem ok_Q_clause_J279 (G : pm_G)     (M : pm_M) : pm_R G mt_Q_clause 5 (279, [(0, .inr (.inr (1, 87)))], [], 119, pm_RF, M) (f_Q_clause_J279 M) (pm_Zr mt_Q_clause pm_gV) := by
  have ho : pm_oG G mt_Q_clause := (oa_Q_clause).g G
  unfold f_Q_clause_J279
  refine R_st ho 7 (q' := (291, [(0, .inr (.inr (1, 87)))], [.inl 7, .inl 0, .inr (.inr (1, 87)), .inl (M 87 28), .inr (.inr (20, 105))], 119, pm_RF, M)) rfl ?_
  refine R_callV ho mv_Q_number lk_1_303 rfl (As := [.inl 0, .inl 7]) (kd := 1) (a := 87) (st := [.inl (M 87 28), .inr (.inr (20, 105))]) rfl rfl (Nat.le_of_ble_eq_true rfl) rfl (by decide) (Nat.le_of_ble_eq_true rfl) (ok_Q_number G 0 7 M ) (fun r990 => ?_)
  show pm_R _ _ _ (294, [(0, .inr (.inr (1, 87)))], [.inl r990.1, .inl (M 87 28), .inr (.inr (20, 105))], 119, pm_RF, r990.2) _ _
  refine R_iast ho rfl rfl ?_
  refine R_nm fun M991 => ?_
  exact ok_Q_clause_J295 G M991
theorem ok_Q_clause_J268 (G : pm_G)     (M : pm_M) : pm_R G mt_Q_clause 5 (268, [(0, .inr (.inr (1, 87)))], [], 119, pm_RF, M) (f_Q_clause_J268 M) (pm_Zr mt_Q_clause pm_gV) := by
  have ho : pm_oG G mt_Q_clause := (oa_Q_clause).g G
  unfold f_Q_clause_J268
  refine R_st ho 2 (q' := (272, [(0, .inr (.inr (1, 87)))], [.inl (M 87 18)], 119, pm_RF, M)) rfl ?_
  refine R_if ho rfl (tgt := 279) rfl ?_
  refine R_ne ?_ ?_
  · refine R_st ho 1 (q' := (276, [(0, .inr (.inr (1, 87)))], [.inr (.inr (1, 87))], 119, pm_RF, M)) rfl ?_
    refine R_callV ho mv_Q_next lk_1_248 rfl (As := []) (kd := 1) (a := 87) (st := []) rfl rfl (Nat.le_of_ble_eq_true rfl) rfl (by decide) (Nat.le_of_ble_eq_true rfl) (ok_Q_next G  M ) (fun M989 => ?_)
    show pm_R _ _ _ (279, [(0, .inr (.inr (1, 87)))], [], 119, pm_RF, M989) _ _
    exact ok_Q_clause_J279 G M989
  · exact ok_Q_clause_J279 G M
theorem ok_Q_clause_J234 (G : pm_G)     (M : pm_M) : pm_R G mt_Q_clause 5 (234, [(0, .inr (.inr (1, 87)))], [], 119, pm_RF, M) (f_Q_clause_J234 M) (pm_Zr mt_Q_clause pm_gV) := by
  have ho : pm_oG G mt_Q_clause := (oa_Q_clause).g G
  unfold f_Q_clause_J234
  refine R_st ho 2 (q' := (238, [(0, .inr (.inr (1, 87)))], [.inl (M 87 18)], 119, pm_RF, M)) rfl ?_
  refine R_if ho rfl (tgt := 268) rfl ?_
  refine R_ne ?_ ?_
  · refine R_st ho 4 (q' := (247, [(0, .inr (.inr (1, 87)))], [.inl 5, .inl (M 87 29), .inr (.inr (1, 87))], 119, pm_RF, M)) rfl ?_
    refine R_ic ho rfl (tgt := 255) rfl ?_
    refine R_ne ?_ ?_
    · refine R_st ho 2 (q' := (257, [(0, .inr (.inr (1, 87)))], [.inl 9, .inr (.inr (1, 87))], 119, pm_RF, M)) rfl ?_
      refine R_callV ho mv_Q_isWord lk_1_263 rfl (As := [.inl 9]) (kd := 1) (a := 87) (st := []) rfl rfl (Nat.le_of_ble_eq_true rfl) rfl (by decide) (Nat.le_of_ble_eq_true rfl) (ok_Q_isWord G 9 M ) (fun r987 => ?_)
      show pm_R _ _ _ (260, [(0, .inr (.inr (1, 87)))], [.inl r987], 119, pm_RF, M) _ _
      refine R_if ho rfl (tgt := 268) rfl ?_
      refine R_ne ?_ ?_
      · refine R_st ho 2 (q' := (265, [(0, .inr (.inr (1, 87)))], [.inl 1, .inr (.inr (1, 87))], 119, pm_RF, M)) rfl ?_
        refine R_callV ho mv_Q_errs lk_1_242 rfl (As := [.inl 1]) (kd := 1) (a := 87) (st := []) rfl rfl (Nat.le_of_ble_eq_true rfl) rfl (by decide) (Nat.le_of_ble_eq_true rfl) (ok_Q_errs G 1 M ) (fun M988 => ?_)
        show pm_R _ _ _ (268, [(0, .inr (.inr (1, 87)))], [], 119, pm_RF, M988) _ _
        exact ok_Q_clause_J268 G M988
      · exact ok_Q_clause_J268 G M
    · refine R_st ho 1 (q' := (257, [(0, .inr (.inr (1, 87)))], [.inl 10, .inr (.inr (1, 87))], 119, pm_RF, M)) rfl ?_
      refine R_callV ho mv_Q_isWord lk_1_263 rfl (As := [.inl 10]) (kd := 1) (a := 87) (st := []) rfl rfl (Nat.le_of_ble_eq_true rfl) rfl (by decide) (Nat.le_of_ble_eq_true rfl) (ok_Q_isWord G 10 M ) (fun r997 => ?_)
      show pm_R _ _ _ (260, [(0, .inr (.inr (1, 87)))], [.inl r997], 119, pm_RF, M) _ _
      refine R_if ho rfl (tgt := 268) rfl ?_
      refine R_ne ?_ ?_
      · refine R_st ho 2 (q' := (265, [(0, .inr (.inr (1, 87)))], [.inl 1, .inr (.inr (1, 87))], 119, pm_RF, M)) rfl ?_
        refine R_callV ho mv_Q_errs lk_1_242 rfl (As := [.inl 1]) (kd := 1) (a := 87) (st := []) rfl rfl (Nat.le_of_ble_eq_true rfl) rfl (by decide) (Nat.le_of_ble_eq_true rfl) (ok_Q_errs G 1 M ) (fun M998 => ?_)
        show pm_R _ _ _ (268, [(0, .inr (.inr (1, 87)))], [], 119, pm_RF, M998) _ _
        exact ok_Q_clause_J268 G M998
      · exact ok_Q_clause_J268 G M
  · exact ok_Q_clause_J268 G M
theorem ok_Q_clause_J73 (G : pm_G)     (M : pm_M) : pm_R G mt_Q_clause 5 (73, [(0, .inr (.inr (1, 87)))], [], 119, pm_RF, M) (f_Q_clause_J73 M) (pm_Zr mt_Q_clause pm_gV) := by
  have ho : pm_oG G mt_Q_clause := (oa_Q_clause).g G
  unfold f_Q_clause_J73
  refine R_st ho 2 (q' := (77, [(0, .inr (.inr (1, 87)))], [.inl (M 87 18)], 119, pm_RF, M)) rfl ?_
  refine R_if ho rfl (tgt := 81) rfl ?_
  refine R_le ?_ ?_
  · refine R_st ho 6 (q' := (93, [(0, .inr (.inr (1, 87)))], [.inl (M 87 29), .inl (M 87 28), .inr (.inr (20, 102))], 119, pm_RF, M)) rfl ?_
    refine R_iast ho rfl rfl ?_
    refine R_nm fun M975 => ?_
    refine R_st ho 6 (q' := (106, [(0, .inr (.inr (1, 87)))], [.inl (M975 87 34), .inl (M975 87 28), .inr (.inr (20, 103))], 119, pm_RF, M975)) rfl ?_
    refine R_iast ho rfl rfl ?_
    refine R_nm fun M976 => ?_
    refine R_st ho 5 (q' := (116, [(0, .inr (.inr (1, 87)))], [.inl (-1), .inl (M976 87 28), .inr (.inr (20, 104))], 119, pm_RF, M976)) rfl ?_
    refine R_iast ho rfl rfl ?_
    refine R_nm fun M977 => ?_
    refine R_st ho 5 (q' := (126, [(0, .inr (.inr (1, 87)))], [.inl (-1), .inl (M977 87 28), .inr (.inr (20, 105))], 119, pm_RF, M977)) rfl ?_
    refine R_iast ho rfl rfl ?_
    refine R_nm fun M978 => ?_
    refine R_st ho 1 (q' := (128, [(0, .inr (.inr (1, 87)))], [.inr (.inr (1, 87))], 119, pm_RF, M978)) rfl ?_
    refine R_callV ho mv_Q_next lk_1_248 rfl (As := []) (kd := 1) (a := 87) (st := []) rfl rfl (Nat.le_of_ble_eq_true rfl) rfl (by decide) (Nat.le_of_ble_eq_true rfl) (ok_Q_next G  M978 ) (fun M979 => ?_)
    show pm_R _ _ _ (131, [(0, .inr (.inr (1, 87)))], [], 119, pm_RF, M979) _ _
    refine R_st ho 3 (q' := (136, [(0, .inr (.inr (1, 87)))], [.inl 4, .inl (M979 87 29)], 119, pm_RF, M979)) rfl ?_
    refine R_ic ho rfl (tgt := 174) rfl ?_
    refine R_gt ?_ ?_
    · refine R_st ho 9 (q' := (190, [(0, .inr (.inr (1, 87)))], [.inl 8, .inl (M979 87 29), .inl 0, .inr (.inr (1, 87)), .inl (M979 87 28), .inr (.inr (20, 104))], 119, pm_RF, M979)) rfl ?_
      refine R_ic ho rfl (tgt := 198) rfl ?_
      refine R_ne ?_ ?_
      · refine R_st ho 2 (q' := (213, [(0, .inr (.inr (1, 87)))], [.inl 99, .inl 0, .inr (.inr (1, 87)), .inl (M979 87 28), .inr (.inr (20, 104))], 119, pm_RF, M979)) rfl ?_
        refine R_callV ho mv_Q_number lk_1_303 rfl (As := [.inl 0, .inl 99]) (kd := 1) (a := 87) (st := [.inl (M979 87 28), .inr (.inr (20, 104))]) rfl rfl (Nat.le_of_ble_eq_true rfl) rfl (by decide) (Nat.le_of_ble_eq_true rfl) (ok_Q_number G 0 99 M979 ) (fun r985 => ?_)
        show pm_R _ _ _ (216, [(0, .inr (.inr (1, 87)))], [.inl r985.1, .inl (M979 87 28), .inr (.inr (20, 104))], 119, pm_RF, r985.2) _ _
        refine R_iast ho rfl rfl ?_
        refine R_nm fun M986 => ?_
        refine R_st ho 3 (q' := (222, [(0, .inr (.inr (1, 87)))], [.inl 5, .inl (M986 87 29)], 119, pm_RF, M986)) rfl ?_
        refine R_ic ho rfl (tgt := 234) rfl ?_
        refine R_eq ?_ ?_
        · exact ok_Q_clause_J234 G M986
        · refine R_st ho 3 (q' := (231, [(0, .inr (.inr (1, 87)))], [.inl 7, .inl (M986 87 29)], 119, pm_RF, M986)) rfl ?_
          refine R_ic ho rfl (tgt := 295) rfl ?_
          refine R_ne ?_ ?_
          · exact ok_Q_clause_J234 G M986
          · exact ok_Q_clause_J295 G M986
      · refine R_st ho 3 (q' := (203, [(0, .inr (.inr (1, 87)))], [.inl 5, .inl (M979 87 29), .inl 0, .inr (.inr (1, 87)), .inl (M979 87 28), .inr (.inr (20, 104))], 119, pm_RF, M979)) rfl ?_
        refine R_ic ho rfl (tgt := 211) rfl ?_
        refine R_ne ?_ ?_
        · refine R_st ho 2 (q' := (213, [(0, .inr (.inr (1, 87)))], [.inl 11, .inl 0, .inr (.inr (1, 87)), .inl (M979 87 28), .inr (.inr (20, 104))], 119, pm_RF, M979)) rfl ?_
          refine R_callV ho mv_Q_number lk_1_303 rfl (As := [.inl 0, .inl 11]) (kd := 1) (a := 87) (st := [.inl (M979 87 28), .inr (.inr (20, 104))]) rfl rfl (Nat.le_of_ble_eq_true rfl) rfl (by decide) (Nat.le_of_ble_eq_true rfl) (ok_Q_number G 0 11 M979 ) (fun r999 => ?_)
          show pm_R _ _ _ (216, [(0, .inr (.inr (1, 87)))], [.inl r999.1, .inl (M979 87 28), .inr (.inr (20, 104))], 119, pm_RF, r999.2) _ _
          refine R_iast ho rfl rfl ?_
          refine R_nm fun M1000 => ?_
          refine R_st ho 3 (q' := (222, [(0, .inr (.inr (1, 87)))], [.inl 5, .inl (M1000 87 29)], 119, pm_RF, M1000)) rfl ?_
          refine R_ic ho rfl (tgt := 234) rfl ?_
          refine R_eq ?_ ?_
          · exact ok_Q_clause_J234 G M1000
          · refine R_st ho 3 (q' := (231, [(0, .inr (.inr (1, 87)))], [.inl 7, .inl (M1000 87 29)], 119, pm_RF, M1000)) rfl ?_
            refine R_ic ho rfl (tgt := 295) rfl ?_
            refine R_ne ?_ ?_
            · exact ok_Q_clause_J234 G M1000
            · exact ok_Q_clause_J295 G M1000
        · refine R_st ho 1 (q' := (213, [(0, .inr (.inr (1, 87)))], [.inl 7, .inl 0, .inr (.inr (1, 87)), .inl (M979 87 28), .inr (.inr (20, 104))], 119, pm_RF, M979)) rfl ?_
          refine R_callV ho mv_Q_number lk_1_303 rfl (As := [.inl 0, .inl 7]) (kd := 1) (a := 87) (st := [.inl (M979 87 28), .inr (.inr (20, 104))]) rfl rfl (Nat.le_of_ble_eq_true rfl) rfl (by decide) (Nat.le_of_ble_eq_true rfl) (ok_Q_number G 0 7 M979 ) (fun r1001 => ?_)
          show pm_R _ _ _ (216, [(0, .inr (.inr (1, 87)))], [.inl r1001.1, .inl (M979 87 28), .inr (.inr (20, 104))], 119, pm_RF, r1001.2) _ _
          refine R_iast ho rfl rfl ?_
          refine R_nm fun M1002 => ?_
          refine R_st ho 3 (q' := (222, [(0, .inr (.inr (1, 87)))], [.inl 5, .inl (M1002 87 29)], 119, pm_RF, M1002)) rfl ?_
          refine R_ic ho rfl (tgt := 234) rfl ?_
          refine R_eq ?_ ?_
          · exact ok_Q_clause_J234 G M1002
          · refine R_st ho 3 (q' := (231, [(0, .inr (.inr (1, 87)))], [.inl 7, .inl (M1002 87 29)], 119, pm_RF, M1002)) rfl ?_
            refine R_ic ho rfl (tgt := 295) rfl ?_
            refine R_ne ?_ ?_
            · exact ok_Q_clause_J234 G M1002
            · exact ok_Q_clause_J295 G M1002
    · refine R_st ho 4 (q' := (145, [(0, .inr (.inr (1, 87)))], [.inl 4, .inl (M979 87 29), .inr (.inr (1, 87))], 119, pm_RF, M979)) rfl ?_
      refine R_ic ho rfl (tgt := 152) rfl ?_
      refine R_ne ?_ ?_
      · refine R_st ho 2 (q' := (153, [(0, .inr (.inr (1, 87)))], [.inl 2, .inr (.inr (1, 87))], 119, pm_RF, M979)) rfl ?_
        refine R_callV ho mv_Q_opensFrame lk_1_245 rfl (As := [.inl 2]) (kd := 1) (a := 87) (st := []) rfl rfl (Nat.le_of_ble_eq_true rfl) rfl (by decide) (Nat.le_of_ble_eq_true rfl) (ok_Q_opensFrame G 2 M979 ) (fun M1003 => ?_)
        show pm_R _ _ _ (156, [(0, .inr (.inr (1, 87)))], [], 119, pm_RF, M1003) _ _
        refine R_st ho 4 (q' := (162, [(0, .inr (.inr (1, 87)))], [.inl 4, .inl (M1003 87 29), .inr (.inr (1, 87))], 119, pm_RF, M1003)) rfl ?_
        refine R_ic ho rfl (tgt := 169) rfl ?_
        refine R_ne ?_ ?_
        · refine R_st ho 3 (q' := (173, [(0, .inr (.inr (1, 87)))], [], 119, pm_RF, (pm_ms M1003 87 27 0))) rfl ?_
          refine R_nm fun M1004 => ?_
          exact R_end (v := none) rfl rfl rfl rfl
        · refine R_st ho 2 (q' := (173, [(0, .inr (.inr (1, 87)))], [], 119, pm_RF, (pm_ms M1003 87 27 1))) rfl ?_
          refine R_nm fun M1005 => ?_
          exact R_end (v := none) rfl rfl rfl rfl
      · refine R_st ho 1 (q' := (153, [(0, .inr (.inr (1, 87)))], [.inl 1, .inr (.inr (1, 87))], 119, pm_RF, M979)) rfl ?_
        refine R_callV ho mv_Q_opensFrame lk_1_245 rfl (As := [.inl 1]) (kd := 1) (a := 87) (st := []) rfl rfl (Nat.le_of_ble_eq_true rfl) rfl (by decide) (Nat.le_of_ble_eq_true rfl) (ok_Q_opensFrame G 1 M979 ) (fun M1006 => ?_)
        show pm_R _ _ _ (156, [(0, .inr (.inr (1, 87)))], [], 119, pm_RF, M1006) _ _
        refine R_st ho 4 (q' := (162, [(0, .inr (.inr (1, 87)))], [.inl 4, .inl (M1006 87 29), .inr (.inr (1, 87))], 119, pm_RF, M1006)) rfl ?_
        refine R_ic ho rfl (tgt := 169) rfl ?_
        refine R_ne ?_ ?_
        · refine R_st ho 3 (q' := (173, [(0, .inr (.inr (1, 87)))], [], 119, pm_RF, (pm_ms M1006 87 27 0))) rfl ?_
          refine R_nm fun M1007 => ?_
          exact R_end (v := none) rfl rfl rfl rfl
        · refine R_st ho 2 (q' := (173, [(0, .inr (.inr (1, 87)))], [], 119, pm_RF, (pm_ms M1006 87 27 1))) rfl ?_
          refine R_nm fun M1008 => ?_
          exact R_end (v := none) rfl rfl rfl rfl
  · exact R_end (v := none) rfl rfl rfl rfl
theorem ok_Q_clause_J58 (G : pm_G)     (M : pm_M) : pm_R G mt_Q_clause 5 (58, [(0, .inr (.inr (1, 87)))], [], 119, pm_RF, M) (f_Q_clause_J58 M) (pm_Zr mt_Q_clause pm_gV) := by
  have ho : pm_oG G mt_Q_clause := (oa_Q_clause).g G
  unfold f_Q_clause_J58
  refine R_st ho 3 (q' := (64, [(0, .inr (.inr (1, 87)))], [.inl 24, .inl (M 87 28)], 119, pm_RF, M)) rfl ?_
  refine R_ic ho rfl (tgt := 73) rfl ?_
  refine R_ne ?_ ?_
  · refine R_st ho 2 (q' := (70, [(0, .inr (.inr (1, 87)))], [.inl 6, .inr (.inr (1, 87))], 119, pm_RF, M)) rfl ?_
    refine R_callV ho mv_Q_errs lk_1_242 rfl (As := [.inl 6]) (kd := 1) (a := 87) (st := []) rfl rfl (Nat.le_of_ble_eq_true rfl) rfl (by decide) (Nat.le_of_ble_eq_true rfl) (ok_Q_errs G 6 M ) (fun M974 => ?_)
    show pm_R _ _ _ (73, [(0, .inr (.inr (1, 87)))], [], 119, pm_RF, M974) _ _
    exact ok_Q_clause_J73 G M974
  · exact ok_Q_clause_J73 G M
theorem ok_Q_clause (G : pm_G)  (M : pm_M)  : pm_R G mt_Q_clause 5 (0, [(0, .inr (.inr (1, 87)))], [], 119, pm_RF, M) (f_Q_clause M) (pm_Zr mt_Q_clause pm_gV) := by
  have ho : pm_oG G mt_Q_clause := (oa_Q_clause).g G
  unfold f_Q_clause
  refine R_st ho 3 (q' := (5, [(0, .inr (.inr (1, 87)))], [.inl 1, .inl (M 87 16)], 119, pm_RF, M)) rfl ?_
  refine R_ic ho rfl (tgt := 17) rfl ?_
  refine R_ne ?_ ?_
  · refine R_st ho 3 (q' := (14, [(0, .inr (.inr (1, 87)))], [.inl 8, .inl (M 87 17)], 119, pm_RF, M)) rfl ?_
    refine R_ic ho rfl (tgt := 23) rfl ?_
    refine R_le ?_ ?_
    · refine R_st ho 4 (q' := (31, [(0, .inr (.inr (1, 87)))], [], 119, pm_RF, (pm_ms M 87 29 (M 87 17)))) rfl ?_
      refine R_nm fun M973 => ?_
      refine R_st ho 3 (q' := (36, [(0, .inr (.inr (1, 87)))], [.inl 4, .inl (M973 87 29)], 119, pm_RF, M973)) rfl ?_
      refine R_ic ho rfl (tgt := 58) rfl ?_
      refine R_gt ?_ ?_
      · exact ok_Q_clause_J58 G M973
      · refine R_st ho 3 (q' := (44, [(0, .inr (.inr (1, 87)))], [.inl (M973 87 29), .inr (.inr (1, 87))], 119, pm_RF, M973)) rfl ?_
        refine R_callV ho mv_Q_wasTold lk_1_300 rfl (As := [.inl (M973 87 29)]) (kd := 1) (a := 87) (st := []) rfl rfl (Nat.le_of_ble_eq_true rfl) rfl (by decide) (Nat.le_of_ble_eq_true rfl) (ok_Q_wasTold G (M973 87 29) M973 ) (fun r1010 => ?_)
        show pm_R _ _ _ (47, [(0, .inr (.inr (1, 87)))], [.inl r1010], 119, pm_RF, M973) _ _
        refine R_if ho rfl (tgt := 58) rfl ?_
        refine R_eq ?_ ?_
        · exact ok_Q_clause_J58 G M973
        · refine R_st ho 2 (q' := (52, [(0, .inr (.inr (1, 87)))], [.inl 4, .inr (.inr (1, 87))], 119, pm_RF, M973)) rfl ?_
          refine R_callV ho mv_Q_errs lk_1_242 rfl (As := [.inl 4]) (kd := 1) (a := 87) (st := []) rfl rfl (Nat.le_of_ble_eq_true rfl) rfl (by decide) (Nat.le_of_ble_eq_true rfl) (ok_Q_errs G 4 M973 ) (fun M1011 => ?_)
          show pm_R _ _ _ (55, [(0, .inr (.inr (1, 87)))], [], 119, pm_RF, M1011) _ _
          refine R_st ho 1 (q' := (73, [(0, .inr (.inr (1, 87)))], [], 119, pm_RF, M1011)) rfl ?_
          exact ok_Q_clause_J73 G M1011
    · refine R_st ho 2 (q' := (19, [(0, .inr (.inr (1, 87)))], [.inl 1, .inr (.inr (1, 87))], 119, pm_RF, M)) rfl ?_
      refine R_callV ho mv_Q_errs lk_1_242 rfl (As := [.inl 1]) (kd := 1) (a := 87) (st := []) rfl rfl (Nat.le_of_ble_eq_true rfl) rfl (by decide) (Nat.le_of_ble_eq_true rfl) (ok_Q_errs G 1 M ) (fun M1012 => ?_)
      show pm_R _ _ _ (22, [(0, .inr (.inr (1, 87)))], [], 119, pm_RF, M1012) _ _
      exact R_end (v := none) rfl rfl rfl rfl
  · refine R_st ho 2 (q' := (19, [(0, .inr (.inr (1, 87)))], [.inl 1, .inr (.inr (1, 87))], 119, pm_RF, M)) rfl ?_
    refine R_callV ho mv_Q_errs lk_1_242 rfl (As := [.inl 1]) (kd := 1) (a := 87) (st := []) rfl rfl (Nat.le_of_ble_eq_true rfl) rfl (by decide) (Nat.le_of_ble_eq_true rfl) (ok_Q_errs G 1 M ) (fun M1013 => ?_)
    show pm_R _ _ _ (22, [(0, .inr (.inr (1, 87)))], [], 119, pm_RF, M1013) _ _
    exact R_end (v := none) rfl rfl rfl rfl
theorem ok_Q_text_L74 (G : pm_G)    : ∀ (n_ : Nat) (M : pm_M), pm_R G mt_Q_text 6 (74, [(0, .inr (.inr (1, 87)))], [], 119, pm_RF, M) (f_Q_text_L74 n_ M) (fun e_ q_ => q_ = (167, [(0, .inr (.inr (1, 87)))], [], 119, pm_RF, e_)) := by
  have ho : pm_oG G mt_Q_text := (oa_Q_text).g G
  intro n_
  induction n_ with
  | zero => intro _; exact R_none
  | succ n_ ih_ =>
    intro M
    rw [f_Q_text_L74]
    refine R_st ho 2 (q' := (78, [(0, .inr (.inr (1, 87)))], [.inl (M 87 18)], 119, pm_RF, M)) rfl ?_
    refine R_if ho rfl (tgt := 167) rfl ?_
    refine R_ne ?_ ?_
    · refine R_st ho 3 (q' := (86, [(0, .inr (.inr (1, 87)))], [.inl 4, .inl (M 87 27)], 119, pm_RF, M)) rfl ?_
      refine R_ic ho rfl (tgt := 96) rfl ?_
      refine R_ne ?_ ?_
      · refine R_st ho 2 (q' := (93, [(0, .inr (.inr (1, 87)))], [.inl (M 87 16)], 119, pm_RF, M)) rfl ?_
        refine R_if ho rfl (tgt := 167) rfl ?_
        refine R_eq ?_ ?_
        · exact R_ret rfl
        · refine R_st ho 2 (q' := (100, [(0, .inr (.inr (1, 87)))], [.inl (M 87 27)], 119, pm_RF, M)) rfl ?_
          refine R_cs (fun z_ => (100, [(0, .inr (.inr (1, 87)))], [.inl z_], 119, pm_RF, M)) ?_ (fun h1020 => ?_)
          · refine R_swk ho rfl (by decide) rfl (tgt := 132) rfl (by decide +kernel) ?_
            refine R_st ho 1 (q' := (133, [(0, .inr (.inr (1, 87)))], [.inr (.inr (1, 87))], 119, pm_RF, M)) rfl ?_
            refine R_callV ho mv_Q_asks lk_1_307 rfl (As := []) (kd := 1) (a := 87) (st := []) rfl rfl (Nat.le_of_ble_eq_true rfl) rfl (by decide) (Nat.le_of_ble_eq_true rfl) (ok_Q_asks G  M ) (fun M868 => ?_)
            show pm_R _ _ _ (136, [(0, .inr (.inr (1, 87)))], [], 119, pm_RF, M868) _ _
            refine R_st ho 1 (q' := (74, [(0, .inr (.inr (1, 87)))], [], 119, pm_RF, M868)) rfl ?_
            exact ih_ M868
          refine R_cs (fun z_ => (100, [(0, .inr (.inr (1, 87)))], [.inl z_], 119, pm_RF, M)) ?_ (fun h1021 => ?_)
          · refine R_swk ho rfl (by decide) rfl (tgt := 139) rfl (by decide +kernel) ?_
            refine R_st ho 1 (q' := (140, [(0, .inr (.inr (1, 87)))], [.inr (.inr (1, 87))], 119, pm_RF, M)) rfl ?_
            refine R_callV ho mv_Q_begins lk_1_310 rfl (As := []) (kd := 1) (a := 87) (st := []) rfl rfl (Nat.le_of_ble_eq_true rfl) rfl (by decide) (Nat.le_of_ble_eq_true rfl) (ok_Q_begins G  M ) (fun M901 => ?_)
            show pm_R _ _ _ (143, [(0, .inr (.inr (1, 87)))], [], 119, pm_RF, M901) _ _
            refine R_st ho 1 (q' := (74, [(0, .inr (.inr (1, 87)))], [], 119, pm_RF, M901)) rfl ?_
            exact ih_ M901
          refine R_cs (fun z_ => (100, [(0, .inr (.inr (1, 87)))], [.inl z_], 119, pm_RF, M)) ?_ (fun h1022 => ?_)
          · refine R_swk ho rfl (by decide) rfl (tgt := 146) rfl (by decide +kernel) ?_
            refine R_st ho 1 (q' := (147, [(0, .inr (.inr (1, 87)))], [.inr (.inr (1, 87))], 119, pm_RF, M)) rfl ?_
            refine R_callV ho mv_Q_goesOn lk_1_313 rfl (As := []) (kd := 1) (a := 87) (st := []) rfl rfl (Nat.le_of_ble_eq_true rfl) rfl (by decide) (Nat.le_of_ble_eq_true rfl) (ok_Q_goesOn G  M ) (fun M954 => ?_)
            show pm_R _ _ _ (150, [(0, .inr (.inr (1, 87)))], [], 119, pm_RF, M954) _ _
            refine R_st ho 1 (q' := (74, [(0, .inr (.inr (1, 87)))], [], 119, pm_RF, M954)) rfl ?_
            exact ih_ M954
          refine R_cs (fun z_ => (100, [(0, .inr (.inr (1, 87)))], [.inl z_], 119, pm_RF, M)) ?_ (fun h1023 => ?_)
          · refine R_swk ho rfl (by decide) rfl (tgt := 153) rfl (by decide +kernel) ?_
            refine R_st ho 1 (q' := (154, [(0, .inr (.inr (1, 87)))], [.inr (.inr (1, 87))], 119, pm_RF, M)) rfl ?_
            refine R_callV ho mv_Q_asksOn lk_1_316 rfl (As := []) (kd := 1) (a := 87) (st := []) rfl rfl (Nat.le_of_ble_eq_true rfl) rfl (by decide) (Nat.le_of_ble_eq_true rfl) (ok_Q_asksOn G  M ) (fun M972 => ?_)
            show pm_R _ _ _ (157, [(0, .inr (.inr (1, 87)))], [], 119, pm_RF, M972) _ _
            refine R_st ho 1 (q' := (74, [(0, .inr (.inr (1, 87)))], [], 119, pm_RF, M972)) rfl ?_
            exact ih_ M972
          refine R_swd ho rfl (by omega) rfl (by decide +kernel) ?_
          refine R_st ho 1 (q' := (161, [(0, .inr (.inr (1, 87)))], [.inr (.inr (1, 87))], 119, pm_RF, M)) rfl ?_
          refine R_callV ho mv_Q_clause lk_1_319 rfl (As := []) (kd := 1) (a := 87) (st := []) rfl rfl (Nat.le_of_ble_eq_true rfl) rfl (by decide) (Nat.le_of_ble_eq_true rfl) (ok_Q_clause G  M ) (fun M1014 => ?_)
          show pm_R _ _ _ (164, [(0, .inr (.inr (1, 87)))], [], 119, pm_RF, M1014) _ _
          refine R_st ho 1 (q' := (74, [(0, .inr (.inr (1, 87)))], [], 119, pm_RF, M1014)) rfl ?_
          exact ih_ M1014
      · refine R_st ho 2 (q' := (100, [(0, .inr (.inr (1, 87)))], [.inl (M 87 27)], 119, pm_RF, M)) rfl ?_
        refine R_cs (fun z_ => (100, [(0, .inr (.inr (1, 87)))], [.inl z_], 119, pm_RF, M)) ?_ (fun h1024 => ?_)
        · refine R_swk ho rfl (by decide) rfl (tgt := 132) rfl (by decide +kernel) ?_
          refine R_st ho 1 (q' := (133, [(0, .inr (.inr (1, 87)))], [.inr (.inr (1, 87))], 119, pm_RF, M)) rfl ?_
          refine R_callV ho mv_Q_asks lk_1_307 rfl (As := []) (kd := 1) (a := 87) (st := []) rfl rfl (Nat.le_of_ble_eq_true rfl) rfl (by decide) (Nat.le_of_ble_eq_true rfl) (ok_Q_asks G  M ) (fun M1015 => ?_)
          show pm_R _ _ _ (136, [(0, .inr (.inr (1, 87)))], [], 119, pm_RF, M1015) _ _
          refine R_st ho 1 (q' := (74, [(0, .inr (.inr (1, 87)))], [], 119, pm_RF, M1015)) rfl ?_
          exact ih_ M1015
        refine R_cs (fun z_ => (100, [(0, .inr (.inr (1, 87)))], [.inl z_], 119, pm_RF, M)) ?_ (fun h1025 => ?_)
        · refine R_swk ho rfl (by decide) rfl (tgt := 139) rfl (by decide +kernel) ?_
          refine R_st ho 1 (q' := (140, [(0, .inr (.inr (1, 87)))], [.inr (.inr (1, 87))], 119, pm_RF, M)) rfl ?_
          refine R_callV ho mv_Q_begins lk_1_310 rfl (As := []) (kd := 1) (a := 87) (st := []) rfl rfl (Nat.le_of_ble_eq_true rfl) rfl (by decide) (Nat.le_of_ble_eq_true rfl) (ok_Q_begins G  M ) (fun M1016 => ?_)
          show pm_R _ _ _ (143, [(0, .inr (.inr (1, 87)))], [], 119, pm_RF, M1016) _ _
          refine R_st ho 1 (q' := (74, [(0, .inr (.inr (1, 87)))], [], 119, pm_RF, M1016)) rfl ?_
          exact ih_ M1016
        refine R_cs (fun z_ => (100, [(0, .inr (.inr (1, 87)))], [.inl z_], 119, pm_RF, M)) ?_ (fun h1026 => ?_)
        · refine R_swk ho rfl (by decide) rfl (tgt := 146) rfl (by decide +kernel) ?_
          refine R_st ho 1 (q' := (147, [(0, .inr (.inr (1, 87)))], [.inr (.inr (1, 87))], 119, pm_RF, M)) rfl ?_
          refine R_callV ho mv_Q_goesOn lk_1_313 rfl (As := []) (kd := 1) (a := 87) (st := []) rfl rfl (Nat.le_of_ble_eq_true rfl) rfl (by decide) (Nat.le_of_ble_eq_true rfl) (ok_Q_goesOn G  M ) (fun M1017 => ?_)
          show pm_R _ _ _ (150, [(0, .inr (.inr (1, 87)))], [], 119, pm_RF, M1017) _ _
          refine R_st ho 1 (q' := (74, [(0, .inr (.inr (1, 87)))], [], 119, pm_RF, M1017)) rfl ?_
          exact ih_ M1017
        refine R_cs (fun z_ => (100, [(0, .inr (.inr (1, 87)))], [.inl z_], 119, pm_RF, M)) ?_ (fun h1027 => ?_)
        · refine R_swk ho rfl (by decide) rfl (tgt := 153) rfl (by decide +kernel) ?_
          refine R_st ho 1 (q' := (154, [(0, .inr (.inr (1, 87)))], [.inr (.inr (1, 87))], 119, pm_RF, M)) rfl ?_
          refine R_callV ho mv_Q_asksOn lk_1_316 rfl (As := []) (kd := 1) (a := 87) (st := []) rfl rfl (Nat.le_of_ble_eq_true rfl) rfl (by decide) (Nat.le_of_ble_eq_true rfl) (ok_Q_asksOn G  M ) (fun M1018 => ?_)
          show pm_R _ _ _ (157, [(0, .inr (.inr (1, 87)))], [], 119, pm_RF, M1018) _ _
          refine R_st ho 1 (q' := (74, [(0, .inr (.inr (1, 87)))], [], 119, pm_RF, M1018)) rfl ?_
          exact ih_ M1018
        refine R_swd ho rfl (by omega) rfl (by decide +kernel) ?_
        refine R_st ho 1 (q' := (161, [(0, .inr (.inr (1, 87)))], [.inr (.inr (1, 87))], 119, pm_RF, M)) rfl ?_
        refine R_callV ho mv_Q_clause lk_1_319 rfl (As := []) (kd := 1) (a := 87) (st := []) rfl rfl (Nat.le_of_ble_eq_true rfl) rfl (by decide) (Nat.le_of_ble_eq_true rfl) (ok_Q_clause G  M ) (fun M1019 => ?_)
        show pm_R _ _ _ (164, [(0, .inr (.inr (1, 87)))], [], 119, pm_RF, M1019) _ _
        refine R_st ho 1 (q' := (74, [(0, .inr (.inr (1, 87)))], [], 119, pm_RF, M1019)) rfl ?_
        exact ih_ M1019
    · exact R_ret rfl
theorem ok_Q_text_L211 (G : pm_G)    : ∀ (n_ : Nat) (y1 : Int) (y2 : Int) (M : pm_M), pm_R G mt_Q_text 6 (211, [(0, .inr (.inr (1, 87))), (1, .inl y1), (2, .inl y2)], [], 119, pm_RF, M) (f_Q_text_L211 n_ y1 y2 M) (fun e_ q_ => q_ = (299, [(0, .inr (.inr (1, 87))), (1, .inl e_.1)], [], 119, pm_RF, e_.2)) := by
  have ho : pm_oG G mt_Q_text := (oa_Q_text).g G
  intro n_
  induction n_ with
  | zero => intro _ _ _; exact R_none
  | succ n_ ih_ =>
    intro y1 y2 M
    rw [f_Q_text_L211]
    refine R_st ho 3 (q' := (216, [(0, .inr (.inr (1, 87))), (1, .inl y1), (2, .inl y2)], [.inl (M 87 28), .inl y2], 119, pm_RF, M)) rfl ?_
    refine R_ic ho rfl (tgt := 299) rfl ?_
    refine R_ge ?_ ?_
    · refine R_pk [0, 1] rfl ?_
      exact R_ret rfl
    · refine R_st ho 10 (q' := (234, [(0, .inr (.inr (1, 87))), (1, .inl y1), (2, .inl y2)], [.inl y2, .inr (.inr (20, 102)), .inl (i_ad (i_ml 24 y1) y2), .inr (.inr (20, 92))], 119, pm_RF, M)) rfl ?_
      refine R_iald ho rfl rfl ?_
      refine R_iast ho rfl rfl ?_
      refine R_nm fun M1032 => ?_
      refine R_st ho 13 (q' := (256, [(0, .inr (.inr (1, 87))), (1, .inl y1), (2, .inl y2)], [.inl y2, .inr (.inr (20, 103)), .inl (i_ml 400 y1), .inl (i_ad (i_ml 24 y1) y2), .inr (.inr (20, 93))], 119, pm_RF, M1032)) rfl ?_
      refine R_iald ho rfl rfl ?_
      refine R_st ho 1 (q' := (258, [(0, .inr (.inr (1, 87))), (1, .inl y1), (2, .inl y2)], [.inl (i_ad (i_ml 400 y1) (M1032 103 (y2).toNat)), .inl (i_ad (i_ml 24 y1) y2), .inr (.inr (20, 93))], 119, pm_RF, M1032)) rfl ?_
      refine R_iast ho rfl rfl ?_
      refine R_nm fun M1033 => ?_
      refine R_st ho 10 (q' := (274, [(0, .inr (.inr (1, 87))), (1, .inl y1), (2, .inl y2)], [.inl y2, .inr (.inr (20, 104)), .inl (i_ad (i_ml 24 y1) y2), .inr (.inr (20, 94))], 119, pm_RF, M1033)) rfl ?_
      refine R_iald ho rfl rfl ?_
      refine R_iast ho rfl rfl ?_
      refine R_nm fun M1034 => ?_
      refine R_st ho 10 (q' := (291, [(0, .inr (.inr (1, 87))), (1, .inl y1), (2, .inl y2)], [.inl y2, .inr (.inr (20, 105)), .inl (i_ad (i_ml 24 y1) y2), .inr (.inr (20, 95))], 119, pm_RF, M1034)) rfl ?_
      refine R_iald ho rfl rfl ?_
      refine R_iast ho rfl rfl ?_
      refine R_nm fun M1035 => ?_
      refine R_st ho 2 (q' := (211, [(2, .inl (i_ad y2 1)), (0, .inr (.inr (1, 87))), (1, .inl y1)], [], 119, pm_RF, M1035)) rfl ?_
      refine R_pk [0, 1, 2] rfl ?_
      exact ih_ y1 (i_ad y2 1) M1035
theorem ok_Q_text_L301 (G : pm_G)    : ∀ (n_ : Nat) (y1 : Int) (y2 : Int) (M : pm_M), pm_R G mt_Q_text 6 (301, [(0, .inr (.inr (1, 87))), (1, .inl y1), (2, .inl y2)], [], 119, pm_RF, M) (f_Q_text_L301 n_ y1 y2 M) (fun e_ q_ => q_ = (351, [(0, .inr (.inr (1, 87))), (1, .inl e_.1)], [], 119, pm_RF, e_.2)) := by
  have ho : pm_oG G mt_Q_text := (oa_Q_text).g G
  intro n_
  induction n_ with
  | zero => intro _ _ _; exact R_none
  | succ n_ ih_ =>
    intro y1 y2 M
    rw [f_Q_text_L301]
    refine R_st ho 3 (q' := (306, [(0, .inr (.inr (1, 87))), (1, .inl y1), (2, .inl y2)], [.inl (M 87 34), .inl y2], 119, pm_RF, M)) rfl ?_
    refine R_ic ho rfl (tgt := 351) rfl ?_
    refine R_ge ?_ ?_
    · refine R_pk [0, 1] rfl ?_
      exact R_ret rfl
    · refine R_st ho 10 (q' := (325, [(0, .inr (.inr (1, 87))), (1, .inl y1), (2, .inl y2)], [.inl y2, .inr (.inr (20, 106)), .inl (i_ad (i_ml 400 y1) y2), .inr (.inr (20, 96))], 119, pm_RF, M)) rfl ?_
      refine R_iald ho rfl rfl ?_
      refine R_iast ho rfl rfl ?_
      refine R_nm fun M1037 => ?_
      refine R_st ho 10 (q' := (343, [(0, .inr (.inr (1, 87))), (1, .inl y1), (2, .inl y2)], [.inl y2, .inr (.inr (20, 107)), .inl (i_ad (i_ml 400 y1) y2), .inr (.inr (20, 97))], 119, pm_RF, M1037)) rfl ?_
      refine R_iald ho rfl rfl ?_
      refine R_iast ho rfl rfl ?_
      refine R_nm fun M1038 => ?_
      refine R_st ho 2 (q' := (301, [(2, .inl (i_ad y2 1)), (0, .inr (.inr (1, 87))), (1, .inl y1)], [], 119, pm_RF, M1038)) rfl ?_
      refine R_pk [0, 1, 2] rfl ?_
      exact ih_ y1 (i_ad y2 1) M1038
theorem ok_Q_text (G : pm_G)  (M : pm_M)  : pm_R G mt_Q_text 6 (0, [(0, .inr (.inr (1, 87)))], [], 119, pm_RF, M) (f_Q_text M) (pm_Zr mt_Q_text pm_gI) := by
  have ho : pm_oG G mt_Q_text := (oa_Q_text).g G
  unfold f_Q_text
  refine R_st ho 5 (q' := (7, [(0, .inr (.inr (1, 87)))], [.inl 4, .inl (M 88 2)], 119, pm_RF, M)) rfl ?_
  refine R_ic ho rfl (tgt := 12) rfl ?_
  refine R_ne ?_ ?_
  · refine R_st ho 1 (q' := (11, [(0, .inr (.inr (1, 87)))], [.inl (-1)], 119, pm_RF, M)) rfl ?_
    exact R_end (v := some (.inl (-1))) rfl (Or.inl rfl) rfl rfl
  · refine R_st ho 4 (q' := (20, [(0, .inr (.inr (1, 87)))], [], 119, pm_RF, (pm_ms M 87 13 (M 87 3)))) rfl ?_
    refine R_nm fun M802 => ?_
    refine R_st ho 3 (q' := (25, [(0, .inr (.inr (1, 87)))], [], 119, pm_RF, (pm_ms M802 87 3 0))) rfl ?_
    refine R_nm fun M803 => ?_
    refine R_st ho 3 (q' := (30, [(0, .inr (.inr (1, 87)))], [], 119, pm_RF, (pm_ms M803 87 14 0))) rfl ?_
    refine R_nm fun M804 => ?_
    refine R_st ho 3 (q' := (35, [(0, .inr (.inr (1, 87)))], [], 119, pm_RF, (pm_ms M804 87 18 0))) rfl ?_
    refine R_nm fun M805 => ?_
    refine R_st ho 3 (q' := (40, [(0, .inr (.inr (1, 87)))], [], 119, pm_RF, (pm_ms M805 87 19 (-1)))) rfl ?_
    refine R_nm fun M806 => ?_
    refine R_st ho 3 (q' := (45, [(0, .inr (.inr (1, 87)))], [], 119, pm_RF, (pm_ms M806 87 20 0))) rfl ?_
    refine R_nm fun M807 => ?_
    refine R_st ho 3 (q' := (50, [(0, .inr (.inr (1, 87)))], [], 119, pm_RF, (pm_ms M807 87 21 0))) rfl ?_
    refine R_nm fun M808 => ?_
    refine R_st ho 3 (q' := (55, [(0, .inr (.inr (1, 87)))], [], 119, pm_RF, (pm_ms M808 87 24 0))) rfl ?_
    refine R_nm fun M809 => ?_
    refine R_st ho 3 (q' := (60, [(0, .inr (.inr (1, 87)))], [], 119, pm_RF, (pm_ms M809 87 27 4))) rfl ?_
    refine R_nm fun M810 => ?_
    refine R_st ho 3 (q' := (65, [(0, .inr (.inr (1, 87)))], [], 119, pm_RF, (pm_ms M810 87 28 0))) rfl ?_
    refine R_nm fun M811 => ?_
    refine R_st ho 3 (q' := (70, [(0, .inr (.inr (1, 87)))], [], 119, pm_RF, (pm_ms M811 87 34 0))) rfl ?_
    refine R_nm fun M812 => ?_
    refine R_st ho 1 (q' := (71, [(0, .inr (.inr (1, 87)))], [.inr (.inr (1, 87))], 119, pm_RF, M812)) rfl ?_
    refine R_callV ho mv_Q_next lk_1_248 rfl (As := []) (kd := 1) (a := 87) (st := []) rfl rfl (Nat.le_of_ble_eq_true rfl) rfl (by decide) (Nat.le_of_ble_eq_true rfl) (ok_Q_next G  M812 ) (fun M855 => ?_)
    show pm_R _ _ _ (74, [(0, .inr (.inr (1, 87)))], [], 119, pm_RF, M855) _ _
    refine R_bind (ok_Q_text_L74 G pm_F M855) ?_
    intro e1028 q_ hq_
    obtain rfl : q_ = (167, [(0, .inr (.inr (1, 87)))], [], 119, pm_RF, e1028) := hq_
    refine R_st ho 4 (q' := (175, [(0, .inr (.inr (1, 87)))], [], 119, pm_RF, (pm_ms e1028 87 4 (e1028 87 18)))) rfl ?_
    refine R_nm fun M1029 => ?_
    refine R_st ho 4 (q' := (183, [(0, .inr (.inr (1, 87)))], [], 119, pm_RF, (pm_ms M1029 87 5 (M1029 87 19)))) rfl ?_
    refine R_nm fun M1030 => ?_
    refine R_st ho 2 (q' := (187, [(0, .inr (.inr (1, 87)))], [.inl (M1030 87 18)], 119, pm_RF, M1030)) rfl ?_
    refine R_if ho rfl (tgt := 192) rfl ?_
    refine R_le ?_ ?_
    · refine R_st ho 10 (q' := (208, [(1, .inl (M1030 88 2)), (0, .inr (.inr (1, 87)))], [.inl (M1030 87 28), .inl (M1030 88 2), .inr (.inr (20, 91))], 119, pm_RF, M1030)) rfl ?_
      refine R_iast ho rfl rfl ?_
      refine R_nm fun M1031 => ?_
      refine R_st ho 2 (q' := (211, [(2, .inl 0), (1, .inl (M1030 88 2)), (0, .inr (.inr (1, 87)))], [], 119, pm_RF, M1031)) rfl ?_
      refine R_pk [0, 1, 2] rfl ?_
      refine R_bind (ok_Q_text_L211 G pm_F (M1030 88 2) 0 M1031) ?_
      intro e1036 q_ hq_
      obtain rfl : q_ = (299, [(0, .inr (.inr (1, 87))), (1, .inl e1036.1)], [], 119, pm_RF, e1036.2) := hq_
      refine R_st ho 2 (q' := (301, [(2, .inl 0), (0, .inr (.inr (1, 87))), (1, .inl e1036.1)], [], 119, pm_RF, e1036.2)) rfl ?_
      refine R_pk [0, 1, 2] rfl ?_
      refine R_bind (ok_Q_text_L301 G pm_F e1036.1 0 e1036.2) ?_
      intro e1039 q_ hq_
      obtain rfl : q_ = (351, [(0, .inr (.inr (1, 87))), (1, .inl e1039.1)], [], 119, pm_RF, e1039.2) := hq_
      refine R_st ho 8 (q' := (361, [(0, .inr (.inr (1, 87))), (1, .inl e1039.1)], [], 119, pm_RF, (pm_ms e1039.2 88 2 (i_ad (e1039.2 88 2) 1)))) rfl ?_
      refine R_nm fun M1040 => ?_
      refine R_st ho 1 (q' := (362, [(0, .inr (.inr (1, 87))), (1, .inl e1039.1)], [.inl e1039.1], 119, pm_RF, M1040)) rfl ?_
      exact R_end (v := some (.inl e1039.1)) rfl (Or.inl rfl) rfl rfl
    · refine R_st ho 1 (q' := (191, [(0, .inr (.inr (1, 87)))], [.inl (-1)], 119, pm_RF, M1030)) rfl ?_
      exact R_end (v := some (.inl (-1))) rfl (Or.inl rfl) rfl rfl
theorem ok_Q_fault (G : pm_G) (x1 : Int) (M : pm_M)  : pm_R G mt_Q_fault 1 (0, [(0, .inr (.inr (1, 87))), (1, .inl x1)], [], 119, pm_RF, M) (f_Q_fault x1 M) (pm_Zr mt_Q_fault (pm_gi M)) := by
  have ho : pm_oG G mt_Q_fault := (oa_Q_fault).g G
  unfold f_Q_fault
  refine R_st ho 1 (q' := (1, [(0, .inr (.inr (1, 87))), (1, .inl x1)], [.inl x1], 119, pm_RF, M)) rfl ?_
  refine R_if ho rfl (tgt := 11) rfl ?_
  refine R_ne ?_ ?_
  · refine R_st ho 3 (q' := (24, [(0, .inr (.inr (1, 87))), (1, .inl x1)], [.inl (M 87 4)], 119, pm_RF, M)) rfl ?_
    exact R_end (v := some (.inl (M 87 4))) rfl (Or.inl rfl) rfl rfl
  · refine R_st ho 2 (q' := (13, [(0, .inr (.inr (1, 87))), (1, .inl x1)], [.inl 1, .inl x1], 119, pm_RF, M)) rfl ?_
    refine R_ic ho rfl (tgt := 23) rfl ?_
    refine R_ne ?_ ?_
    · refine R_st ho 3 (q' := (24, [(0, .inr (.inr (1, 87))), (1, .inl x1)], [.inl (M 87 5)], 119, pm_RF, M)) rfl ?_
      exact R_end (v := some (.inl (M 87 5))) rfl (Or.inl rfl) rfl rfl
    · refine R_st ho 1 (q' := (24, [(0, .inr (.inr (1, 87))), (1, .inl x1)], [.inl (-1)], 119, pm_RF, M)) rfl ?_
      exact R_end (v := some (.inl (-1))) rfl (Or.inl rfl) rfl rfl
theorem ok_Q_by (G : pm_G) (x1 : Int) (M : pm_M)  : pm_R G mt_Q_by 2 (0, [(0, .inr (.inr (1, 87))), (1, .inl x1)], [], 119, pm_RF, M) (f_Q_by x1 M) (pm_Zr mt_Q_by pm_gI) := by
  have ho : pm_oG G mt_Q_by := (oa_Q_by).g G
  unfold f_Q_by
  refine R_st ho 2 (q' := (2, [(0, .inr (.inr (1, 87))), (1, .inl x1)], [.inl (-1), .inl x1], 119, pm_RF, M)) rfl ?_
  refine R_ic ho rfl (tgt := 23) rfl ?_
  refine R_eq ?_ ?_
  · refine R_st ho 5 (q' := (30, [(0, .inr (.inr (1, 87))), (1, .inl x1)], [], 119, pm_RF, (pm_ms M 88 3 x1))) rfl ?_
    refine R_nm fun M1041 => ?_
    refine R_st ho 1 (q' := (31, [(0, .inr (.inr (1, 87))), (1, .inl x1)], [.inl 1], 119, pm_RF, M1041)) rfl ?_
    exact R_end (v := some (.inl 1)) rfl (Or.inr ⟨rfl, Or.inr rfl⟩) rfl rfl
  · refine R_st ho 8 (q' := (15, [(0, .inr (.inr (1, 87))), (1, .inl x1)], [.inl (i_sb (M 88 2) 1), .inl 0, .inl x1], 119, pm_RF, M)) rfl ?_
    refine R_callS ho ms_Q_in lk_1_118 rfl (As := [.inl x1, .inl 0, .inl (i_sb (M 88 2) 1)]) (st := []) rfl (Nat.le_of_ble_eq_true rfl) rfl (by decide) (Nat.le_of_ble_eq_true rfl) (ok_Q_in G x1 0 (i_sb (M 88 2) 1) M ) (fun r1042 => ?_)
    show pm_R _ _ _ (18, [(0, .inr (.inr (1, 87))), (1, .inl x1)], [.inl r1042], 119, pm_RF, M) _ _
    refine R_if ho rfl (tgt := 23) rfl ?_
    refine R_ne ?_ ?_
    · refine R_st ho 1 (q' := (22, [(0, .inr (.inr (1, 87))), (1, .inl x1)], [.inl 0], 119, pm_RF, M)) rfl ?_
      exact R_end (v := some (.inl 0)) rfl (Or.inr ⟨rfl, Or.inl rfl⟩) rfl rfl
    · refine R_st ho 5 (q' := (30, [(0, .inr (.inr (1, 87))), (1, .inl x1)], [], 119, pm_RF, (pm_ms M 88 3 x1))) rfl ?_
      refine R_nm fun M1043 => ?_
      refine R_st ho 1 (q' := (31, [(0, .inr (.inr (1, 87))), (1, .inl x1)], [.inl 1], 119, pm_RF, M1043)) rfl ?_
      exact R_end (v := some (.inl 1)) rfl (Or.inr ⟨rfl, Or.inr rfl⟩) rfl rfl
theorem ok_Q_ordersOf_L4 (G : pm_G)   (M : pm_M) : ∀ (n_ : Nat) (y1 : Int) (y2 : Int) (y3 : Int), pm_R G mt_Q_ordersOf 1 (4, [(0, .inr (.inr (1, 87))), (1, .inl y1), (2, .inl y2), (3, .inl y3)], [], 119, pm_RF, M) (f_Q_ordersOf_L4 M n_ y1 y2 y3) (fun e_ q_ => q_ = (71, [(2, .inl e_)], [], 119, pm_RF, M)) := by
  have ho : pm_oG G mt_Q_ordersOf := (oa_Q_ordersOf).g G
  intro n_
  induction n_ with
  | zero => intro _ _ _; exact R_none
  | succ n_ ih_ =>
    intro y1 y2 y3
    rw [f_Q_ordersOf_L4]
    refine R_st ho 5 (q' := (11, [(0, .inr (.inr (1, 87))), (1, .inl y1), (2, .inl y2), (3, .inl y3)], [.inl (-1), .inl (M 88 3)], 119, pm_RF, M)) rfl ?_
    refine R_ic ho rfl (tgt := 71) rfl ?_
    refine R_eq ?_ ?_
    · refine R_pk [2] rfl ?_
      exact R_ret rfl
    · refine R_st ho 7 (q' := (25, [(0, .inr (.inr (1, 87))), (1, .inl y1), (2, .inl y2), (3, .inl y3)], [.inl (M 88 3), .inr (.inr (20, 91)), .inl y3], 119, pm_RF, M)) rfl ?_
      refine R_iald ho rfl rfl ?_
      refine R_ic ho rfl (tgt := 71) rfl ?_
      refine R_ge ?_ ?_
      · refine R_pk [2] rfl ?_
        exact R_ret rfl
      · refine R_st ho 9 (q' := (42, [(4, .inl (i_ad (i_ml 24 (M 88 3)) y3)), (0, .inr (.inr (1, 87))), (1, .inl y1), (2, .inl y2), (3, .inl y3)], [], 119, pm_RF, M)) rfl ?_
        refine R_nx (fun z_ => (42, [(4, .inl z_), (0, .inr (.inr (1, 87))), (1, .inl y1), (2, .inl y2), (3, .inl y3)], [], 119, pm_RF, M)) fun v1047 => ?_
        refine R_st ho 3 (q' := (48, [(4, .inl v1047), (0, .inr (.inr (1, 87))), (1, .inl y1), (2, .inl y2), (3, .inl y3)], [.inl v1047, .inr (.inr (20, 92))], 119, pm_RF, M)) rfl ?_
        refine R_iald ho rfl rfl ?_
        refine R_st ho 1 (q' := (50, [(4, .inl v1047), (0, .inr (.inr (1, 87))), (1, .inl y1), (2, .inl y2), (3, .inl y3)], [.inl y1, .inl (M 92 (v1047).toNat)], 119, pm_RF, M)) rfl ?_
        refine R_ic ho rfl (tgt := 63) rfl ?_
        refine R_ne ?_ ?_
        · refine R_st ho 3 (q' := (59, [(4, .inl v1047), (0, .inr (.inr (1, 87))), (1, .inl y1), (2, .inl y2), (3, .inl y3)], [.inl v1047, .inr (.inr (20, 93))], 119, pm_RF, M)) rfl ?_
          refine R_iald ho rfl rfl ?_
          refine R_st ho 4 (q' := (4, [(3, .inl (i_ad y3 1)), (2, .inl (M 93 (v1047).toNat)), (4, .inl v1047), (0, .inr (.inr (1, 87))), (1, .inl y1)], [], 119, pm_RF, M)) rfl ?_
          refine R_pk [0, 1, 2, 3] rfl ?_
          exact ih_ y1 (M 93 (v1047).toNat) (i_ad y3 1)
        · refine R_st ho 4 (q' := (4, [(3, .inl (i_ad y3 1)), (2, .inl y2), (4, .inl v1047), (0, .inr (.inr (1, 87))), (1, .inl y1)], [], 119, pm_RF, M)) rfl ?_
          refine R_pk [0, 1, 2, 3] rfl ?_
          exact ih_ y1 y2 (i_ad y3 1)
theorem ok_Q_ordersOf (G : pm_G) (x1 : Int) (M : pm_M)  : pm_R G mt_Q_ordersOf 1 (0, [(0, .inr (.inr (1, 87))), (1, .inl x1)], [], 119, pm_RF, M) (f_Q_ordersOf x1 M) (pm_Zr mt_Q_ordersOf (pm_gi M)) := by
  have ho : pm_oG G mt_Q_ordersOf := (oa_Q_ordersOf).g G
  unfold f_Q_ordersOf
  refine R_st ho 4 (q' := (4, [(3, .inl 0), (2, .inl (-1)), (0, .inr (.inr (1, 87))), (1, .inl x1)], [], 119, pm_RF, M)) rfl ?_
  refine R_pk [0, 1, 2, 3] rfl ?_
  refine R_bind (ok_Q_ordersOf_L4 G M pm_F x1 (-1) 0) ?_
  intro e1048 q_ hq_
  obtain rfl : q_ = (71, [(2, .inl e1048)], [], 119, pm_RF, M) := hq_
  refine R_st ho 1 (q' := (72, [(2, .inl e1048)], [.inl e1048], 119, pm_RF, M)) rfl ?_
  exact R_end (v := some (.inl e1048)) rfl (Or.inl rfl) rfl rfl
theorem ok_Q_milesOf (G : pm_G) (x1 : Int) (x2 : Int) (M : pm_M)  : pm_R G mt_Q_milesOf 1 (0, [(0, .inr (.inr (1, 87))), (1, .inl x1), (2, .inl x2)], [], 119, pm_RF, M) (f_Q_milesOf x1 x2 M) (pm_Zr mt_Q_milesOf (pm_gi M)) := by
  have ho : pm_oG G mt_Q_milesOf := (oa_Q_milesOf).g G
  unfold f_Q_milesOf
  refine R_st ho 7 (q' := (10, [(0, .inr (.inr (1, 87))), (1, .inl x1), (2, .inl x2)], [.inl (i_ad 10 (i_ml 4 x1)), .inr (.inr (20, 88))], 119, pm_RF, M)) rfl ?_
  refine R_iald ho rfl rfl ?_
  refine R_st ho 7 (q' := (21, [(0, .inr (.inr (1, 87))), (1, .inl x1), (2, .inl x2)], [.inl (i_ad 10 (i_ml 4 x2)), .inr (.inr (20, 88)), .inl (M 88 ((i_ad 10 (i_ml 4 x1))).toNat)], 119, pm_RF, M)) rfl ?_
  refine R_iald ho rfl rfl ?_
  refine R_st ho 2 (q' := (24, [(3, .inl (i_sb (M 88 ((i_ad 10 (i_ml 4 x1))).toNat) (M 88 ((i_ad 10 (i_ml 4 x2))).toNat))), (0, .inr (.inr (1, 87))), (1, .inl x1), (2, .inl x2)], [], 119, pm_RF, M)) rfl ?_
  refine R_nx (fun z_ => (24, [(3, .inl z_), (0, .inr (.inr (1, 87))), (1, .inl x1), (2, .inl x2)], [], 119, pm_RF, M)) fun v1054 => ?_
  refine R_st ho 9 (q' := (36, [(3, .inl v1054), (0, .inr (.inr (1, 87))), (1, .inl x1), (2, .inl x2)], [.inl (i_ad (i_ad 10 (i_ml 4 x1)) 1), .inr (.inr (20, 88))], 119, pm_RF, M)) rfl ?_
  refine R_iald ho rfl rfl ?_
  refine R_st ho 9 (q' := (49, [(3, .inl v1054), (0, .inr (.inr (1, 87))), (1, .inl x1), (2, .inl x2)], [.inl (i_ad (i_ad 10 (i_ml 4 x2)) 1), .inr (.inr (20, 88)), .inl (M 88 ((i_ad (i_ad 10 (i_ml 4 x1)) 1)).toNat)], 119, pm_RF, M)) rfl ?_
  refine R_iald ho rfl rfl ?_
  refine R_st ho 2 (q' := (53, [(4, .inl (i_sb (M 88 ((i_ad (i_ad 10 (i_ml 4 x1)) 1)).toNat) (M 88 ((i_ad (i_ad 10 (i_ml 4 x2)) 1)).toNat))), (3, .inl v1054), (0, .inr (.inr (1, 87))), (1, .inl x1), (2, .inl x2)], [], 119, pm_RF, M)) rfl ?_
  refine R_nx (fun z_ => (53, [(4, .inl z_), (3, .inl v1054), (0, .inr (.inr (1, 87))), (1, .inl x1), (2, .inl x2)], [], 119, pm_RF, M)) fun v1055 => ?_
  refine R_st ho 1 (q' := (54, [(4, .inl v1055), (3, .inl v1054), (0, .inr (.inr (1, 87))), (1, .inl x1), (2, .inl x2)], [.inl v1054], 119, pm_RF, M)) rfl ?_
  refine R_if ho rfl (tgt := 62) rfl ?_
  refine R_ge ?_ ?_
  · refine R_st ho 2 (q' := (65, [(4, .inl v1055), (3, .inl v1054), (0, .inr (.inr (1, 87))), (1, .inl x1), (2, .inl x2)], [.inl v1055, .inl v1054], 119, pm_RF, M)) rfl ?_
    refine R_if ho rfl (tgt := 74) rfl ?_
    refine R_ge ?_ ?_
    · refine R_st ho 2 (q' := (77, [(4, .inl v1055), (3, .inl v1054), (0, .inr (.inr (1, 87))), (1, .inl x1), (2, .inl x2)], [.inl (i_ad v1054 v1055)], 119, pm_RF, M)) rfl ?_
      exact R_end (v := some (.inl (i_ad v1054 v1055))) rfl (Or.inl rfl) rfl rfl
    · refine R_st ho 4 (q' := (77, [(4, .inl v1055), (3, .inl v1054), (0, .inr (.inr (1, 87))), (1, .inl x1), (2, .inl x2)], [.inl (i_ad v1054 (i_ng v1055))], 119, pm_RF, M)) rfl ?_
      exact R_end (v := some (.inl (i_ad v1054 (i_ng v1055)))) rfl (Or.inl rfl) rfl rfl
  · refine R_st ho 4 (q' := (65, [(4, .inl v1055), (3, .inl v1054), (0, .inr (.inr (1, 87))), (1, .inl x1), (2, .inl x2)], [.inl v1055, .inl (i_ng v1054)], 119, pm_RF, M)) rfl ?_
    refine R_if ho rfl (tgt := 74) rfl ?_
    refine R_ge ?_ ?_
    · refine R_st ho 2 (q' := (77, [(4, .inl v1055), (3, .inl v1054), (0, .inr (.inr (1, 87))), (1, .inl x1), (2, .inl x2)], [.inl (i_ad (i_ng v1054) v1055)], 119, pm_RF, M)) rfl ?_
      exact R_end (v := some (.inl (i_ad (i_ng v1054) v1055))) rfl (Or.inl rfl) rfl rfl
    · refine R_st ho 4 (q' := (77, [(4, .inl v1055), (3, .inl v1054), (0, .inr (.inr (1, 87))), (1, .inl x1), (2, .inl x2)], [.inl (i_ad (i_ng v1054) (i_ng v1055))], 119, pm_RF, M)) rfl ?_
      exact R_end (v := some (.inl (i_ad (i_ng v1054) (i_ng v1055)))) rfl (Or.inl rfl) rfl rfl
theorem ok_Q_closeTo_L4 (G : pm_G)   (M : pm_M) : ∀ (n_ : Nat) (y1 : Int) (y2 : Int) (y3 : Int), pm_R G mt_Q_closeTo 2 (4, [(0, .inr (.inr (1, 87))), (1, .inl y1), (2, .inl y2), (3, .inl y3)], [], 119, pm_RF, M) (f_Q_closeTo_L4 M n_ y1 y2 y3) (fun e_ q_ => q_ = (44, [(2, .inl e_)], [], 119, pm_RF, M)) := by
  have ho : pm_oG G mt_Q_closeTo := (oa_Q_closeTo).g G
  intro n_
  induction n_ with
  | zero => intro _ _ _; exact R_none
  | succ n_ ih_ =>
    intro y1 y2 y3
    rw [f_Q_closeTo_L4]
    refine R_st ho 5 (q' := (11, [(0, .inr (.inr (1, 87))), (1, .inl y1), (2, .inl y2), (3, .inl y3)], [.inl (M 88 0), .inl y3], 119, pm_RF, M)) rfl ?_
    refine R_ic ho rfl (tgt := 44) rfl ?_
    refine R_ge ?_ ?_
    · refine R_pk [2] rfl ?_
      exact R_ret rfl
    · refine R_st ho 3 (q' := (17, [(0, .inr (.inr (1, 87))), (1, .inl y1), (2, .inl y2), (3, .inl y3)], [.inl y1, .inl y3, .inl y2], 119, pm_RF, M)) rfl ?_
      refine R_ic ho rfl (tgt := 35) rfl ?_
      refine R_eq ?_ ?_
      · refine R_st ho 5 (q' := (4, [(3, .inl (i_ad y3 1)), (2, .inl (i_ad y2 0)), (0, .inr (.inr (1, 87))), (1, .inl y1)], [], 119, pm_RF, M)) rfl ?_
        refine R_pk [0, 1, 2, 3] rfl ?_
        exact ih_ y1 (i_ad y2 0) (i_ad y3 1)
      · refine R_st ho 3 (q' := (23, [(0, .inr (.inr (1, 87))), (1, .inl y1), (2, .inl y2), (3, .inl y3)], [.inl y3, .inl y1, .inr (.inr (1, 87)), .inl y2], 119, pm_RF, M)) rfl ?_
        refine R_callV ho mv_Q_milesOf lk_1_334 rfl (As := [.inl y1, .inl y3]) (kd := 1) (a := 87) (st := [.inl y2]) rfl rfl (Nat.le_of_ble_eq_true rfl) rfl (by decide) (Nat.le_of_ble_eq_true rfl) (ok_Q_milesOf G y1 y3 M ) (fun r1056 => ?_)
        show pm_R _ _ _ (26, [(0, .inr (.inr (1, 87))), (1, .inl y1), (2, .inl y2), (3, .inl y3)], [.inl r1056, .inl y2], 119, pm_RF, M) _ _
        refine R_st ho 1 (q' := (28, [(0, .inr (.inr (1, 87))), (1, .inl y1), (2, .inl y2), (3, .inl y3)], [.inl 10, .inl r1056, .inl y2], 119, pm_RF, M)) rfl ?_
        refine R_ic ho rfl (tgt := 35) rfl ?_
        refine R_gt ?_ ?_
        · refine R_st ho 5 (q' := (4, [(3, .inl (i_ad y3 1)), (2, .inl (i_ad y2 0)), (0, .inr (.inr (1, 87))), (1, .inl y1)], [], 119, pm_RF, M)) rfl ?_
          refine R_pk [0, 1, 2, 3] rfl ?_
          exact ih_ y1 (i_ad y2 0) (i_ad y3 1)
        · refine R_st ho 6 (q' := (4, [(3, .inl (i_ad y3 1)), (2, .inl (i_ad y2 1)), (0, .inr (.inr (1, 87))), (1, .inl y1)], [], 119, pm_RF, M)) rfl ?_
          refine R_pk [0, 1, 2, 3] rfl ?_
          exact ih_ y1 (i_ad y2 1) (i_ad y3 1)
theorem ok_Q_closeTo (G : pm_G) (x1 : Int) (M : pm_M)  : pm_R G mt_Q_closeTo 2 (0, [(0, .inr (.inr (1, 87))), (1, .inl x1)], [], 119, pm_RF, M) (f_Q_closeTo x1 M) (pm_Zr mt_Q_closeTo (pm_gi M)) := by
  have ho : pm_oG G mt_Q_closeTo := (oa_Q_closeTo).g G
  unfold f_Q_closeTo
  refine R_st ho 4 (q' := (4, [(3, .inl 0), (2, .inl 0), (0, .inr (.inr (1, 87))), (1, .inl x1)], [], 119, pm_RF, M)) rfl ?_
  refine R_pk [0, 1, 2, 3] rfl ?_
  refine R_bind (ok_Q_closeTo_L4 G M pm_F x1 0 0) ?_
  intro e1057 q_ hq_
  obtain rfl : q_ = (44, [(2, .inl e1057)], [], 119, pm_RF, M) := hq_
  refine R_st ho 1 (q' := (45, [(2, .inl e1057)], [.inl e1057], 119, pm_RF, M)) rfl ?_
  exact R_end (v := some (.inl e1057)) rfl (Or.inl rfl) rfl rfl
theorem ok_Q_names (G : pm_G) (x1 : Int) (x2 : Int) (M : pm_M)  : pm_R G mt_Q_names 3 (0, [(0, .inr (.inr (1, 87))), (1, .inl x1), (2, .inl x2)], [], 119, pm_RF, M) (f_Q_names x1 x2 M) (pm_Zr mt_Q_names pm_gV) := by
  have ho : pm_oG G mt_Q_names := (oa_Q_names).g G
  unfold f_Q_names
  refine R_st ho 5 (q' := (7, [(0, .inr (.inr (1, 87))), (1, .inl x1), (2, .inl x2)], [], 119, pm_RF, (pm_ms M 108 0 x1))) rfl ?_
  refine R_nm fun M1050 => ?_
  refine R_st ho 12 (q' := (24, [(0, .inr (.inr (1, 87))), (1, .inl x1), (2, .inl x2)], [.inl (i_ad (i_ad 10 (i_ml 4 x1)) 2), .inr (.inr (20, 88)), .inl 1, .inr (.inr (20, 108))], 119, pm_RF, M1050)) rfl ?_
  refine R_iald ho rfl rfl ?_
  refine R_st ho 1 (q' := (26, [(0, .inr (.inr (1, 87))), (1, .inl x1), (2, .inl x2)], [], 119, pm_RF, (pm_ms M1050 108 1 (M1050 88 ((i_ad (i_ad 10 (i_ml 4 x1)) 2)).toNat)))) rfl ?_
  refine R_nm fun M1051 => ?_
  refine R_st ho 12 (q' := (43, [(0, .inr (.inr (1, 87))), (1, .inl x1), (2, .inl x2)], [.inl (i_ad (i_ad 10 (i_ml 4 x1)) 3), .inr (.inr (20, 88)), .inl 2, .inr (.inr (20, 108))], 119, pm_RF, M1051)) rfl ?_
  refine R_iald ho rfl rfl ?_
  refine R_st ho 1 (q' := (45, [(0, .inr (.inr (1, 87))), (1, .inl x1), (2, .inl x2)], [], 119, pm_RF, (pm_ms M1051 108 2 (M1051 88 ((i_ad (i_ad 10 (i_ml 4 x1)) 3)).toNat)))) rfl ?_
  refine R_nm fun M1052 => ?_
  refine R_st ho 8 (q' := (58, [(0, .inr (.inr (1, 87))), (1, .inl x1), (2, .inl x2)], [], 119, pm_RF, (pm_ms M1052 108 3 (M1052 88 99)))) rfl ?_
  refine R_nm fun M1053 => ?_
  refine R_st ho 5 (q' := (65, [(0, .inr (.inr (1, 87))), (1, .inl x1), (2, .inl x2)], [.inl x1, .inr (.inr (1, 87)), .inl 4, .inr (.inr (20, 108))], 119, pm_RF, M1053)) rfl ?_
  refine R_callV ho mv_Q_closeTo lk_1_337 rfl (As := [.inl x1]) (kd := 1) (a := 87) (st := [.inl 4, .inr (.inr (20, 108))]) rfl rfl (Nat.le_of_ble_eq_true rfl) rfl (by decide) (Nat.le_of_ble_eq_true rfl) (ok_Q_closeTo G x1 M1053 ) (fun r1058 => ?_)
  show pm_R _ _ _ (68, [(0, .inr (.inr (1, 87))), (1, .inl x1), (2, .inl x2)], [.inl r1058, .inl 4, .inr (.inr (20, 108))], 119, pm_RF, M1053) _ _
  refine R_st ho 1 (q' := (69, [(0, .inr (.inr (1, 87))), (1, .inl x1), (2, .inl x2)], [], 119, pm_RF, (pm_ms M1053 108 4 r1058))) rfl ?_
  refine R_nm fun M1059 => ?_
  refine R_st ho 2 (q' := (71, [(0, .inr (.inr (1, 87))), (1, .inl x1), (2, .inl x2)], [.inl (-1), .inl x2], 119, pm_RF, M1059)) rfl ?_
  refine R_ic ho rfl (tgt := 156) rfl ?_
  refine R_eq ?_ ?_
  · exact R_end (v := none) rfl rfl rfl rfl
  · refine R_st ho 5 (q' := (81, [(0, .inr (.inr (1, 87))), (1, .inl x1), (2, .inl x2)], [], 119, pm_RF, (pm_ms M1059 108 5 x2))) rfl ?_
    refine R_nm fun M1060 => ?_
    refine R_st ho 10 (q' := (97, [(0, .inr (.inr (1, 87))), (1, .inl x1), (2, .inl x2)], [.inl (i_ad 42 (i_ml 2 x2)), .inr (.inr (20, 88)), .inl 6, .inr (.inr (20, 108))], 119, pm_RF, M1060)) rfl ?_
    refine R_iald ho rfl rfl ?_
    refine R_st ho 1 (q' := (99, [(0, .inr (.inr (1, 87))), (1, .inl x1), (2, .inl x2)], [], 119, pm_RF, (pm_ms M1060 108 6 (M1060 88 ((i_ad 42 (i_ml 2 x2))).toNat)))) rfl ?_
    refine R_nm fun M1061 => ?_
    refine R_st ho 8 (q' := (113, [(0, .inr (.inr (1, 87))), (1, .inl x1), (2, .inl x2)], [.inl (i_ad 78 x1), .inr (.inr (20, 88)), .inl 7, .inr (.inr (20, 108))], 119, pm_RF, M1061)) rfl ?_
    refine R_iald ho rfl rfl ?_
    refine R_st ho 1 (q' := (115, [(0, .inr (.inr (1, 87))), (1, .inl x1), (2, .inl x2)], [], 119, pm_RF, (pm_ms M1061 108 7 (M1061 88 ((i_ad 78 x1)).toNat)))) rfl ?_
    refine R_nm fun M1062 => ?_
    refine R_st ho 8 (q' := (129, [(0, .inr (.inr (1, 87))), (1, .inl x1), (2, .inl x2)], [.inl (i_ad 78 x1), .inr (.inr (20, 88)), .inl 8, .inr (.inr (20, 108))], 119, pm_RF, M1062)) rfl ?_
    refine R_iald ho rfl rfl ?_
    refine R_st ho 1 (q' := (131, [(0, .inr (.inr (1, 87))), (1, .inl x1), (2, .inl x2)], [.inl x2, .inl (M1062 88 ((i_ad 78 x1)).toNat), .inl 8, .inr (.inr (20, 108))], 119, pm_RF, M1062)) rfl ?_
    refine R_ic ho rfl (tgt := 138) rfl ?_
    refine R_ne ?_ ?_
    · refine R_st ho 3 (q' := (140, [(0, .inr (.inr (1, 87))), (1, .inl x1), (2, .inl x2)], [], 119, pm_RF, (pm_ms M1062 108 8 1))) rfl ?_
      refine R_nm fun M1063 => ?_
      refine R_st ho 8 (q' := (154, [(0, .inr (.inr (1, 87))), (1, .inl x1), (2, .inl x2)], [.inl (i_ad 86 x2), .inr (.inr (20, 88)), .inl 9, .inr (.inr (20, 108))], 119, pm_RF, M1063)) rfl ?_
      refine R_iald ho rfl rfl ?_
      refine R_st ho 1 (q' := (156, [(0, .inr (.inr (1, 87))), (1, .inl x1), (2, .inl x2)], [], 119, pm_RF, (pm_ms M1063 108 9 (M1063 88 ((i_ad 86 x2)).toNat)))) rfl ?_
      refine R_nm fun M1064 => ?_
      exact R_end (v := none) rfl rfl rfl rfl
    · refine R_st ho 2 (q' := (140, [(0, .inr (.inr (1, 87))), (1, .inl x1), (2, .inl x2)], [], 119, pm_RF, (pm_ms M1062 108 8 0))) rfl ?_
      refine R_nm fun M1065 => ?_
      refine R_st ho 8 (q' := (154, [(0, .inr (.inr (1, 87))), (1, .inl x1), (2, .inl x2)], [.inl (i_ad 86 x2), .inr (.inr (20, 88)), .inl 9, .inr (.inr (20, 108))], 119, pm_RF, M1065)) rfl ?_
      refine R_iald ho rfl rfl ?_
      refine R_st ho 1 (q' := (156, [(0, .inr (.inr (1, 87))), (1, .inl x1), (2, .inl x2)], [], 119, pm_RF, (pm_ms M1065 108 9 (M1065 88 ((i_ad 86 x2)).toNat)))) rfl ?_
      refine R_nm fun M1066 => ?_
      exact R_end (v := none) rfl rfl rfl rfl
theorem ok_Q_bound (G : pm_G) (x0 : Int) (M : pm_M)  : pm_R G mt_Q_bound 1 (0, [(0, .inr (.inl x0))], [], 119, pm_RF, M) (f_Q_bound x0 M) (pm_Zr mt_Q_bound (pm_gl M)) := by
  have ho : pm_oG G mt_Q_bound := (oa_Q_bound).g G
  unfold f_Q_bound
  refine R_st ho 2 (q' := (4, [(0, .inr (.inl x0))], [.inr (.inl 1000000), .inr (.inl x0)], 119, pm_RF, M)) rfl ?_
  refine R_lc ho rfl rfl (tgt := 14) rfl ?_
  refine R_le ?_ ?_
  · refine R_st ho 2 (q' := (18, [(0, .inr (.inl x0))], [.inr (.inl (-1000000)), .inr (.inl x0)], 119, pm_RF, M)) rfl ?_
    refine R_lc ho rfl rfl (tgt := 28) rfl ?_
    refine R_ge ?_ ?_
    · refine R_st ho 1 (q' := (29, [(0, .inr (.inl x0))], [.inr (.inl x0)], 119, pm_RF, M)) rfl ?_
      exact R_end (v := some (.inr (.inl x0))) rfl rfl rfl rfl
    · refine R_st ho 2 (q' := (29, [(0, .inr (.inl x0))], [.inr (.inl (-1000000))], 119, pm_RF, M)) rfl ?_
      exact R_end (v := some (.inr (.inl (-1000000)))) rfl rfl rfl rfl
  · refine R_st ho 2 (q' := (29, [(0, .inr (.inl x0))], [.inr (.inl 1000000)], 119, pm_RF, M)) rfl ?_
    exact R_end (v := some (.inr (.inl 1000000))) rfl rfl rfl rfl
theorem ok_Q_worked (G : pm_G) (x0 : Int) (x1 : Int) (x3 : Int) (M : pm_M)  : pm_R G mt_Q_worked 2 (0, [(0, .inl x0), (1, .inr (.inl x1)), (3, .inr (.inl x3))], [], 119, pm_RF, M) (f_Q_worked x0 x1 x3 M) (pm_Zr mt_Q_worked (pm_gl M)) := by
  have ho : pm_oG G mt_Q_worked := (oa_Q_worked).g G
  unfold f_Q_worked
  refine R_st ho 1 (q' := (1, [(0, .inl x0), (1, .inr (.inl x1)), (3, .inr (.inl x3))], [.inl x0], 119, pm_RF, M)) rfl ?_
  refine R_cs (fun z_ => (1, [(0, .inl x0), (1, .inr (.inl x1)), (3, .inr (.inl x3))], [.inl z_], 119, pm_RF, M)) ?_ (fun h1077 => ?_)
  · refine R_st ho 3 (q' := (173, [(0, .inl x0), (1, .inr (.inl x1)), (3, .inr (.inl x3))], [.inr (.inl x3), .inr (.inl x1)], 119, pm_RF, M)) rfl ?_
    refine R_lc ho rfl rfl (tgt := 181) rfl ?_
    refine R_eq ?_ ?_
    · refine R_st ho 1 (q' := (182, [(0, .inl x0), (1, .inr (.inl x1)), (3, .inr (.inl x3))], [.inr (.inl 0)], 119, pm_RF, M)) rfl ?_
      exact R_end (v := some (.inr (.inl 0))) rfl rfl rfl rfl
    · refine R_st ho 2 (q' := (182, [(0, .inl x0), (1, .inr (.inl x1)), (3, .inr (.inl x3))], [.inr (.inl 1)], 119, pm_RF, M)) rfl ?_
      exact R_end (v := some (.inr (.inl 1))) rfl rfl rfl rfl
  refine R_cs (fun z_ => (1, [(0, .inl x0), (1, .inr (.inl x1)), (3, .inr (.inl x3))], [.inl z_], 119, pm_RF, M)) ?_ (fun h1078 => ?_)
  · refine R_st ho 4 (q' := (117, [(0, .inl x0), (1, .inr (.inl x1)), (3, .inr (.inl x3))], [.inr (.inl (l_ml x1 x3))], 119, pm_RF, M)) rfl ?_
    refine R_callS ho ms_Q_bound lk_1_326 rfl (As := [.inr (.inl (l_ml x1 x3))]) (st := []) rfl (Nat.le_of_ble_eq_true rfl) rfl (by decide) (Nat.le_of_ble_eq_true rfl) (ok_Q_bound G (l_ml x1 x3) M ) (fun r1074 => ?_)
    show pm_R _ _ _ (120, [(0, .inl x0), (1, .inr (.inl x1)), (3, .inr (.inl x3))], [.inr (.inl r1074)], 119, pm_RF, M) _ _
    exact R_end (v := some (.inr (.inl r1074))) rfl rfl rfl rfl
  refine R_cs (fun z_ => (1, [(0, .inl x0), (1, .inr (.inl x1)), (3, .inr (.inl x3))], [.inl z_], 119, pm_RF, M)) ?_ (fun h1079 => ?_)
  · refine R_st ho 4 (q' := (103, [(0, .inl x0), (1, .inr (.inl x1)), (3, .inr (.inl x3))], [.inr (.inl (l_ad x1 x3))], 119, pm_RF, M)) rfl ?_
    refine R_callS ho ms_Q_bound lk_1_326 rfl (As := [.inr (.inl (l_ad x1 x3))]) (st := []) rfl (Nat.le_of_ble_eq_true rfl) rfl (by decide) (Nat.le_of_ble_eq_true rfl) (ok_Q_bound G (l_ad x1 x3) M ) (fun r1075 => ?_)
    show pm_R _ _ _ (106, [(0, .inl x0), (1, .inr (.inl x1)), (3, .inr (.inl x3))], [.inr (.inl r1075)], 119, pm_RF, M) _ _
    exact R_end (v := some (.inr (.inl r1075))) rfl rfl rfl rfl
  refine R_cs (fun z_ => (1, [(0, .inl x0), (1, .inr (.inl x1)), (3, .inr (.inl x3))], [.inl z_], 119, pm_RF, M)) ?_ (fun h1080 => ?_)
  · refine R_st ho 4 (q' := (110, [(0, .inl x0), (1, .inr (.inl x1)), (3, .inr (.inl x3))], [.inr (.inl (l_sb x1 x3))], 119, pm_RF, M)) rfl ?_
    refine R_callS ho ms_Q_bound lk_1_326 rfl (As := [.inr (.inl (l_sb x1 x3))]) (st := []) rfl (Nat.le_of_ble_eq_true rfl) rfl (by decide) (Nat.le_of_ble_eq_true rfl) (ok_Q_bound G (l_sb x1 x3) M ) (fun r1076 => ?_)
    show pm_R _ _ _ (113, [(0, .inl x0), (1, .inr (.inl x1)), (3, .inr (.inl x3))], [.inr (.inl r1076)], 119, pm_RF, M) _ _
    exact R_end (v := some (.inr (.inl r1076))) rfl rfl rfl rfl
  refine R_cs (fun z_ => (1, [(0, .inl x0), (1, .inr (.inl x1)), (3, .inr (.inl x3))], [.inl z_], 119, pm_RF, M)) ?_ (fun h1081 => ?_)
  · refine R_st ho 3 (q' := (123, [(0, .inl x0), (1, .inr (.inl x1)), (3, .inr (.inl x3))], [.inr (.inl 0), .inr (.inl x3)], 119, pm_RF, M)) rfl ?_
    refine R_lc ho rfl rfl (tgt := 131) rfl ?_
    refine R_ne ?_ ?_
    · refine R_st ho 2 (q' := (134, [(0, .inl x0), (1, .inr (.inl x1)), (3, .inr (.inl x3))], [.inr (.inl 0)], 119, pm_RF, M)) rfl ?_
      exact R_end (v := some (.inr (.inl 0))) rfl rfl rfl rfl
    · refine R_st ho 2 (q' := (133, [(0, .inl x0), (1, .inr (.inl x1)), (3, .inr (.inl x3))], [.inr (.inl x3), .inr (.inl x1)], 119, pm_RF, M)) rfl ?_
      refine R_ldiv ho rfl ?_
      exact R_end (v := some (.inr (.inl (l_dv x1 x3)))) rfl rfl rfl rfl
  refine R_cs (fun z_ => (1, [(0, .inl x0), (1, .inr (.inl x1)), (3, .inr (.inl x3))], [.inl z_], 119, pm_RF, M)) ?_ (fun h1082 => ?_)
  · refine R_st ho 3 (q' := (137, [(0, .inl x0), (1, .inr (.inl x1)), (3, .inr (.inl x3))], [.inr (.inl x3), .inr (.inl x1)], 119, pm_RF, M)) rfl ?_
    refine R_lc ho rfl rfl (tgt := 145) rfl ?_
    refine R_ge ?_ ?_
    · refine R_st ho 1 (q' := (146, [(0, .inl x0), (1, .inr (.inl x1)), (3, .inr (.inl x3))], [.inr (.inl 0)], 119, pm_RF, M)) rfl ?_
      exact R_end (v := some (.inr (.inl 0))) rfl rfl rfl rfl
    · refine R_st ho 2 (q' := (146, [(0, .inl x0), (1, .inr (.inl x1)), (3, .inr (.inl x3))], [.inr (.inl 1)], 119, pm_RF, M)) rfl ?_
      exact R_end (v := some (.inr (.inl 1))) rfl rfl rfl rfl
  refine R_cs (fun z_ => (1, [(0, .inl x0), (1, .inr (.inl x1)), (3, .inr (.inl x3))], [.inl z_], 119, pm_RF, M)) ?_ (fun h1083 => ?_)
  · refine R_st ho 3 (q' := (161, [(0, .inl x0), (1, .inr (.inl x1)), (3, .inr (.inl x3))], [.inr (.inl x3), .inr (.inl x1)], 119, pm_RF, M)) rfl ?_
    refine R_lc ho rfl rfl (tgt := 169) rfl ?_
    refine R_ne ?_ ?_
    · refine R_st ho 2 (q' := (170, [(0, .inl x0), (1, .inr (.inl x1)), (3, .inr (.inl x3))], [.inr (.inl 1)], 119, pm_RF, M)) rfl ?_
      exact R_end (v := some (.inr (.inl 1))) rfl rfl rfl rfl
    · refine R_st ho 1 (q' := (170, [(0, .inl x0), (1, .inr (.inl x1)), (3, .inr (.inl x3))], [.inr (.inl 0)], 119, pm_RF, M)) rfl ?_
      exact R_end (v := some (.inr (.inl 0))) rfl rfl rfl rfl
  refine R_cs (fun z_ => (1, [(0, .inl x0), (1, .inr (.inl x1)), (3, .inr (.inl x3))], [.inl z_], 119, pm_RF, M)) ?_ (fun h1084 => ?_)
  · refine R_st ho 3 (q' := (149, [(0, .inl x0), (1, .inr (.inl x1)), (3, .inr (.inl x3))], [.inr (.inl x3), .inr (.inl x1)], 119, pm_RF, M)) rfl ?_
    refine R_lc ho rfl rfl (tgt := 157) rfl ?_
    refine R_le ?_ ?_
    · refine R_st ho 1 (q' := (158, [(0, .inl x0), (1, .inr (.inl x1)), (3, .inr (.inl x3))], [.inr (.inl 0)], 119, pm_RF, M)) rfl ?_
      exact R_end (v := some (.inr (.inl 0))) rfl rfl rfl rfl
    · refine R_st ho 2 (q' := (158, [(0, .inl x0), (1, .inr (.inl x1)), (3, .inr (.inl x3))], [.inr (.inl 1)], 119, pm_RF, M)) rfl ?_
      exact R_end (v := some (.inr (.inl 1))) rfl rfl rfl rfl
  refine R_cs (fun z_ => (1, [(0, .inl x0), (1, .inr (.inl x1)), (3, .inr (.inl x3))], [.inl z_], 119, pm_RF, M)) ?_ (fun h1085 => ?_)
  · refine R_st ho 3 (q' := (185, [(0, .inl x0), (1, .inr (.inl x1)), (3, .inr (.inl x3))], [.inr (.inl x3), .inr (.inl x1)], 119, pm_RF, M)) rfl ?_
    refine R_lc ho rfl rfl (tgt := 193) rfl ?_
    refine R_gt ?_ ?_
    · refine R_st ho 1 (q' := (194, [(0, .inl x0), (1, .inr (.inl x1)), (3, .inr (.inl x3))], [.inr (.inl 0)], 119, pm_RF, M)) rfl ?_
      exact R_end (v := some (.inr (.inl 0))) rfl rfl rfl rfl
    · refine R_st ho 2 (q' := (194, [(0, .inl x0), (1, .inr (.inl x1)), (3, .inr (.inl x3))], [.inr (.inl 1)], 119, pm_RF, M)) rfl ?_
      exact R_end (v := some (.inr (.inl 1))) rfl rfl rfl rfl
  refine R_cs (fun z_ => (1, [(0, .inl x0), (1, .inr (.inl x1)), (3, .inr (.inl x3))], [.inl z_], 119, pm_RF, M)) ?_ (fun h1086 => ?_)
  · refine R_st ho 3 (q' := (197, [(0, .inl x0), (1, .inr (.inl x1)), (3, .inr (.inl x3))], [.inr (.inl x3), .inr (.inl x1)], 119, pm_RF, M)) rfl ?_
    refine R_lc ho rfl rfl (tgt := 205) rfl ?_
    refine R_lt ?_ ?_
    · refine R_st ho 1 (q' := (206, [(0, .inl x0), (1, .inr (.inl x1)), (3, .inr (.inl x3))], [.inr (.inl 0)], 119, pm_RF, M)) rfl ?_
      exact R_end (v := some (.inr (.inl 0))) rfl rfl rfl rfl
    · refine R_st ho 2 (q' := (206, [(0, .inl x0), (1, .inr (.inl x1)), (3, .inr (.inl x3))], [.inr (.inl 1)], 119, pm_RF, M)) rfl ?_
      exact R_end (v := some (.inr (.inl 1))) rfl rfl rfl rfl
  refine R_cs (fun z_ => (1, [(0, .inl x0), (1, .inr (.inl x1)), (3, .inr (.inl x3))], [.inl z_], 119, pm_RF, M)) ?_ (fun h1087 => ?_)
  · refine R_st ho 4 (q' := (210, [(0, .inl x0), (1, .inr (.inl x1)), (3, .inr (.inl x3))], [.inr (.inl (l_ml x1 x3))], 119, pm_RF, M)) rfl ?_
    exact R_end (v := some (.inr (.inl (l_ml x1 x3)))) rfl rfl rfl rfl
  refine R_lkd ho rfl (by simp [Op.lookupswitch.offset, Ne.symm h1077, Ne.symm h1078, Ne.symm h1079, Ne.symm h1080, Ne.symm h1081, Ne.symm h1082, Ne.symm h1083, Ne.symm h1084, Ne.symm h1085, Ne.symm h1086, Ne.symm h1087]) rfl rfl ?_
  refine R_st ho 4 (q' := (215, [(0, .inl x0), (1, .inr (.inl x1)), (3, .inr (.inl x3))], [.inr (.inl 0), .inr (.inl (l_ad x1 x3))], 119, pm_RF, M)) rfl ?_
  refine R_lc ho rfl rfl (tgt := 223) rfl ?_
  refine R_le ?_ ?_
  · refine R_st ho 1 (q' := (224, [(0, .inl x0), (1, .inr (.inl x1)), (3, .inr (.inl x3))], [.inr (.inl 0)], 119, pm_RF, M)) rfl ?_
    exact R_end (v := some (.inr (.inl 0))) rfl rfl rfl rfl
  · refine R_st ho 2 (q' := (224, [(0, .inl x0), (1, .inr (.inl x1)), (3, .inr (.inl x3))], [.inr (.inl 1)], 119, pm_RF, M)) rfl ?_
    exact R_end (v := some (.inr (.inl 1))) rfl rfl rfl rfl
theorem ok_Q_saysOf_L4 (G : pm_G)    : ∀ (n_ : Nat) (y2 : Int) (y3 : Int) (M : pm_M), pm_R G mt_Q_saysOf 3 (4, [(0, .inr (.inr (1, 87))), (2, .inl y2), (3, .inl y3)], [], 119, pm_RF, M) (f_Q_saysOf_L4 n_ y2 y3 M) (fun e_ q_ => q_ = (175, [(0, .inr (.inr (1, 87)))], [], 119, pm_RF, e_)) := by
  have ho : pm_oG G mt_Q_saysOf := (oa_Q_saysOf).g G
  intro n_
  induction n_ with
  | zero => intro _ _ _; exact R_none
  | succ n_ ih_ =>
    intro y2 y3 M
    rw [f_Q_saysOf_L4]
    refine R_st ho 3 (q' := (9, [(0, .inr (.inr (1, 87))), (2, .inl y2), (3, .inl y3)], [.inl y3, .inr (.inr (20, 96))], 119, pm_RF, M)) rfl ?_
    refine R_iald ho rfl rfl ?_
    refine R_st ho 1 (q' := (13, [(0, .inr (.inr (1, 87))), (2, .inl y2), (3, .inl y3)], [.inl 408, .inl (M 96 (y3).toNat)], 119, pm_RF, M)) rfl ?_
    refine R_ic ho rfl (tgt := 175) rfl ?_
    refine R_eq ?_ ?_
    · refine R_pk [0] rfl ?_
      exact R_ret rfl
    · refine R_st ho 3 (q' := (21, [(0, .inr (.inr (1, 87))), (2, .inl y2), (3, .inl y3)], [.inl y3, .inr (.inr (20, 96))], 119, pm_RF, M)) rfl ?_
      refine R_iald ho rfl rfl ?_
      refine R_st ho 3 (q' := (29, [(4, .inl (M 96 (y3).toNat)), (0, .inr (.inr (1, 87))), (2, .inl y2), (3, .inl y3)], [.inl 400, .inl (M 96 (y3).toNat)], 119, pm_RF, M)) rfl ?_
      refine R_ic ho rfl (tgt := 40) rfl ?_
      refine R_eq ?_ ?_
      · refine R_st ho 5 (q' := (50, [(4, .inl (M 96 (y3).toNat)), (0, .inr (.inr (1, 87))), (2, .inl y2), (3, .inl y3)], [.inl 400, .inl (M 96 (y3).toNat), .inl y2, .inr (.inr (21, 109))], 119, pm_RF, M)) rfl ?_
        refine R_ic ho rfl (tgt := 63) rfl ?_
        refine R_ne ?_ ?_
        · refine R_st ho 3 (q' := (58, [(4, .inl (M 96 (y3).toNat)), (0, .inr (.inr (1, 87))), (2, .inl y2), (3, .inl y3)], [.inl y3, .inr (.inr (20, 97)), .inl y2, .inr (.inr (21, 109))], 119, pm_RF, M)) rfl ?_
          refine R_iald ho rfl rfl ?_
          refine R_st ho 2 (q' := (75, [(4, .inl (M 96 (y3).toNat)), (0, .inr (.inr (1, 87))), (2, .inl y2), (3, .inl y3)], [.inr (.inl (M 97 (y3).toNat)), .inl y2, .inr (.inr (21, 109))], 119, pm_RF, M)) rfl ?_
          refine R_last ho rfl rfl ?_
          refine R_nm fun M1068 => ?_
          refine R_st ho 4 (q' := (4, [(3, .inl (i_ad y3 1)), (2, .inl (i_ad y2 1)), (4, .inl (M 96 (y3).toNat)), (0, .inr (.inr (1, 87)))], [], 119, pm_RF, M1068)) rfl ?_
          refine R_pk [0, 2, 3] rfl ?_
          exact ih_ (i_ad y2 1) (i_ad y3 1) M1068
        · refine R_st ho 5 (q' := (72, [(4, .inl (M 96 (y3).toNat)), (0, .inr (.inr (1, 87))), (2, .inl y2), (3, .inl y3)], [.inl y3, .inr (.inr (20, 97)), .inr (.inr (20, 108)), .inl y2, .inr (.inr (21, 109))], 119, pm_RF, M)) rfl ?_
          refine R_iald ho rfl rfl ?_
          refine R_iald ho rfl rfl ?_
          refine R_st ho 1 (q' := (75, [(4, .inl (M 96 (y3).toNat)), (0, .inr (.inr (1, 87))), (2, .inl y2), (3, .inl y3)], [.inr (.inl (M 108 ((M 97 (y3).toNat)).toNat)), .inl y2, .inr (.inr (21, 109))], 119, pm_RF, M)) rfl ?_
          refine R_last ho rfl rfl ?_
          refine R_nm fun M1069 => ?_
          refine R_st ho 4 (q' := (4, [(3, .inl (i_ad y3 1)), (2, .inl (i_ad y2 1)), (4, .inl (M 96 (y3).toNat)), (0, .inr (.inr (1, 87)))], [], 119, pm_RF, M1069)) rfl ?_
          refine R_pk [0, 2, 3] rfl ?_
          exact ih_ (i_ad y2 1) (i_ad y3 1) M1069
      · refine R_st ho 2 (q' := (37, [(4, .inl (M 96 (y3).toNat)), (0, .inr (.inr (1, 87))), (2, .inl y2), (3, .inl y3)], [.inl 401, .inl (M 96 (y3).toNat)], 119, pm_RF, M)) rfl ?_
        refine R_ic ho rfl (tgt := 82) rfl ?_
        refine R_ne ?_ ?_
        · refine R_st ho 5 (q' := (50, [(4, .inl (M 96 (y3).toNat)), (0, .inr (.inr (1, 87))), (2, .inl y2), (3, .inl y3)], [.inl 400, .inl (M 96 (y3).toNat), .inl y2, .inr (.inr (21, 109))], 119, pm_RF, M)) rfl ?_
          refine R_ic ho rfl (tgt := 63) rfl ?_
          refine R_ne ?_ ?_
          · refine R_st ho 3 (q' := (58, [(4, .inl (M 96 (y3).toNat)), (0, .inr (.inr (1, 87))), (2, .inl y2), (3, .inl y3)], [.inl y3, .inr (.inr (20, 97)), .inl y2, .inr (.inr (21, 109))], 119, pm_RF, M)) rfl ?_
            refine R_iald ho rfl rfl ?_
            refine R_st ho 2 (q' := (75, [(4, .inl (M 96 (y3).toNat)), (0, .inr (.inr (1, 87))), (2, .inl y2), (3, .inl y3)], [.inr (.inl (M 97 (y3).toNat)), .inl y2, .inr (.inr (21, 109))], 119, pm_RF, M)) rfl ?_
            refine R_last ho rfl rfl ?_
            refine R_nm fun M1070 => ?_
            refine R_st ho 4 (q' := (4, [(3, .inl (i_ad y3 1)), (2, .inl (i_ad y2 1)), (4, .inl (M 96 (y3).toNat)), (0, .inr (.inr (1, 87)))], [], 119, pm_RF, M1070)) rfl ?_
            refine R_pk [0, 2, 3] rfl ?_
            exact ih_ (i_ad y2 1) (i_ad y3 1) M1070
          · refine R_st ho 5 (q' := (72, [(4, .inl (M 96 (y3).toNat)), (0, .inr (.inr (1, 87))), (2, .inl y2), (3, .inl y3)], [.inl y3, .inr (.inr (20, 97)), .inr (.inr (20, 108)), .inl y2, .inr (.inr (21, 109))], 119, pm_RF, M)) rfl ?_
            refine R_iald ho rfl rfl ?_
            refine R_iald ho rfl rfl ?_
            refine R_st ho 1 (q' := (75, [(4, .inl (M 96 (y3).toNat)), (0, .inr (.inr (1, 87))), (2, .inl y2), (3, .inl y3)], [.inr (.inl (M 108 ((M 97 (y3).toNat)).toNat)), .inl y2, .inr (.inr (21, 109))], 119, pm_RF, M)) rfl ?_
            refine R_last ho rfl rfl ?_
            refine R_nm fun M1071 => ?_
            refine R_st ho 4 (q' := (4, [(3, .inl (i_ad y3 1)), (2, .inl (i_ad y2 1)), (4, .inl (M 96 (y3).toNat)), (0, .inr (.inr (1, 87)))], [], 119, pm_RF, M1071)) rfl ?_
            refine R_pk [0, 2, 3] rfl ?_
            exact ih_ (i_ad y2 1) (i_ad y3 1) M1071
        · refine R_st ho 2 (q' := (87, [(4, .inl (M 96 (y3).toNat)), (0, .inr (.inr (1, 87))), (2, .inl y2), (3, .inl y3)], [.inl 402, .inl (M 96 (y3).toNat)], 119, pm_RF, M)) rfl ?_
          refine R_ic ho rfl (tgt := 110) rfl ?_
          refine R_ne ?_ ?_
          · refine R_st ho 10 (q' := (104, [(4, .inl (M 96 (y3).toNat)), (0, .inr (.inr (1, 87))), (2, .inl y2), (3, .inl y3)], [.inl (i_sb y2 1), .inr (.inr (21, 109)), .inl (i_sb y2 1), .inr (.inr (21, 109))], 119, pm_RF, M)) rfl ?_
            refine R_lald ho rfl rfl ?_
            refine R_st ho 1 (q' := (106, [(4, .inl (M 96 (y3).toNat)), (0, .inr (.inr (1, 87))), (2, .inl y2), (3, .inl y3)], [.inr (.inl (l_ng (M 109 ((i_sb y2 1)).toNat))), .inl (i_sb y2 1), .inr (.inr (21, 109))], 119, pm_RF, M)) rfl ?_
            refine R_last ho rfl rfl ?_
            refine R_nm fun M1072 => ?_
            refine R_st ho 3 (q' := (4, [(3, .inl (i_ad y3 1)), (4, .inl (M 96 (y3).toNat)), (0, .inr (.inr (1, 87))), (2, .inl y2)], [], 119, pm_RF, M1072)) rfl ?_
            refine R_pk [0, 2, 3] rfl ?_
            exact ih_ y2 (i_ad y3 1) M1072
          · refine R_st ho 2 (q' := (115, [(4, .inl (M 96 (y3).toNat)), (0, .inr (.inr (1, 87))), (2, .inl y2), (3, .inl y3)], [.inl 405, .inl (M 96 (y3).toNat)], 119, pm_RF, M)) rfl ?_
            refine R_ic ho rfl (tgt := 139) rfl ?_
            refine R_ne ?_ ?_
            · refine R_st ho 11 (q' := (133, [(4, .inl (M 96 (y3).toNat)), (0, .inr (.inr (1, 87))), (2, .inl y2), (3, .inl y3)], [.inl (i_sb y2 1), .inr (.inr (21, 109)), .inr (.inl 1), .inl (i_sb y2 1), .inr (.inr (21, 109))], 119, pm_RF, M)) rfl ?_
              refine R_lald ho rfl rfl ?_
              refine R_st ho 1 (q' := (135, [(4, .inl (M 96 (y3).toNat)), (0, .inr (.inr (1, 87))), (2, .inl y2), (3, .inl y3)], [.inr (.inl (l_sb 1 (M 109 ((i_sb y2 1)).toNat))), .inl (i_sb y2 1), .inr (.inr (21, 109))], 119, pm_RF, M)) rfl ?_
              refine R_last ho rfl rfl ?_
              refine R_nm fun M1073 => ?_
              refine R_st ho 3 (q' := (4, [(3, .inl (i_ad y3 1)), (4, .inl (M 96 (y3).toNat)), (0, .inr (.inr (1, 87))), (2, .inl y2)], [], 119, pm_RF, M1073)) rfl ?_
              refine R_pk [0, 2, 3] rfl ?_
              exact ih_ y2 (i_ad y3 1) M1073
            · refine R_st ho 12 (q' := (158, [(2, .inl (i_ad y2 (-1))), (4, .inl (M 96 (y3).toNat)), (0, .inr (.inr (1, 87))), (3, .inl y3)], [.inl (i_sb (i_ad y2 (-1)) 1), .inr (.inr (21, 109)), .inl (M 96 (y3).toNat), .inl (i_sb (i_ad y2 (-1)) 1), .inr (.inr (21, 109))], 119, pm_RF, M)) rfl ?_
              refine R_lald ho rfl rfl ?_
              refine R_st ho 3 (q' := (164, [(2, .inl (i_ad y2 (-1))), (4, .inl (M 96 (y3).toNat)), (0, .inr (.inr (1, 87))), (3, .inl y3)], [.inl (i_ad y2 (-1)), .inr (.inr (21, 109)), .inr (.inl (M 109 ((i_sb (i_ad y2 (-1)) 1)).toNat)), .inl (M 96 (y3).toNat), .inl (i_sb (i_ad y2 (-1)) 1), .inr (.inr (21, 109))], 119, pm_RF, M)) rfl ?_
              refine R_lald ho rfl rfl ?_
              refine R_callS ho ms_Q_worked lk_1_330 rfl (As := [.inl (M 96 (y3).toNat), .inr (.inl (M 109 ((i_sb (i_ad y2 (-1)) 1)).toNat)), .inr (.inl (M 109 ((i_ad y2 (-1))).toNat))]) (st := [.inl (i_sb (i_ad y2 (-1)) 1), .inr (.inr (21, 109))]) rfl (Nat.le_of_ble_eq_true rfl) rfl (by decide) (Nat.le_of_ble_eq_true rfl) (ok_Q_worked G (M 96 (y3).toNat) (M 109 ((i_sb (i_ad y2 (-1)) 1)).toNat) (M 109 ((i_ad y2 (-1))).toNat) M ) (fun r1088 => ?_)
              show pm_R _ _ _ (168, [(2, .inl (i_ad y2 (-1))), (4, .inl (M 96 (y3).toNat)), (0, .inr (.inr (1, 87))), (3, .inl y3)], [.inr (.inl r1088), .inl (i_sb (i_ad y2 (-1)) 1), .inr (.inr (21, 109))], 119, pm_RF, M) _ _
              refine R_last ho rfl rfl ?_
              refine R_nm fun M1089 => ?_
              refine R_st ho 2 (q' := (4, [(3, .inl (i_ad y3 1)), (2, .inl (i_ad y2 (-1))), (4, .inl (M 96 (y3).toNat)), (0, .inr (.inr (1, 87)))], [], 119, pm_RF, M1089)) rfl ?_
              refine R_pk [0, 2, 3] rfl ?_
              exact ih_ (i_ad y2 (-1)) (i_ad y3 1) M1089
theorem ok_Q_saysOf (G : pm_G) (x1 : Int) (M : pm_M)  : pm_R G mt_Q_saysOf 3 (0, [(0, .inr (.inr (1, 87))), (1, .inl x1)], [], 119, pm_RF, M) (f_Q_saysOf x1 M) (pm_Zr mt_Q_saysOf pm_gL) := by
  have ho : pm_oG G mt_Q_saysOf := (oa_Q_saysOf).g G
  unfold f_Q_saysOf
  refine R_st ho 4 (q' := (4, [(3, .inl x1), (2, .inl 0), (0, .inr (.inr (1, 87))), (1, .inl x1)], [], 119, pm_RF, M)) rfl ?_
  refine R_pk [0, 2, 3] rfl ?_
  refine R_bind (ok_Q_saysOf_L4 G pm_F 0 x1 M) ?_
  intro e1090 q_ hq_
  obtain rfl : q_ = (175, [(0, .inr (.inr (1, 87)))], [], 119, pm_RF, e1090) := hq_
  refine R_st ho 4 (q' := (181, [(0, .inr (.inr (1, 87)))], [.inr (.inl (e1090 109 0))], 119, pm_RF, e1090)) rfl ?_
  exact R_end (v := some (.inr (.inl (e1090 109 0)))) rfl rfl rfl rfl
theorem ok_Q_tellsOf (G : pm_G) (x1 : Int) (x2 : Int) (x3 : Int) (M : pm_M)  : pm_R G mt_Q_tellsOf 4 (0, [(0, .inr (.inr (1, 87))), (1, .inl x1), (2, .inl x2), (3, .inl x3)], [], 119, pm_RF, M) (f_Q_tellsOf x1 x2 x3 M) (pm_Zr mt_Q_tellsOf pm_gI) := by
  have ho : pm_oG G mt_Q_tellsOf := (oa_Q_tellsOf).g G
  unfold f_Q_tellsOf
  refine R_st ho 2 (q' := (2, [(0, .inr (.inr (1, 87))), (1, .inl x1), (2, .inl x2), (3, .inl x3)], [.inl x1, .inr (.inr (1, 87))], 119, pm_RF, M)) rfl ?_
  refine R_callV ho mv_Q_ordersOf lk_1_340 rfl (As := [.inl x1]) (kd := 1) (a := 87) (st := []) rfl rfl (Nat.le_of_ble_eq_true rfl) rfl (by decide) (Nat.le_of_ble_eq_true rfl) (ok_Q_ordersOf G x1 M ) (fun r1049 => ?_)
  show pm_R _ _ _ (5, [(0, .inr (.inr (1, 87))), (1, .inl x1), (2, .inl x2), (3, .inl x3)], [.inl r1049], 119, pm_RF, M) _ _
  refine R_st ho 3 (q' := (10, [(4, .inl r1049), (0, .inr (.inr (1, 87))), (1, .inl x1), (2, .inl x2), (3, .inl x3)], [.inl (-1), .inl r1049], 119, pm_RF, M)) rfl ?_
  refine R_ic ho rfl (tgt := 23) rfl ?_
  refine R_ne ?_ ?_
  · refine R_st ho 1 (q' := (14, [(4, .inl r1049), (0, .inr (.inr (1, 87))), (1, .inl x1), (2, .inl x2), (3, .inl x3)], [.inl x1], 119, pm_RF, M)) rfl ?_
    refine R_if ho rfl (tgt := 21) rfl ?_
    refine R_ne ?_ ?_
    · refine R_st ho 2 (q' := (22, [(4, .inl r1049), (0, .inr (.inr (1, 87))), (1, .inl x1), (2, .inl x2), (3, .inl x3)], [.inl 1], 119, pm_RF, M)) rfl ?_
      exact R_end (v := some (.inl 1)) rfl (Or.inl rfl) rfl rfl
    · refine R_st ho 1 (q' := (22, [(4, .inl r1049), (0, .inr (.inr (1, 87))), (1, .inl x1), (2, .inl x2), (3, .inl x3)], [.inl 0], 119, pm_RF, M)) rfl ?_
      exact R_end (v := some (.inl 0)) rfl (Or.inl rfl) rfl rfl
  · refine R_st ho 3 (q' := (26, [(4, .inl r1049), (0, .inr (.inr (1, 87))), (1, .inl x1), (2, .inl x2), (3, .inl x3)], [.inl x3, .inl x2, .inr (.inr (1, 87))], 119, pm_RF, M)) rfl ?_
    refine R_callV ho mv_Q_names lk_1_343 rfl (As := [.inl x2, .inl x3]) (kd := 1) (a := 87) (st := []) rfl rfl (Nat.le_of_ble_eq_true rfl) rfl (by decide) (Nat.le_of_ble_eq_true rfl) (ok_Q_names G x2 x3 M ) (fun M1067 => ?_)
    show pm_R _ _ _ (29, [(4, .inl r1049), (0, .inr (.inr (1, 87))), (1, .inl x1), (2, .inl x2), (3, .inl x3)], [], 119, pm_RF, M1067) _ _
    refine R_st ho 2 (q' := (32, [(4, .inl r1049), (0, .inr (.inr (1, 87))), (1, .inl x1), (2, .inl x2), (3, .inl x3)], [.inl r1049, .inr (.inr (1, 87))], 119, pm_RF, M1067)) rfl ?_
    refine R_callV ho mv_Q_saysOf lk_1_346 rfl (As := [.inl r1049]) (kd := 1) (a := 87) (st := []) rfl rfl (Nat.le_of_ble_eq_true rfl) rfl (by decide) (Nat.le_of_ble_eq_true rfl) (ok_Q_saysOf G r1049 M1067 ) (fun r1091 => ?_)
    show pm_R _ _ _ (35, [(4, .inl r1049), (0, .inr (.inr (1, 87))), (1, .inl x1), (2, .inl x2), (3, .inl x3)], [.inr (.inl r1091.1)], 119, pm_RF, r1091.2) _ _
    refine R_st ho 3 (q' := (40, [(5, .inr (.inl r1091.1)), (4, .inl r1049), (0, .inr (.inr (1, 87))), (1, .inl x1), (2, .inl x2), (3, .inl x3)], [.inr (.inl 0), .inr (.inl r1091.1)], 119, pm_RF, r1091.2)) rfl ?_
    refine R_lc ho rfl rfl (tgt := 48) rfl ?_
    refine R_ge ?_ ?_
    · refine R_st ho 2 (q' := (53, [(5, .inr (.inl r1091.1)), (4, .inl r1049), (0, .inr (.inr (1, 87))), (1, .inl x1), (2, .inl x2), (3, .inl x3)], [.inr (.inl 999), .inr (.inl r1091.1)], 119, pm_RF, r1091.2)) rfl ?_
      refine R_lc ho rfl rfl (tgt := 63) rfl ?_
      refine R_le ?_ ?_
      · refine R_st ho 2 (q' := (66, [(5, .inr (.inl r1091.1)), (4, .inl r1049), (0, .inr (.inr (1, 87))), (1, .inl x1), (2, .inl x2), (3, .inl x3)], [.inl (l_2i r1091.1)], 119, pm_RF, r1091.2)) rfl ?_
        exact R_end (v := some (.inl (l_2i r1091.1))) rfl (Or.inl rfl) rfl rfl
      · refine R_st ho 2 (q' := (66, [(5, .inr (.inl r1091.1)), (4, .inl r1049), (0, .inr (.inr (1, 87))), (1, .inl x1), (2, .inl x2), (3, .inl x3)], [.inl 999], 119, pm_RF, r1091.2)) rfl ?_
        exact R_end (v := some (.inl 999)) rfl (Or.inl rfl) rfl rfl
    · refine R_st ho 2 (q' := (66, [(5, .inr (.inl r1091.1)), (4, .inl r1049), (0, .inr (.inr (1, 87))), (1, .inl x1), (2, .inl x2), (3, .inl x3)], [.inl 0], 119, pm_RF, r1091.2)) rfl ?_
      exact R_end (v := some (.inl 0)) rfl (Or.inl rfl) rfl rfl
theorem ok_Q_falls (G : pm_G) (x1 : Int) (M : pm_M)  : pm_R G mt_Q_falls 4 (0, [(0, .inr (.inr (1, 87))), (1, .inl x1)], [], 119, pm_RF, M) (f_Q_falls x1 M) (pm_Zr mt_Q_falls pm_gI) := by
  have ho : pm_oG G mt_Q_falls := (oa_Q_falls).g G
  unfold f_Q_falls
  refine R_st ho 2 (q' := (2, [(0, .inr (.inr (1, 87))), (1, .inl x1)], [.inl 4, .inr (.inr (1, 87))], 119, pm_RF, M)) rfl ?_
  refine R_callV ho mv_Q_ordersOf lk_1_340 rfl (As := [.inl 4]) (kd := 1) (a := 87) (st := []) rfl rfl (Nat.le_of_ble_eq_true rfl) rfl (by decide) (Nat.le_of_ble_eq_true rfl) (ok_Q_ordersOf G 4 M ) (fun r1100 => ?_)
  show pm_R _ _ _ (5, [(0, .inr (.inr (1, 87))), (1, .inl x1)], [.inl r1100], 119, pm_RF, M) _ _
  refine R_st ho 3 (q' := (8, [(2, .inl r1100), (0, .inr (.inr (1, 87))), (1, .inl x1)], [.inl (-1), .inl r1100], 119, pm_RF, M)) rfl ?_
  refine R_ic ho rfl (tgt := 24) rfl ?_
  refine R_eq ?_ ?_
  · refine R_st ho 1 (q' := (25, [(2, .inl r1100), (0, .inr (.inr (1, 87))), (1, .inl x1)], [.inl 0], 119, pm_RF, M)) rfl ?_
    exact R_end (v := some (.inl 0)) rfl (Or.inr ⟨rfl, Or.inl rfl⟩) rfl rfl
  · refine R_st ho 5 (q' := (19, [(2, .inl r1100), (0, .inr (.inr (1, 87))), (1, .inl x1)], [.inl (i_ad 70 x1), .inr (.inr (20, 88))], 119, pm_RF, M)) rfl ?_
    refine R_iald ho rfl rfl ?_
    refine R_st ho 1 (q' := (21, [(2, .inl r1100), (0, .inr (.inr (1, 87))), (1, .inl x1)], [.inl (-1), .inl (M 88 ((i_ad 70 x1)).toNat)], 119, pm_RF, M)) rfl ?_
    refine R_ic ho rfl (tgt := 26) rfl ?_
    refine R_ne ?_ ?_
    · refine R_st ho 1 (q' := (25, [(2, .inl r1100), (0, .inr (.inr (1, 87))), (1, .inl x1)], [.inl 0], 119, pm_RF, M)) rfl ?_
      exact R_end (v := some (.inl 0)) rfl (Or.inr ⟨rfl, Or.inl rfl⟩) rfl rfl
    · refine R_st ho 7 (q' := (36, [(2, .inl r1100), (0, .inr (.inr (1, 87))), (1, .inl x1)], [.inl (i_ad 70 x1), .inr (.inr (20, 88)), .inl x1, .inr (.inr (1, 87))], 119, pm_RF, M)) rfl ?_
      refine R_iald ho rfl rfl ?_
      refine R_callV ho mv_Q_names lk_1_343 rfl (As := [.inl x1, .inl (M 88 ((i_ad 70 x1)).toNat)]) (kd := 1) (a := 87) (st := []) rfl rfl (Nat.le_of_ble_eq_true rfl) rfl (by decide) (Nat.le_of_ble_eq_true rfl) (ok_Q_names G x1 (M 88 ((i_ad 70 x1)).toNat) M ) (fun M1101 => ?_)
      show pm_R _ _ _ (40, [(2, .inl r1100), (0, .inr (.inr (1, 87))), (1, .inl x1)], [], 119, pm_RF, M1101) _ _
      refine R_st ho 2 (q' := (42, [(2, .inl r1100), (0, .inr (.inr (1, 87))), (1, .inl x1)], [.inl r1100, .inr (.inr (1, 87))], 119, pm_RF, M1101)) rfl ?_
      refine R_callV ho mv_Q_saysOf lk_1_346 rfl (As := [.inl r1100]) (kd := 1) (a := 87) (st := []) rfl rfl (Nat.le_of_ble_eq_true rfl) rfl (by decide) (Nat.le_of_ble_eq_true rfl) (ok_Q_saysOf G r1100 M1101 ) (fun r1102 => ?_)
      show pm_R _ _ _ (45, [(2, .inl r1100), (0, .inr (.inr (1, 87))), (1, .inl x1)], [.inr (.inl r1102.1)], 119, pm_RF, r1102.2) _ _
      refine R_st ho 1 (q' := (46, [(2, .inl r1100), (0, .inr (.inr (1, 87))), (1, .inl x1)], [.inr (.inl 0), .inr (.inl r1102.1)], 119, pm_RF, r1102.2)) rfl ?_
      refine R_lc ho rfl rfl (tgt := 54) rfl ?_
      refine R_le ?_ ?_
      · refine R_st ho 1 (q' := (55, [(2, .inl r1100), (0, .inr (.inr (1, 87))), (1, .inl x1)], [.inl 0], 119, pm_RF, r1102.2)) rfl ?_
        exact R_end (v := some (.inl 0)) rfl (Or.inr ⟨rfl, Or.inl rfl⟩) rfl rfl
      · refine R_st ho 2 (q' := (55, [(2, .inl r1100), (0, .inr (.inr (1, 87))), (1, .inl x1)], [.inl 1], 119, pm_RF, r1102.2)) rfl ?_
        exact R_end (v := some (.inl 1)) rfl (Or.inr ⟨rfl, Or.inr rfl⟩) rfl rfl
theorem ok_Q_dayPasses_L2 (G : pm_G)    : ∀ (n_ : Nat) (y1 : Int) (M : pm_M), pm_R G mt_Q_dayPasses 5 (2, [(0, .inr (.inr (1, 87))), (1, .inl y1)], [], 119, pm_RF, M) (f_Q_dayPasses_L2 n_ y1 M) (fun e_ q_ => q_ = (123, [(0, .inr (.inr (1, 87)))], [], 119, pm_RF, e_)) := by
  have ho : pm_oG G mt_Q_dayPasses := (oa_Q_dayPasses).g G
  intro n_
  induction n_ with
  | zero => intro _ _; exact R_none
  | succ n_ ih_ =>
    intro y1 M
    rw [f_Q_dayPasses_L2]
    refine R_st ho 5 (q' := (9, [(0, .inr (.inr (1, 87))), (1, .inl y1)], [.inl (M 88 0), .inl y1], 119, pm_RF, M)) rfl ?_
    refine R_ic ho rfl (tgt := 123) rfl ?_
    refine R_ge ?_ ?_
    · refine R_pk [0] rfl ?_
      exact R_ret rfl
    · refine R_st ho 5 (q' := (20, [(0, .inr (.inr (1, 87))), (1, .inl y1)], [.inl (i_ad 70 y1), .inr (.inr (20, 88))], 119, pm_RF, M)) rfl ?_
      refine R_iald ho rfl rfl ?_
      refine R_st ho 1 (q' := (22, [(2, .inl (M 88 ((i_ad 70 y1)).toNat)), (0, .inr (.inr (1, 87))), (1, .inl y1)], [], 119, pm_RF, M)) rfl ?_
      refine R_nx (fun z_ => (22, [(2, .inl z_), (0, .inr (.inr (1, 87))), (1, .inl y1)], [], 119, pm_RF, M)) fun v1046 => ?_
      refine R_st ho 2 (q' := (24, [(2, .inl v1046), (0, .inr (.inr (1, 87))), (1, .inl y1)], [.inl (-1), .inl v1046], 119, pm_RF, M)) rfl ?_
      refine R_ic ho rfl (tgt := 47) rfl ?_
      refine R_ne ?_ ?_
      · refine R_st ho 9 (q' := (39, [(2, .inl v1046), (0, .inr (.inr (1, 87))), (1, .inl y1)], [.inl (-1), .inl y1, .inl 3, .inr (.inr (1, 87)), .inl (M 88 98), .inl 98, .inr (.inr (20, 88))], 119, pm_RF, M)) rfl ?_
        refine R_callV ho mv_Q_tellsOf lk_1_352 rfl (As := [.inl 3, .inl y1, .inl (-1)]) (kd := 1) (a := 87) (st := [.inl (M 88 98), .inl 98, .inr (.inr (20, 88))]) rfl rfl (Nat.le_of_ble_eq_true rfl) rfl (by decide) (Nat.le_of_ble_eq_true rfl) (ok_Q_tellsOf G 3 y1 (-1) M ) (fun r1092 => ?_)
        show pm_R _ _ _ (42, [(2, .inl v1046), (0, .inr (.inr (1, 87))), (1, .inl y1)], [.inl r1092.1, .inl (M 88 98), .inl 98, .inr (.inr (20, 88))], 119, pm_RF, r1092.2) _ _
        refine R_st ho 2 (q' := (44, [(2, .inl v1046), (0, .inr (.inr (1, 87))), (1, .inl y1)], [], 119, pm_RF, (pm_ms r1092.2 88 98 (i_ad (M 88 98) r1092.1)))) rfl ?_
        refine R_nm fun M1093 => ?_
        refine R_st ho 3 (q' := (2, [(1, .inl (i_ad y1 1)), (2, .inl v1046), (0, .inr (.inr (1, 87)))], [], 119, pm_RF, M1093)) rfl ?_
        refine R_pk [0, 1] rfl ?_
        exact ih_ (i_ad y1 1) M1093
      · refine R_st ho 12 (q' := (66, [(2, .inl v1046), (0, .inr (.inr (1, 87))), (1, .inl y1)], [.inl (i_ad 78 y1), .inr (.inr (20, 88)), .inl (i_ad 100 (i_ml 13 v1046)), .inr (.inr (20, 88))], 119, pm_RF, M)) rfl ?_
        refine R_iald ho rfl rfl ?_
        refine R_st ho 4 (q' := (71, [(2, .inl v1046), (0, .inr (.inr (1, 87))), (1, .inl y1)], [.inl (i_ad (i_ad (i_ad 100 (i_ml 13 v1046)) (M 88 ((i_ad 78 y1)).toNat)) 1), .inr (.inr (20, 88)), .inl (i_ad (i_ad (i_ad 100 (i_ml 13 v1046)) (M 88 ((i_ad 78 y1)).toNat)) 1), .inr (.inr (20, 88))], 119, pm_RF, M)) rfl ?_
        refine R_iald ho rfl rfl ?_
        refine R_st ho 2 (q' := (74, [(2, .inl v1046), (0, .inr (.inr (1, 87))), (1, .inl y1)], [.inl (i_ad (M 88 ((i_ad (i_ad (i_ad 100 (i_ml 13 v1046)) (M 88 ((i_ad 78 y1)).toNat)) 1)).toNat) 1), .inl (i_ad (i_ad (i_ad 100 (i_ml 13 v1046)) (M 88 ((i_ad 78 y1)).toNat)) 1), .inr (.inr (20, 88))], 119, pm_RF, M)) rfl ?_
        refine R_iast ho rfl rfl ?_
        refine R_nm fun M1094 => ?_
        refine R_st ho 4 (q' := (79, [(2, .inl v1046), (0, .inr (.inr (1, 87))), (1, .inl y1)], [.inl v1046, .inl y1, .inl 1, .inr (.inr (1, 87))], 119, pm_RF, M1094)) rfl ?_
        refine R_callV ho mv_Q_tellsOf lk_1_352 rfl (As := [.inl 1, .inl y1, .inl v1046]) (kd := 1) (a := 87) (st := []) rfl rfl (Nat.le_of_ble_eq_true rfl) rfl (by decide) (Nat.le_of_ble_eq_true rfl) (ok_Q_tellsOf G 1 y1 v1046 M1094 ) (fun r1095 => ?_)
        show pm_R _ _ _ (82, [(2, .inl v1046), (0, .inr (.inr (1, 87))), (1, .inl y1)], [.inl r1095.1], 119, pm_RF, r1095.2) _ _
        refine R_st ho 5 (q' := (87, [(3, .inl r1095.1), (2, .inl v1046), (0, .inr (.inr (1, 87))), (1, .inl y1)], [.inl v1046, .inl y1, .inl 0, .inr (.inr (1, 87))], 119, pm_RF, r1095.2)) rfl ?_
        refine R_callV ho mv_Q_tellsOf lk_1_352 rfl (As := [.inl 0, .inl y1, .inl v1046]) (kd := 1) (a := 87) (st := []) rfl rfl (Nat.le_of_ble_eq_true rfl) rfl (by decide) (Nat.le_of_ble_eq_true rfl) (ok_Q_tellsOf G 0 y1 v1046 r1095.2 ) (fun r1096 => ?_)
        show pm_R _ _ _ (90, [(3, .inl r1095.1), (2, .inl v1046), (0, .inr (.inr (1, 87))), (1, .inl y1)], [.inl r1096.1], 119, pm_RF, r1096.2) _ _
        refine R_st ho 9 (q' := (103, [(4, .inl r1096.1), (3, .inl r1095.1), (2, .inl v1046), (0, .inr (.inr (1, 87))), (1, .inl y1)], [], 119, pm_RF, (pm_ms r1096.2 88 98 (i_ad (r1096.2 88 98) r1095.1)))) rfl ?_
        refine R_nm fun M1097 => ?_
        refine R_st ho 6 (q' := (112, [(4, .inl r1096.1), (3, .inl r1095.1), (2, .inl v1046), (0, .inr (.inr (1, 87))), (1, .inl y1)], [.inl (i_ad 86 v1046), .inr (.inr (20, 88)), .inl (i_ad 86 v1046), .inr (.inr (20, 88))], 119, pm_RF, M1097)) rfl ?_
        refine R_iald ho rfl rfl ?_
        refine R_st ho 2 (q' := (116, [(4, .inl r1096.1), (3, .inl r1095.1), (2, .inl v1046), (0, .inr (.inr (1, 87))), (1, .inl y1)], [.inl (i_ad (M1097 88 ((i_ad 86 v1046)).toNat) r1096.1), .inl (i_ad 86 v1046), .inr (.inr (20, 88))], 119, pm_RF, M1097)) rfl ?_
        refine R_iast ho rfl rfl ?_
        refine R_nm fun M1098 => ?_
        refine R_st ho 2 (q' := (2, [(1, .inl (i_ad y1 1)), (4, .inl r1096.1), (3, .inl r1095.1), (2, .inl v1046), (0, .inr (.inr (1, 87)))], [], 119, pm_RF, M1098)) rfl ?_
        refine R_pk [0, 1] rfl ?_
        exact ih_ (i_ad y1 1) M1098
theorem ok_Q_dayPasses_L125 (G : pm_G)    : ∀ (n_ : Nat) (y1 : Int) (M : pm_M), pm_R G mt_Q_dayPasses 5 (125, [(0, .inr (.inr (1, 87))), (1, .inl y1)], [], 119, pm_RF, M) (f_Q_dayPasses_L125 n_ y1 M) (fun e_ q_ => q_ = (173, [(0, .inr (.inr (1, 87)))], [], 119, pm_RF, e_)) := by
  have ho : pm_oG G mt_Q_dayPasses := (oa_Q_dayPasses).g G
  intro n_
  induction n_ with
  | zero => intro _ _; exact R_none
  | succ n_ ih_ =>
    intro y1 M
    rw [f_Q_dayPasses_L125]
    refine R_st ho 5 (q' := (132, [(0, .inr (.inr (1, 87))), (1, .inl y1)], [.inl (M 88 0), .inl y1], 119, pm_RF, M)) rfl ?_
    refine R_ic ho rfl (tgt := 173) rfl ?_
    refine R_ge ?_ ?_
    · refine R_pk [0] rfl ?_
      exact R_ret rfl
    · refine R_st ho 2 (q' := (137, [(0, .inr (.inr (1, 87))), (1, .inl y1)], [.inl y1, .inr (.inr (1, 87))], 119, pm_RF, M)) rfl ?_
      refine R_callV ho mv_Q_falls lk_1_356 rfl (As := [.inl y1]) (kd := 1) (a := 87) (st := []) rfl rfl (Nat.le_of_ble_eq_true rfl) rfl (by decide) (Nat.le_of_ble_eq_true rfl) (ok_Q_falls G y1 M ) (fun r1103 => ?_)
      show pm_R _ _ _ (140, [(0, .inr (.inr (1, 87))), (1, .inl y1)], [.inl r1103.1], 119, pm_RF, r1103.2) _ _
      refine R_st ho 7 (q' := (150, [(2, .inl r1103.1), (0, .inr (.inr (1, 87))), (1, .inl y1)], [.inl r1103.1, .inl (i_ad 70 y1), .inr (.inr (20, 88))], 119, pm_RF, r1103.2)) rfl ?_
      refine R_if ho rfl (tgt := 157) rfl ?_
      refine R_eq ?_ ?_
      · refine R_st ho 5 (q' := (165, [(2, .inl r1103.1), (0, .inr (.inr (1, 87))), (1, .inl y1)], [.inl (i_ad 70 y1), .inr (.inr (20, 88)), .inl (i_ad 70 y1), .inr (.inr (20, 88))], 119, pm_RF, r1103.2)) rfl ?_
        refine R_iald ho rfl rfl ?_
        refine R_iast ho rfl rfl ?_
        refine R_nm fun M1104 => ?_
        refine R_st ho 2 (q' := (125, [(1, .inl (i_ad y1 1)), (2, .inl r1103.1), (0, .inr (.inr (1, 87)))], [], 119, pm_RF, M1104)) rfl ?_
        refine R_pk [0, 1] rfl ?_
        exact ih_ (i_ad y1 1) M1104
      · refine R_st ho 2 (q' := (166, [(2, .inl r1103.1), (0, .inr (.inr (1, 87))), (1, .inl y1)], [.inl (-1), .inl (i_ad 70 y1), .inr (.inr (20, 88))], 119, pm_RF, r1103.2)) rfl ?_
        refine R_iast ho rfl rfl ?_
        refine R_nm fun M1105 => ?_
        refine R_st ho 2 (q' := (125, [(1, .inl (i_ad y1 1)), (2, .inl r1103.1), (0, .inr (.inr (1, 87)))], [], 119, pm_RF, M1105)) rfl ?_
        refine R_pk [0, 1] rfl ?_
        exact ih_ (i_ad y1 1) M1105
theorem ok_Q_dayPasses (G : pm_G)  (M : pm_M)  : pm_R G mt_Q_dayPasses 5 (0, [(0, .inr (.inr (1, 87)))], [], 119, pm_RF, M) (f_Q_dayPasses M) (pm_Zr mt_Q_dayPasses pm_gV) := by
  have ho : pm_oG G mt_Q_dayPasses := (oa_Q_dayPasses).g G
  unfold f_Q_dayPasses
  refine R_st ho 2 (q' := (2, [(1, .inl 0), (0, .inr (.inr (1, 87)))], [], 119, pm_RF, M)) rfl ?_
  refine R_pk [0, 1] rfl ?_
  refine R_bind (ok_Q_dayPasses_L2 G pm_F 0 M) ?_
  intro e1099 q_ hq_
  obtain rfl : q_ = (123, [(0, .inr (.inr (1, 87)))], [], 119, pm_RF, e1099) := hq_
  refine R_st ho 2 (q' := (125, [(1, .inl 0), (0, .inr (.inr (1, 87)))], [], 119, pm_RF, e1099)) rfl ?_
  refine R_pk [0, 1] rfl ?_
  refine R_bind (ok_Q_dayPasses_L125 G pm_F 0 e1099) ?_
  intro e1106 q_ hq_
  obtain rfl : q_ = (173, [(0, .inr (.inr (1, 87)))], [], 119, pm_RF, e1106) := hq_
  refine R_st ho 8 (q' := (184, [(0, .inr (.inr (1, 87)))], [], 119, pm_RF, (pm_ms e1106 88 99 (i_ad (e1106 88 99) 1)))) rfl ?_
  refine R_nm fun M1107 => ?_
  exact R_end (v := none) rfl rfl rfl rfl
