/-! printed by my own program: functions of the pure memory, and that the code follows them -/
theorem ok_Reader_read_L33 (G : pm_G)    : ∀ (n_ : Nat) (y2 : Int) (M : pm_M), pm_R G mt_Reader_read 112 (33, [(0, .inr (.inr (7, 66))), (2, .inl y2)], [], 119, pm_RF, M) (f_Reader_read_L33 n_ y2 M) (fun e_ q_ => match e_ with | .inl e_ => q_ = (56, [], [], 119, pm_RF, e_) | .inr e_ => q_ = (64, [], [], 119, pm_RF, e_)) := by
  have ho : pm_oG G mt_Reader_read := (oa_Reader_read).g G
  intro n_
  induction n_ with
  | zero => intro _ _; exact R_none
  | succ n_ ih_ =>
    intro y2 M
    rw [f_Reader_read_L33]
    refine R_st ho 3 (q' := (39, [(0, .inr (.inr (7, 66))), (2, .inl y2)], [.inl 38, .inl (M 66 3)], 119, pm_RF, M)) rfl ?_
    refine R_ic ho rfl (tgt := 64) rfl ?_
    refine R_eq ?_ ?_
    · refine R_pk [] rfl ?_
      exact R_ret rfl
    · refine R_st ho 2 (q' := (46, [(0, .inr (.inr (7, 66))), (2, .inl y2)], [.inl 300, .inl y2], 119, pm_RF, M)) rfl ?_
      refine R_ic ho rfl (tgt := 64) rfl ?_
      refine R_ge ?_ ?_
      · refine R_pk [] rfl ?_
        exact R_ret rfl
      · refine R_st ho 1 (q' := (50, [(0, .inr (.inr (7, 66))), (2, .inl y2)], [.inr (.inr (7, 66))], 119, pm_RF, M)) rfl ?_
        refine R_callV ho mv_Reader_clause lk_7_40 rfl (As := []) (kd := 7) (a := 66) (st := []) rfl rfl (Nat.le_of_ble_eq_true rfl) rfl (by decide) (Nat.le_of_ble_eq_true rfl) (ok_Reader_clause G  M ) (fun r304 => ?_)
        show pm_R _ _ _ (53, [(0, .inr (.inr (7, 66))), (2, .inl y2)], [.inl r304.1], 119, pm_RF, r304.2) _ _
        refine R_if ho rfl (tgt := 58) rfl ?_
        refine R_ne ?_ ?_
        · refine R_pk [] rfl ?_
          exact R_ret rfl
        · refine R_st ho 2 (q' := (33, [(2, .inl (i_ad y2 1)), (0, .inr (.inr (7, 66)))], [], 119, pm_RF, r304.2)) rfl ?_
          refine R_pk [0, 2] rfl ?_
          exact ih_ (i_ad y2 1) r304.2
theorem ok_Reader_read (G : pm_G) (t1 : Nat) (M : pm_M) (ht1 : pm_isT t1) : pm_R G mt_Reader_read 112 (0, [(0, .inr (.inr (7, 66))), (1, .inr (.inr (10, t1)))], [], 119, pm_RF, M) (f_Reader_read t1 M) (pm_Zr mt_Reader_read pm_gI) := by
  have ho : pm_oG G mt_Reader_read := (oa_Reader_read).g G
  unfold f_Reader_read
  refine R_st ho 3 (q' := (5, [(0, .inr (.inr (7, 66))), (1, .inr (.inr (10, t1)))], [], 119, pm_RF, (pm_ms M 66 1 ((t1 : Nat) + 1 : Int)))) rfl ?_
  refine R_nm fun M163 => ?_
  refine R_st ho 1 (q' := (6, [(0, .inr (.inr (7, 66))), (1, .inr (.inr (10, t1)))], [.inr (.inr (7, 66))], 119, pm_RF, M163)) rfl ?_
  refine R_getI ho rfl rfl (fun h164 => ?_)
  refine R_callV ho mv_Text_clear lk_7_26 rfl (As := []) (kd := 10) (a := (M163 66 1 - 1).toNat) (st := []) rfl rfl (Nat.le_of_ble_eq_true rfl) rfl (by decide) (Nat.le_of_ble_eq_true rfl) (ok_Text_clear G (M163 66 1 - 1).toNat M163 h164) (fun M170 => ?_)
  show pm_R _ _ _ (12, [(0, .inr (.inr (7, 66))), (1, .inr (.inr (10, t1)))], [], 119, pm_RF, M170) _ _
  refine R_st ho 3 (q' := (17, [(0, .inr (.inr (7, 66))), (1, .inr (.inr (10, t1)))], [], 119, pm_RF, (pm_ms M170 66 7 0))) rfl ?_
  refine R_nm fun M171 => ?_
  refine R_st ho 3 (q' := (22, [(0, .inr (.inr (7, 66))), (1, .inr (.inr (10, t1)))], [], 119, pm_RF, (pm_ms M171 66 8 (-1)))) rfl ?_
  refine R_nm fun M172 => ?_
  refine R_st ho 3 (q' := (27, [(0, .inr (.inr (7, 66))), (1, .inr (.inr (10, t1)))], [], 119, pm_RF, (pm_ms M172 66 6 0))) rfl ?_
  refine R_nm fun M173 => ?_
  refine R_st ho 1 (q' := (28, [(0, .inr (.inr (7, 66))), (1, .inr (.inr (10, t1)))], [.inr (.inr (7, 66))], 119, pm_RF, M173)) rfl ?_
  refine R_callV ho mv_Reader_advance lk_7_34 rfl (As := []) (kd := 7) (a := 66) (st := []) rfl rfl (Nat.le_of_ble_eq_true rfl) rfl (by decide) (Nat.le_of_ble_eq_true rfl) (ok_Reader_advance G  M173 ) (fun M228 => ?_)
  show pm_R _ _ _ (31, [(0, .inr (.inr (7, 66))), (1, .inr (.inr (10, t1)))], [], 119, pm_RF, M228) _ _
  refine R_st ho 2 (q' := (33, [(2, .inl 0), (0, .inr (.inr (7, 66))), (1, .inr (.inr (10, t1)))], [], 119, pm_RF, M228)) rfl ?_
  refine R_pk [0, 2] rfl ?_
  refine R_bind (ok_Reader_read_L33 G pm_F 0 M228) ?_
  intro e305 q_ hq_
  cases e305 with
  | inl e305 =>
    obtain rfl : q_ = (56, [], [], 119, pm_RF, e305) := hq_
    refine R_st ho 1 (q' := (57, [], [.inl 0], 119, pm_RF, e305)) rfl ?_
    exact R_end (v := some (.inl 0)) rfl (Or.inr ⟨rfl, Or.inl rfl⟩) rfl rfl
  | inr e305 =>
    obtain rfl : q_ = (64, [], [], 119, pm_RF, e305) := hq_
    refine R_st ho 1 (q' := (65, [], [.inl 1], 119, pm_RF, e305)) rfl ?_
    exact R_end (v := some (.inl 1)) rfl (Or.inr ⟨rfl, Or.inr rfl⟩) rfl rfl
theorem ok_Told_addText (G : pm_G)  (M : pm_M)  : pm_R G mt_Told_addText 1 (0, [(0, .inr (.inr (11, 24)))], [], 119, pm_RF, M) (f_Told_addText M) (pm_Zr mt_Told_addText pm_gV) := by
  have ho : pm_oG G mt_Told_addText := (oa_Told_addText).g G
  unfold f_Told_addText
  refine R_st ho 6 (q' := (10, [(0, .inr (.inr (11, 24)))], [], 119, pm_RF, (pm_ms M 24 13 (i_ad (M 24 13) 1)))) rfl ?_
  refine R_nm fun M308 => ?_
  exact R_end (v := none) rfl rfl rfl rfl
theorem ok_X_text (G : pm_G)  (M : pm_M)  : pm_R G mt_X_text 113 (0, [(0, .inr (.inr (0, 0)))], [], 119, pm_RF, M) (f_X_text M) (pm_Zr mt_X_text pm_gI) := by
  have ho : pm_oG G mt_X_text := (oa_X_text).g G
  unfold f_X_text
  refine R_st ho 2 (q' := (4, [(0, .inr (.inr (0, 0)))], [.inr (.inr (11, 24))], 119, pm_RF, M)) rfl ?_
  refine R_callV ho mv_Told_texts lk_0_187 rfl (As := []) (kd := 11) (a := 24) (st := []) rfl rfl (Nat.le_of_ble_eq_true rfl) rfl (by decide) (Nat.le_of_ble_eq_true rfl) (ok_Told_texts G  M ) (fun r161 => ?_)
  show pm_R _ _ _ (7, [(0, .inr (.inr (0, 0)))], [.inl r161], 119, pm_RF, M) _ _
  refine R_st ho 5 (q' := (14, [(1, .inl r161), (0, .inr (.inr (0, 0)))], [.inl 4, .inl r161], 119, pm_RF, M)) rfl ?_
  refine R_ic ho rfl (tgt := 19) rfl ?_
  refine R_lt ?_ ?_
  · refine R_st ho 5 (q' := (28, [(1, .inl r161), (0, .inr (.inr (0, 0)))], [.inl r161, .inr (.inr (24, 39)), .inr (.inr (7, 66))], 119, pm_RF, M)) rfl ?_
    refine R_aaldT ho rfl (fun h162 => ?_)
    refine R_callV ho mv_Reader_read lk_0_189 rfl (As := [.inr (.inr (10, (pm_tx r161)))]) (kd := 7) (a := 66) (st := []) rfl rfl (Nat.le_of_ble_eq_true rfl) rfl (by decide) (Nat.le_of_ble_eq_true rfl) (ok_Reader_read G (pm_tx r161) M h162) (fun r306 => ?_)
    show pm_R _ _ _ (32, [(1, .inl r161), (0, .inr (.inr (0, 0)))], [.inl r306.1], 119, pm_RF, r306.2) _ _
    refine R_st ho 4 (q' := (38, [(2, .inl r306.1), (1, .inl r161), (0, .inr (.inr (0, 0)))], [.inl 0, .inr (.inr (9, 37))], 119, pm_RF, r306.2)) rfl ?_
    refine R_callV ho mv_Tape_cut lk_0_184 rfl (As := [.inl 0]) (kd := 9) (a := 37) (st := []) rfl rfl (Nat.le_of_ble_eq_true rfl) rfl (by decide) (Nat.le_of_ble_eq_true rfl) (ok_Tape_cut G 0 r306.2 ) (fun M307 => ?_)
    show pm_R _ _ _ (41, [(2, .inl r306.1), (1, .inl r161), (0, .inr (.inr (0, 0)))], [], 119, pm_RF, M307) _ _
    refine R_st ho 1 (q' := (42, [(2, .inl r306.1), (1, .inl r161), (0, .inr (.inr (0, 0)))], [.inl r306.1], 119, pm_RF, M307)) rfl ?_
    refine R_if ho rfl (tgt := 47) rfl ?_
    refine R_ne ?_ ?_
    · refine R_st ho 1 (q' := (46, [(2, .inl r306.1), (1, .inl r161), (0, .inr (.inr (0, 0)))], [.inl (-1)], 119, pm_RF, M307)) rfl ?_
      exact R_end (v := some (.inl (-1))) rfl (Or.inl rfl) rfl rfl
    · refine R_st ho 2 (q' := (51, [(2, .inl r306.1), (1, .inl r161), (0, .inr (.inr (0, 0)))], [.inr (.inr (11, 24))], 119, pm_RF, M307)) rfl ?_
      refine R_callV ho mv_Told_addText lk_0_193 rfl (As := []) (kd := 11) (a := 24) (st := []) rfl rfl (Nat.le_of_ble_eq_true rfl) rfl (by decide) (Nat.le_of_ble_eq_true rfl) (ok_Told_addText G  M307 ) (fun M309 => ?_)
      show pm_R _ _ _ (54, [(2, .inl r306.1), (1, .inl r161), (0, .inr (.inr (0, 0)))], [], 119, pm_RF, M309) _ _
      refine R_st ho 1 (q' := (55, [(2, .inl r306.1), (1, .inl r161), (0, .inr (.inr (0, 0)))], [.inl r161], 119, pm_RF, M309)) rfl ?_
      exact R_end (v := some (.inl r161)) rfl (Or.inl rfl) rfl rfl
  · refine R_st ho 1 (q' := (18, [(1, .inl r161), (0, .inr (.inr (0, 0)))], [.inl (-1)], 119, pm_RF, M)) rfl ?_
    exact R_end (v := some (.inl (-1))) rfl (Or.inl rfl) rfl rfl
theorem ok_Reader_latestFault (G : pm_G)  (M : pm_M)  : pm_R G mt_Reader_latestFault 1 (0, [(0, .inr (.inr (7, 66)))], [], 119, pm_RF, M) (f_Reader_latestFault M) (pm_Zr mt_Reader_latestFault (pm_gi M)) := by
  have ho : pm_oG G mt_Reader_latestFault := (oa_Reader_latestFault).g G
  unfold f_Reader_latestFault
  refine R_st ho 2 (q' := (4, [(0, .inr (.inr (7, 66)))], [.inl (M 66 7)], 119, pm_RF, M)) rfl ?_
  exact R_end (v := some (.inl (M 66 7))) rfl (Or.inl rfl) rfl rfl
theorem ok_Reader_latestPlace (G : pm_G)  (M : pm_M)  : pm_R G mt_Reader_latestPlace 1 (0, [(0, .inr (.inr (7, 66)))], [], 119, pm_RF, M) (f_Reader_latestPlace M) (pm_Zr mt_Reader_latestPlace (pm_gi M)) := by
  have ho : pm_oG G mt_Reader_latestPlace := (oa_Reader_latestPlace).g G
  unfold f_Reader_latestPlace
  refine R_st ho 2 (q' := (4, [(0, .inr (.inr (7, 66)))], [.inl (M 66 8)], 119, pm_RF, M)) rfl ?_
  exact R_end (v := some (.inl (M 66 8))) rfl (Or.inl rfl) rfl rfl
theorem ok_X_fault (G : pm_G) (x1 : Int) (M : pm_M)  : pm_R G mt_X_fault 2 (0, [(0, .inr (.inr (0, 0))), (1, .inl x1)], [], 119, pm_RF, M) (f_X_fault x1 M) (pm_Zr mt_X_fault (pm_gi M)) := by
  have ho : pm_oG G mt_X_fault := (oa_X_fault).g G
  unfold f_X_fault
  refine R_st ho 1 (q' := (1, [(0, .inr (.inr (0, 0))), (1, .inl x1)], [.inl x1], 119, pm_RF, M)) rfl ?_
  refine R_if ho rfl (tgt := 12) rfl ?_
  refine R_ne ?_ ?_
  · refine R_st ho 2 (q' := (8, [(0, .inr (.inr (0, 0))), (1, .inl x1)], [.inr (.inr (7, 66))], 119, pm_RF, M)) rfl ?_
    refine R_callV ho mv_Reader_latestFault lk_0_196 rfl (As := []) (kd := 7) (a := 66) (st := []) rfl rfl (Nat.le_of_ble_eq_true rfl) rfl (by decide) (Nat.le_of_ble_eq_true rfl) (ok_Reader_latestFault G  M ) (fun r310 => ?_)
    show pm_R _ _ _ (11, [(0, .inr (.inr (0, 0))), (1, .inl x1)], [.inl r310], 119, pm_RF, M) _ _
    exact R_end (v := some (.inl r310)) rfl (Or.inl rfl) rfl rfl
  · refine R_st ho 2 (q' := (14, [(0, .inr (.inr (0, 0))), (1, .inl x1)], [.inl 1, .inl x1], 119, pm_RF, M)) rfl ?_
    refine R_ic ho rfl (tgt := 27) rfl ?_
    refine R_ne ?_ ?_
    · refine R_st ho 2 (q' := (21, [(0, .inr (.inr (0, 0))), (1, .inl x1)], [.inr (.inr (7, 66))], 119, pm_RF, M)) rfl ?_
      refine R_callV ho mv_Reader_latestPlace lk_0_199 rfl (As := []) (kd := 7) (a := 66) (st := []) rfl rfl (Nat.le_of_ble_eq_true rfl) rfl (by decide) (Nat.le_of_ble_eq_true rfl) (ok_Reader_latestPlace G  M ) (fun r311 => ?_)
      show pm_R _ _ _ (24, [(0, .inr (.inr (0, 0))), (1, .inl x1)], [.inl r311], 119, pm_RF, M) _ _
      refine R_st ho 1 (q' := (28, [(0, .inr (.inr (0, 0))), (1, .inl x1)], [.inl r311], 119, pm_RF, M)) rfl ?_
      exact R_end (v := some (.inl r311)) rfl (Or.inl rfl) rfl rfl
    · refine R_st ho 1 (q' := (28, [(0, .inr (.inr (0, 0))), (1, .inl x1)], [.inl (-1)], 119, pm_RF, M)) rfl ?_
      exact R_end (v := some (.inl (-1))) rfl (Or.inl rfl) rfl rfl
theorem ok_Told_ruledBy (G : pm_G) (x1 : Int) (M : pm_M)  : pm_R G mt_Told_ruledBy 1 (0, [(0, .inr (.inr (11, 24))), (1, .inl x1)], [], 119, pm_RF, M) (f_Told_ruledBy x1 M) (pm_Zr mt_Told_ruledBy pm_gV) := by
  have ho : pm_oG G mt_Told_ruledBy := (oa_Told_ruledBy).g G
  unfold f_Told_ruledBy
  refine R_st ho 3 (q' := (5, [(0, .inr (.inr (11, 24))), (1, .inl x1)], [], 119, pm_RF, (pm_ms M 24 14 x1))) rfl ?_
  refine R_nm fun M312 => ?_
  exact R_end (v := none) rfl rfl rfl rfl
theorem ok_X_by (G : pm_G) (x1 : Int) (M : pm_M)  : pm_R G mt_X_by 2 (0, [(0, .inr (.inr (0, 0))), (1, .inl x1)], [], 119, pm_RF, M) (f_X_by x1 M) (pm_Zr mt_X_by pm_gI) := by
  have ho : pm_oG G mt_X_by := (oa_X_by).g G
  unfold f_X_by
  refine R_st ho 2 (q' := (2, [(0, .inr (.inr (0, 0))), (1, .inl x1)], [.inl (-1), .inl x1], 119, pm_RF, M)) rfl ?_
  refine R_ic ho rfl (tgt := 18) rfl ?_
  refine R_eq ?_ ?_
  · refine R_st ho 3 (q' := (23, [(0, .inr (.inr (0, 0))), (1, .inl x1)], [.inl x1, .inr (.inr (11, 24))], 119, pm_RF, M)) rfl ?_
    refine R_callV ho mv_Told_ruledBy lk_0_205 rfl (As := [.inl x1]) (kd := 11) (a := 24) (st := []) rfl rfl (Nat.le_of_ble_eq_true rfl) rfl (by decide) (Nat.le_of_ble_eq_true rfl) (ok_Told_ruledBy G x1 M ) (fun M313 => ?_)
    show pm_R _ _ _ (26, [(0, .inr (.inr (0, 0))), (1, .inl x1)], [], 119, pm_RF, M313) _ _
    refine R_st ho 1 (q' := (27, [(0, .inr (.inr (0, 0))), (1, .inl x1)], [.inl 1], 119, pm_RF, M313)) rfl ?_
    exact R_end (v := some (.inl 1)) rfl (Or.inr ⟨rfl, Or.inr rfl⟩) rfl rfl
  · refine R_st ho 3 (q' := (10, [(0, .inr (.inr (0, 0))), (1, .inl x1)], [.inl x1, .inr (.inr (11, 24))], 119, pm_RF, M)) rfl ?_
    refine R_callV ho mv_Told_isText lk_0_202 rfl (As := [.inl x1]) (kd := 11) (a := 24) (st := []) rfl rfl (Nat.le_of_ble_eq_true rfl) rfl (by decide) (Nat.le_of_ble_eq_true rfl) (ok_Told_isText G x1 M ) (fun r314 => ?_)
    show pm_R _ _ _ (13, [(0, .inr (.inr (0, 0))), (1, .inl x1)], [.inl r314], 119, pm_RF, M) _ _
    refine R_if ho rfl (tgt := 18) rfl ?_
    refine R_ne ?_ ?_
    · refine R_st ho 1 (q' := (17, [(0, .inr (.inr (0, 0))), (1, .inl x1)], [.inl 0], 119, pm_RF, M)) rfl ?_
      exact R_end (v := some (.inl 0)) rfl (Or.inr ⟨rfl, Or.inl rfl⟩) rfl rfl
    · refine R_st ho 3 (q' := (23, [(0, .inr (.inr (0, 0))), (1, .inl x1)], [.inl x1, .inr (.inr (11, 24))], 119, pm_RF, M)) rfl ?_
      refine R_callV ho mv_Told_ruledBy lk_0_205 rfl (As := [.inl x1]) (kd := 11) (a := 24) (st := []) rfl rfl (Nat.le_of_ble_eq_true rfl) rfl (by decide) (Nat.le_of_ble_eq_true rfl) (ok_Told_ruledBy G x1 M ) (fun M315 => ?_)
      show pm_R _ _ _ (26, [(0, .inr (.inr (0, 0))), (1, .inl x1)], [], 119, pm_RF, M315) _ _
      refine R_st ho 1 (q' := (27, [(0, .inr (.inr (0, 0))), (1, .inl x1)], [.inl 1], 119, pm_RF, M315)) rfl ?_
      exact R_end (v := some (.inl 1)) rfl (Or.inr ⟨rfl, Or.inr rfl⟩) rfl rfl
theorem ok_Text_clauses (G : pm_G) (t0 : Nat) (M : pm_M) (ht0 : pm_isT t0) : pm_R G mt_Text_clauses 1 (0, [(0, .inr (.inr (10, t0)))], [], 119, pm_RF, M) (f_Text_clauses t0 M) (pm_Zr mt_Text_clauses (pm_gi M)) := by
  have ho : pm_oG G mt_Text_clauses := (oa_Text_clauses).g G
  unfold f_Text_clauses
  refine R_st ho 2 (q' := (4, [(0, .inr (.inr (10, t0)))], [.inl (M t0 5)], 119, pm_RF, M)) rfl ?_
  exact R_end (v := some (.inl (M t0 5))) rfl (Or.inl rfl) rfl rfl
theorem ok_Text_kind (G : pm_G) (t0 : Nat) (x1 : Int) (M : pm_M) (ht0 : pm_isT t0) : pm_R G mt_Text_kind 1 (0, [(0, .inr (.inr (10, t0))), (1, .inl x1)], [], 119, pm_RF, M) (f_Text_kind t0 x1 M) (pm_Zr mt_Text_kind (pm_gi M)) := by
  have ho : pm_oG G mt_Text_kind := (oa_Text_kind).g G
  unfold f_Text_kind
  refine R_st ho 1 (q' := (1, [(0, .inr (.inr (10, t0))), (1, .inl x1)], [.inr (.inr (10, t0))], 119, pm_RF, M)) rfl ?_
  refine R_getT ho rfl rfl (f := 0) (by decide) ht0 (c := (t0 + 1 + 0)) rfl ?_
  refine R_st ho 1 (q' := (5, [(0, .inr (.inr (10, t0))), (1, .inl x1)], [.inl x1, .inr (.inr (20, (t0 + 1 + 0)))], 119, pm_RF, M)) rfl ?_
  refine R_iald ho (pm_lnT 0 ht0 (by decide)) rfl ?_
  exact R_end (v := some (.inl (M (t0 + 1 + 0) (x1).toNat))) rfl (Or.inl rfl) rfl rfl
theorem ok_X_played_L23 (G : pm_G) (u2 : Nat) (hu2 : pm_isT u2)  : ∀ (n_ : Nat) (y3 : Int) (M : pm_M), pm_R G mt_X_played 7 (23, [(0, .inr (.inr (0, 0))), (2, .inr (.inr (10, u2))), (3, .inl y3)], [], 119, pm_RF, M) (f_X_played_L23 u2 n_ y3 M) (fun e_ q_ => match e_ with | .inl e_ => q_ = (146, [(3, .inl e_.1)], [], 119, pm_RF, e_.2) | .inr e_ => q_ = (154, [], [], 119, pm_RF, e_)) := by
  have ho : pm_oG G mt_X_played := (oa_X_played).g G
  intro n_
  induction n_ with
  | zero => intro _ _; exact R_none
  | succ n_ ih_ =>
    intro y3 M
    rw [f_X_played_L23]
    refine R_st ho 2 (q' := (25, [(0, .inr (.inr (0, 0))), (2, .inr (.inr (10, u2))), (3, .inl y3)], [.inr (.inr (10, u2)), .inl y3], 119, pm_RF, M)) rfl ?_
    refine R_callV ho mv_Text_clauses lk_0_208 rfl (As := []) (kd := 10) (a := u2) (st := [.inl y3]) rfl rfl (Nat.le_of_ble_eq_true rfl) rfl (by decide) (Nat.le_of_ble_eq_true rfl) (ok_Text_clauses G u2 M hu2) (fun r318 => ?_)
    show pm_R _ _ _ (28, [(0, .inr (.inr (0, 0))), (2, .inr (.inr (10, u2))), (3, .inl y3)], [.inl r318, .inl y3], 119, pm_RF, M) _ _
    refine R_ic ho rfl (tgt := 154) rfl ?_
    refine R_ge ?_ ?_
    · refine R_pk [] rfl ?_
      exact R_ret rfl
    · refine R_st ho 2 (q' := (33, [(0, .inr (.inr (0, 0))), (2, .inr (.inr (10, u2))), (3, .inl y3)], [.inl y3, .inr (.inr (10, u2))], 119, pm_RF, M)) rfl ?_
      refine R_callV ho mv_Text_first lk_0_211 rfl (As := [.inl y3]) (kd := 10) (a := u2) (st := []) rfl rfl (Nat.le_of_ble_eq_true rfl) rfl (by decide) (Nat.le_of_ble_eq_true rfl) (ok_Text_first G u2 y3 M hu2) (fun r319 => ?_)
      show pm_R _ _ _ (36, [(0, .inr (.inr (0, 0))), (2, .inr (.inr (10, u2))), (3, .inl y3)], [.inl r319], 119, pm_RF, M) _ _
      refine R_st ho 3 (q' := (40, [(4, .inl r319), (0, .inr (.inr (0, 0))), (2, .inr (.inr (10, u2))), (3, .inl y3)], [.inl y3, .inr (.inr (10, u2))], 119, pm_RF, M)) rfl ?_
      refine R_callV ho mv_Text_second lk_0_214 rfl (As := [.inl y3]) (kd := 10) (a := u2) (st := []) rfl rfl (Nat.le_of_ble_eq_true rfl) rfl (by decide) (Nat.le_of_ble_eq_true rfl) (ok_Text_second G u2 y3 M hu2) (fun r320 => ?_)
      show pm_R _ _ _ (43, [(4, .inl r319), (0, .inr (.inr (0, 0))), (2, .inr (.inr (10, u2))), (3, .inl y3)], [.inl r320], 119, pm_RF, M) _ _
      refine R_st ho 3 (q' := (47, [(5, .inl r320), (4, .inl r319), (0, .inr (.inr (0, 0))), (2, .inr (.inr (10, u2))), (3, .inl y3)], [.inl y3, .inr (.inr (10, u2))], 119, pm_RF, M)) rfl ?_
      refine R_callV ho mv_Text_kind lk_0_217 rfl (As := [.inl y3]) (kd := 10) (a := u2) (st := []) rfl rfl (Nat.le_of_ble_eq_true rfl) rfl (by decide) (Nat.le_of_ble_eq_true rfl) (ok_Text_kind G u2 y3 M hu2) (fun r321 => ?_)
      show pm_R _ _ _ (50, [(5, .inl r320), (4, .inl r319), (0, .inr (.inr (0, 0))), (2, .inr (.inr (10, u2))), (3, .inl y3)], [.inl r321], 119, pm_RF, M) _ _
      refine R_cs (fun z_ => (50, [(5, .inl r320), (4, .inl r319), (0, .inr (.inr (0, 0))), (2, .inr (.inr (10, u2))), (3, .inl y3)], [.inl z_], 119, pm_RF, M)) ?_ (fun h326 => ?_)
      · refine R_swk ho rfl (by decide) rfl (tgt := 80) rfl (by decide +kernel) ?_
        refine R_st ho 3 (q' := (85, [(5, .inl r320), (4, .inl r319), (0, .inr (.inr (0, 0))), (2, .inr (.inr (10, u2))), (3, .inl y3)], [.inl r320, .inl r319, .inr (.inr (0, 0))], 119, pm_RF, M)) rfl ?_
        refine R_callV ho mv_X_put lk_0_220 rfl (As := [.inl r319, .inl r320]) (kd := 0) (a := 0) (st := []) rfl rfl (Nat.le_of_ble_eq_true rfl) rfl (by decide) (Nat.le_of_ble_eq_true rfl) (ok_X_put G r319 r320 M ) (fun r322 => ?_)
        show pm_R _ _ _ (88, [(5, .inl r320), (4, .inl r319), (0, .inr (.inr (0, 0))), (2, .inr (.inr (10, u2))), (3, .inl y3)], [.inl r322.1], 119, pm_RF, r322.2) _ _
        refine R_st ho 3 (q' := (143, [(6, .inl r322.1), (5, .inl r320), (4, .inl r319), (0, .inr (.inr (0, 0))), (2, .inr (.inr (10, u2))), (3, .inl y3)], [.inl r322.1], 119, pm_RF, r322.2)) rfl ?_
        refine R_if ho rfl (tgt := 148) rfl ?_
        refine R_ne ?_ ?_
        · refine R_pk [3] rfl ?_
          exact R_ret rfl
        · refine R_st ho 2 (q' := (23, [(3, .inl (i_ad y3 1)), (6, .inl r322.1), (5, .inl r320), (4, .inl r319), (0, .inr (.inr (0, 0))), (2, .inr (.inr (10, u2)))], [], 119, pm_RF, r322.2)) rfl ?_
          refine R_pk [0, 2, 3] rfl ?_
          exact ih_ (i_ad y3 1) r322.2
      refine R_cs (fun z_ => (50, [(5, .inl r320), (4, .inl r319), (0, .inr (.inr (0, 0))), (2, .inr (.inr (10, u2))), (3, .inl y3)], [.inl z_], 119, pm_RF, M)) ?_ (fun h327 => ?_)
      · refine R_swk ho rfl (by decide) rfl (tgt := 91) rfl (by decide +kernel) ?_
        refine R_st ho 2 (q' := (94, [(5, .inl r320), (4, .inl r319), (0, .inr (.inr (0, 0))), (2, .inr (.inr (10, u2))), (3, .inl y3)], [.inl r319, .inr (.inr (0, 0))], 119, pm_RF, M)) rfl ?_
        refine R_callV ho mv_X_off lk_0_223 rfl (As := [.inl r319]) (kd := 0) (a := 0) (st := []) rfl rfl (Nat.le_of_ble_eq_true rfl) rfl (by decide) (Nat.le_of_ble_eq_true rfl) (ok_X_off G r319 M ) (fun r323 => ?_)
        show pm_R _ _ _ (97, [(5, .inl r320), (4, .inl r319), (0, .inr (.inr (0, 0))), (2, .inr (.inr (10, u2))), (3, .inl y3)], [.inl r323.1], 119, pm_RF, r323.2) _ _
        refine R_st ho 1 (q' := (98, [(5, .inl r320), (4, .inl r319), (0, .inr (.inr (0, 0))), (2, .inr (.inr (10, u2))), (3, .inl y3)], [.inl (-1), .inl r323.1], 119, pm_RF, r323.2)) rfl ?_
        refine R_ic ho rfl (tgt := 105) rfl ?_
        refine R_eq ?_ ?_
        · refine R_st ho 5 (q' := (146, [(6, .inl 0), (5, .inl r320), (4, .inl r319), (0, .inr (.inr (0, 0))), (2, .inr (.inr (10, u2))), (3, .inl y3)], [], 119, pm_RF, r323.2)) rfl ?_
          refine R_pk [3] rfl ?_
          exact R_ret rfl
        · refine R_st ho 7 (q' := (23, [(3, .inl (i_ad y3 1)), (6, .inl 1), (5, .inl r320), (4, .inl r319), (0, .inr (.inr (0, 0))), (2, .inr (.inr (10, u2)))], [], 119, pm_RF, r323.2)) rfl ?_
          refine R_pk [0, 2, 3] rfl ?_
          exact ih_ (i_ad y3 1) r323.2
      refine R_cs (fun z_ => (50, [(5, .inl r320), (4, .inl r319), (0, .inr (.inr (0, 0))), (2, .inr (.inr (10, u2))), (3, .inl y3)], [.inl z_], 119, pm_RF, M)) ?_ (fun h328 => ?_)
      · refine R_swk ho rfl (by decide) rfl (tgt := 109) rfl (by decide +kernel) ?_
        refine R_st ho 3 (q' := (114, [(5, .inl r320), (4, .inl r319), (0, .inr (.inr (0, 0))), (2, .inr (.inr (10, u2))), (3, .inl y3)], [.inl r320, .inl r319, .inr (.inr (0, 0))], 119, pm_RF, M)) rfl ?_
        refine R_callV ho mv_X_change lk_0_226 rfl (As := [.inl r319, .inl r320]) (kd := 0) (a := 0) (st := []) rfl rfl (Nat.le_of_ble_eq_true rfl) rfl (by decide) (Nat.le_of_ble_eq_true rfl) (ok_X_change G r319 r320 M ) (fun r324 => ?_)
        show pm_R _ _ _ (117, [(5, .inl r320), (4, .inl r319), (0, .inr (.inr (0, 0))), (2, .inr (.inr (10, u2))), (3, .inl y3)], [.inl r324.1], 119, pm_RF, r324.2) _ _
        refine R_st ho 3 (q' := (143, [(6, .inl r324.1), (5, .inl r320), (4, .inl r319), (0, .inr (.inr (0, 0))), (2, .inr (.inr (10, u2))), (3, .inl y3)], [.inl r324.1], 119, pm_RF, r324.2)) rfl ?_
        refine R_if ho rfl (tgt := 148) rfl ?_
        refine R_ne ?_ ?_
        · refine R_pk [3] rfl ?_
          exact R_ret rfl
        · refine R_st ho 2 (q' := (23, [(3, .inl (i_ad y3 1)), (6, .inl r324.1), (5, .inl r320), (4, .inl r319), (0, .inr (.inr (0, 0))), (2, .inr (.inr (10, u2)))], [], 119, pm_RF, r324.2)) rfl ?_
          refine R_pk [0, 2, 3] rfl ?_
          exact ih_ (i_ad y3 1) r324.2
      refine R_cs (fun z_ => (50, [(5, .inl r320), (4, .inl r319), (0, .inr (.inr (0, 0))), (2, .inr (.inr (10, u2))), (3, .inl y3)], [.inl z_], 119, pm_RF, M)) ?_ (fun h329 => ?_)
      · refine R_swk ho rfl (by decide) rfl (tgt := 120) rfl (by decide +kernel) ?_
        refine R_st ho 2 (q' := (123, [(5, .inl r320), (4, .inl r319), (0, .inr (.inr (0, 0))), (2, .inr (.inr (10, u2))), (3, .inl y3)], [.inl r319, .inr (.inr (0, 0))], 119, pm_RF, M)) rfl ?_
        refine R_callV ho mv_X_pass lk_0_229 rfl (As := [.inl r319]) (kd := 0) (a := 0) (st := []) rfl rfl (Nat.le_of_ble_eq_true rfl) rfl (by decide) (Nat.le_of_ble_eq_true rfl) (ok_X_pass G r319 M ) (fun r325 => ?_)
        show pm_R _ _ _ (126, [(5, .inl r320), (4, .inl r319), (0, .inr (.inr (0, 0))), (2, .inr (.inr (10, u2))), (3, .inl y3)], [.inl r325.1], 119, pm_RF, r325.2) _ _
        refine R_st ho 1 (q' := (127, [(5, .inl r320), (4, .inl r319), (0, .inr (.inr (0, 0))), (2, .inr (.inr (10, u2))), (3, .inl y3)], [.inl (-1), .inl r325.1], 119, pm_RF, r325.2)) rfl ?_
        refine R_ic ho rfl (tgt := 134) rfl ?_
        refine R_eq ?_ ?_
        · refine R_st ho 5 (q' := (146, [(6, .inl 0), (5, .inl r320), (4, .inl r319), (0, .inr (.inr (0, 0))), (2, .inr (.inr (10, u2))), (3, .inl y3)], [], 119, pm_RF, r325.2)) rfl ?_
          refine R_pk [3] rfl ?_
          exact R_ret rfl
        · refine R_st ho 7 (q' := (23, [(3, .inl (i_ad y3 1)), (6, .inl 1), (5, .inl r320), (4, .inl r319), (0, .inr (.inr (0, 0))), (2, .inr (.inr (10, u2)))], [], 119, pm_RF, r325.2)) rfl ?_
          refine R_pk [0, 2, 3] rfl ?_
          exact ih_ (i_ad y3 1) r325.2
      refine R_swd ho rfl (by omega) rfl (by decide +kernel) ?_
      refine R_st ho 6 (q' := (23, [(3, .inl (i_ad y3 1)), (6, .inl 1), (5, .inl r320), (4, .inl r319), (0, .inr (.inr (0, 0))), (2, .inr (.inr (10, u2)))], [], 119, pm_RF, M)) rfl ?_
      refine R_pk [0, 2, 3] rfl ?_
      exact ih_ (i_ad y3 1) M
theorem ok_X_played (G : pm_G) (x1 : Int) (M : pm_M)  : pm_R G mt_X_played 7 (0, [(0, .inr (.inr (0, 0))), (1, .inl x1)], [], 119, pm_RF, M) (f_X_played x1 M) (pm_Zr mt_X_played pm_gI) := by
  have ho : pm_oG G mt_X_played := (oa_X_played).g G
  unfold f_X_played
  refine R_st ho 3 (q' := (5, [(0, .inr (.inr (0, 0))), (1, .inl x1)], [.inl x1, .inr (.inr (11, 24))], 119, pm_RF, M)) rfl ?_
  refine R_callV ho mv_Told_isText lk_0_202 rfl (As := [.inl x1]) (kd := 11) (a := 24) (st := []) rfl rfl (Nat.le_of_ble_eq_true rfl) rfl (by decide) (Nat.le_of_ble_eq_true rfl) (ok_Told_isText G x1 M ) (fun r316 => ?_)
  show pm_R _ _ _ (8, [(0, .inr (.inr (0, 0))), (1, .inl x1)], [.inl r316], 119, pm_RF, M) _ _
  refine R_if ho rfl (tgt := 14) rfl ?_
  refine R_ne ?_ ?_
  · refine R_st ho 1 (q' := (13, [(0, .inr (.inr (0, 0))), (1, .inl x1)], [.inl (-2)], 119, pm_RF, M)) rfl ?_
    exact R_end (v := some (.inl (-2))) rfl (Or.inl rfl) rfl rfl
  · refine R_st ho 3 (q' := (19, [(0, .inr (.inr (0, 0))), (1, .inl x1)], [.inl x1, .inr (.inr (24, 39))], 119, pm_RF, M)) rfl ?_
    refine R_aaldT ho rfl (fun h317 => ?_)
    refine R_st ho 3 (q' := (23, [(3, .inl 0), (2, .inr (.inr (10, (pm_tx x1)))), (0, .inr (.inr (0, 0))), (1, .inl x1)], [], 119, pm_RF, M)) rfl ?_
    refine R_pk [0, 2, 3] rfl ?_
    refine R_bind (ok_X_played_L23 G (pm_tx x1) h317 pm_F 0 M) ?_
    intro e330 q_ hq_
    cases e330 with
    | inl e330 =>
      obtain rfl : q_ = (146, [(3, .inl e330.1)], [], 119, pm_RF, e330.2) := hq_
      refine R_st ho 1 (q' := (147, [(3, .inl e330.1)], [.inl e330.1], 119, pm_RF, e330.2)) rfl ?_
      exact R_end (v := some (.inl e330.1)) rfl (Or.inl rfl) rfl rfl
    | inr e330 =>
      obtain rfl : q_ = (154, [], [], 119, pm_RF, e330) := hq_
      refine R_st ho 1 (q' := (155, [], [.inl (-1)], 119, pm_RF, e330)) rfl ?_
      exact R_end (v := some (.inl (-1))) rfl (Or.inl rfl) rfl rfl
theorem ok_Moment_copyFrom (G : pm_G) (x2 : Int) (M : pm_M)  : pm_R G mt_Moment_copyFrom 1 (0, [(0, .inr (.inr (4, 35))), (1, .inr (.inr (20, 2))), (2, .inl x2)], [], 119, pm_RF, M) (f_Moment_copyFrom x2 M) (pm_Zr mt_Moment_copyFrom pm_gV) := by
  have ho : pm_oG G mt_Moment_copyFrom := (oa_Moment_copyFrom).g G
  unfold f_Moment_copyFrom
  refine R_st ho 6 (q' := (10, [(0, .inr (.inr (4, 35))), (1, .inr (.inr (20, 2))), (2, .inl x2)], [.inl 186, .inl 0, .inr (.inr (20, 36)), .inl x2, .inr (.inr (20, 2))], 119, pm_RF, M)) rfl ?_
  refine R_copy ho (k := 26) (st := []) rfl rfl (Nat.le_of_ble_eq_true rfl) rfl rfl ?_
  refine R_nm fun M333 => ?_
  exact R_end (v := none) rfl rfl rfl rfl
theorem ok_Steps_takeBack (G : pm_G)  (M : pm_M)  : pm_R G mt_Steps_takeBack 2 (0, [(0, .inr (.inr (8, 1))), (1, .inr (.inr (4, 35)))], [], 119, pm_RF, M) (f_Steps_takeBack M) (pm_Zr mt_Steps_takeBack pm_gI) := by
  have ho : pm_oG G mt_Steps_takeBack := (oa_Steps_takeBack).g G
  unfold f_Steps_takeBack
  refine R_st ho 2 (q' := (4, [(0, .inr (.inr (8, 1))), (1, .inr (.inr (4, 35)))], [.inl (M 1 2)], 119, pm_RF, M)) rfl ?_
  refine R_if ho rfl (tgt := 9) rfl ?_
  refine R_ne ?_ ?_
  · refine R_st ho 1 (q' := (8, [(0, .inr (.inr (8, 1))), (1, .inr (.inr (4, 35)))], [.inl 0], 119, pm_RF, M)) rfl ?_
    exact R_end (v := some (.inl 0)) rfl (Or.inr ⟨rfl, Or.inl rfl⟩) rfl rfl
  · refine R_st ho 10 (q' := (25, [(0, .inr (.inr (8, 1))), (1, .inr (.inr (4, 35)))], [], 119, pm_RF, (pm_ms M 1 1 (i_rm (i_sb (i_ad (M 1 1) 20) 1) 20)))) rfl ?_
    refine R_nm fun M331 => ?_
    refine R_st ho 6 (q' := (35, [(0, .inr (.inr (8, 1))), (1, .inr (.inr (4, 35)))], [], 119, pm_RF, (pm_ms M331 1 2 (i_sb (M331 1 2) 1)))) rfl ?_
    refine R_nm fun M332 => ?_
    refine R_st ho 7 (q' := (48, [(0, .inr (.inr (8, 1))), (1, .inr (.inr (4, 35)))], [.inl (i_ml (M332 1 1) 186), .inr (.inr (20, 2)), .inr (.inr (4, 35))], 119, pm_RF, M332)) rfl ?_
    refine R_callV ho mv_Moment_copyFrom lk_8_28 rfl (As := [.inr (.inr (20, 2)), .inl (i_ml (M332 1 1) 186)]) (kd := 4) (a := 35) (st := []) rfl rfl (Nat.le_of_ble_eq_true rfl) rfl (by decide) (Nat.le_of_ble_eq_true rfl) (ok_Moment_copyFrom G (i_ml (M332 1 1) 186) M332 ) (fun M334 => ?_)
    show pm_R _ _ _ (51, [(0, .inr (.inr (8, 1))), (1, .inr (.inr (4, 35)))], [], 119, pm_RF, M334) _ _
    refine R_st ho 1 (q' := (52, [(0, .inr (.inr (8, 1))), (1, .inr (.inr (4, 35)))], [.inl 1], 119, pm_RF, M334)) rfl ?_
    exact R_end (v := some (.inl 1)) rfl (Or.inr ⟨rfl, Or.inr rfl⟩) rfl rfl
theorem ok_Steps_count (G : pm_G)  (M : pm_M)  : pm_R G mt_Steps_count 1 (0, [(0, .inr (.inr (8, 1)))], [], 119, pm_RF, M) (f_Steps_count M) (pm_Zr mt_Steps_count (pm_gi M)) := by
  have ho : pm_oG G mt_Steps_count := (oa_Steps_count).g G
  unfold f_Steps_count
  refine R_st ho 2 (q' := (4, [(0, .inr (.inr (8, 1)))], [.inl (M 1 2)], 119, pm_RF, M)) rfl ?_
  exact R_end (v := some (.inl (M 1 2))) rfl (Or.inl rfl) rfl rfl
theorem ok_X_undo (G : pm_G)  (M : pm_M)  : pm_R G mt_X_undo 3 (0, [(0, .inr (.inr (0, 0)))], [], 119, pm_RF, M) (f_X_undo M) (pm_Zr mt_X_undo pm_gI) := by
  have ho : pm_oG G mt_X_undo := (oa_X_undo).g G
  unfold f_X_undo
  refine R_st ho 4 (q' := (8, [(0, .inr (.inr (0, 0)))], [.inr (.inr (4, 35)), .inr (.inr (8, 1))], 119, pm_RF, M)) rfl ?_
  refine R_callV ho mv_Steps_takeBack lk_0_232 rfl (As := [.inr (.inr (4, 35))]) (kd := 8) (a := 1) (st := []) rfl rfl (Nat.le_of_ble_eq_true rfl) rfl (by decide) (Nat.le_of_ble_eq_true rfl) (ok_Steps_takeBack G  M ) (fun r335 => ?_)
  show pm_R _ _ _ (11, [(0, .inr (.inr (0, 0)))], [.inl r335.1], 119, pm_RF, r335.2) _ _
  refine R_if ho rfl (tgt := 16) rfl ?_
  refine R_ne ?_ ?_
  · refine R_st ho 1 (q' := (15, [(0, .inr (.inr (0, 0)))], [.inl (-1)], 119, pm_RF, r335.2)) rfl ?_
    exact R_end (v := some (.inl (-1))) rfl (Or.inl rfl) rfl rfl
  · refine R_st ho 2 (q' := (20, [(0, .inr (.inr (0, 0)))], [.inr (.inr (8, 1))], 119, pm_RF, r335.2)) rfl ?_
    refine R_callV ho mv_Steps_count lk_0_236 rfl (As := []) (kd := 8) (a := 1) (st := []) rfl rfl (Nat.le_of_ble_eq_true rfl) rfl (by decide) (Nat.le_of_ble_eq_true rfl) (ok_Steps_count G  r335.2 ) (fun r336 => ?_)
    show pm_R _ _ _ (23, [(0, .inr (.inr (0, 0)))], [.inl r336], 119, pm_RF, r335.2) _ _
    exact R_end (v := some (.inl r336)) rfl (Or.inl rfl) rfl rfl
theorem ok_X_of (G : pm_G) (x1 : Int) (x2 : Int) (M : pm_M)  : pm_R G mt_X_of 5 (0, [(0, .inr (.inr (0, 0))), (1, .inl x1), (2, .inl x2)], [], 119, pm_RF, M) (f_X_of x1 x2 M) (pm_Zr mt_X_of pm_gI) := by
  have ho : pm_oG G mt_X_of := (oa_X_of).g G
  unfold f_X_of
  refine R_st ho 3 (q' := (5, [(0, .inr (.inr (0, 0))), (1, .inl x1), (2, .inl x2)], [.inl x1, .inr (.inr (11, 24))], 119, pm_RF, M)) rfl ?_
  refine R_callV ho mv_Told_isPlinth lk_0_139 rfl (As := [.inl x1]) (kd := 11) (a := 24) (st := []) rfl rfl (Nat.le_of_ble_eq_true rfl) rfl (by decide) (Nat.le_of_ble_eq_true rfl) (ok_Told_isPlinth G x1 M ) (fun r337 => ?_)
  show pm_R _ _ _ (8, [(0, .inr (.inr (0, 0))), (1, .inl x1), (2, .inl x2)], [.inl r337], 119, pm_RF, M) _ _
  refine R_if ho rfl (tgt := 14) rfl ?_
  refine R_ne ?_ ?_
  · refine R_st ho 1 (q' := (13, [(0, .inr (.inr (0, 0))), (1, .inl x1), (2, .inl x2)], [.inl (-2)], 119, pm_RF, M)) rfl ?_
    exact R_end (v := some (.inl (-2))) rfl (Or.inl rfl) rfl rfl
  · refine R_st ho 3 (q' := (19, [(0, .inr (.inr (0, 0))), (1, .inl x1), (2, .inl x2)], [.inl x1, .inr (.inr (4, 35))], 119, pm_RF, M)) rfl ?_
    refine R_callV ho mv_Moment_headAt lk_0_129 rfl (As := [.inl x1]) (kd := 4) (a := 35) (st := []) rfl rfl (Nat.le_of_ble_eq_true rfl) rfl (by decide) (Nat.le_of_ble_eq_true rfl) (ok_Moment_headAt G x1 M ) (fun r338 => ?_)
    show pm_R _ _ _ (22, [(0, .inr (.inr (0, 0))), (1, .inl x1), (2, .inl x2)], [.inl r338], 119, pm_RF, M) _ _
    refine R_st ho 3 (q' := (25, [(3, .inl r338), (0, .inr (.inr (0, 0))), (1, .inl x1), (2, .inl x2)], [.inl (-1), .inl r338], 119, pm_RF, M)) rfl ?_
    refine R_ic ho rfl (tgt := 32) rfl ?_
    refine R_eq ?_ ?_
    · refine R_st ho 3 (q' := (36, [(4, .inl 0), (3, .inl r338), (0, .inr (.inr (0, 0))), (1, .inl x1), (2, .inl x2)], [.inl x2], 119, pm_RF, M)) rfl ?_
      refine R_cs (fun z_ => (36, [(4, .inl 0), (3, .inl r338), (0, .inr (.inr (0, 0))), (1, .inl x1), (2, .inl x2)], [.inl z_], 119, pm_RF, M)) ?_ (fun h346 => ?_)
      · refine R_swk ho rfl (by decide) rfl (tgt := 80) rfl (by decide +kernel) ?_
        refine R_st ho 2 (q' := (207, [(4, .inl 0), (3, .inl r338), (0, .inr (.inr (0, 0))), (1, .inl x1), (2, .inl x2)], [.inl r338], 119, pm_RF, M)) rfl ?_
        exact R_end (v := some (.inl r338)) rfl (Or.inl rfl) rfl rfl
      refine R_cs (fun z_ => (36, [(4, .inl 0), (3, .inl r338), (0, .inr (.inr (0, 0))), (1, .inl x1), (2, .inl x2)], [.inl z_], 119, pm_RF, M)) ?_ (fun h347 => ?_)
      · refine R_swk ho rfl (by decide) rfl (tgt := 84) rfl (by decide +kernel) ?_
        refine R_st ho 3 (q' := (89, [(4, .inl 0), (3, .inl r338), (0, .inr (.inr (0, 0))), (1, .inl x1), (2, .inl x2)], [.inl x1, .inr (.inr (4, 35))], 119, pm_RF, M)) rfl ?_
        refine R_callV ho mv_Moment_nameAt lk_0_145 rfl (As := [.inl x1]) (kd := 4) (a := 35) (st := []) rfl rfl (Nat.le_of_ble_eq_true rfl) rfl (by decide) (Nat.le_of_ble_eq_true rfl) (ok_Moment_nameAt G x1 M ) (fun r339 => ?_)
        show pm_R _ _ _ (92, [(4, .inl 0), (3, .inl r338), (0, .inr (.inr (0, 0))), (1, .inl x1), (2, .inl x2)], [.inl r339], 119, pm_RF, M) _ _
        refine R_st ho 1 (q' := (207, [(4, .inl 0), (3, .inl r338), (0, .inr (.inr (0, 0))), (1, .inl x1), (2, .inl x2)], [.inl r339], 119, pm_RF, M)) rfl ?_
        exact R_end (v := some (.inl r339)) rfl (Or.inl rfl) rfl rfl
      refine R_cs (fun z_ => (36, [(4, .inl 0), (3, .inl r338), (0, .inr (.inr (0, 0))), (1, .inl x1), (2, .inl x2)], [.inl z_], 119, pm_RF, M)) ?_ (fun h348 => ?_)
      · refine R_swk ho rfl (by decide) rfl (tgt := 95) rfl (by decide +kernel) ?_
        refine R_st ho 4 (q' := (207, [(4, .inl 0), (3, .inl r338), (0, .inr (.inr (0, 0))), (1, .inl x1), (2, .inl x2)], [.inl 0], 119, pm_RF, M)) rfl ?_
        exact R_end (v := some (.inl 0)) rfl (Or.inl rfl) rfl rfl
      refine R_cs (fun z_ => (36, [(4, .inl 0), (3, .inl r338), (0, .inr (.inr (0, 0))), (1, .inl x1), (2, .inl x2)], [.inl z_], 119, pm_RF, M)) ?_ (fun h349 => ?_)
      · refine R_swk ho rfl (by decide) rfl (tgt := 117) rfl (by decide +kernel) ?_
        refine R_st ho 4 (q' := (207, [(4, .inl 0), (3, .inl r338), (0, .inr (.inr (0, 0))), (1, .inl x1), (2, .inl x2)], [.inl 0], 119, pm_RF, M)) rfl ?_
        exact R_end (v := some (.inl 0)) rfl (Or.inl rfl) rfl rfl
      refine R_cs (fun z_ => (36, [(4, .inl 0), (3, .inl r338), (0, .inr (.inr (0, 0))), (1, .inl x1), (2, .inl x2)], [.inl z_], 119, pm_RF, M)) ?_ (fun h350 => ?_)
      · refine R_swk ho rfl (by decide) rfl (tgt := 139) rfl (by decide +kernel) ?_
        refine R_st ho 4 (q' := (207, [(4, .inl 0), (3, .inl r338), (0, .inr (.inr (0, 0))), (1, .inl x1), (2, .inl x2)], [.inl 0], 119, pm_RF, M)) rfl ?_
        exact R_end (v := some (.inl 0)) rfl (Or.inl rfl) rfl rfl
      refine R_cs (fun z_ => (36, [(4, .inl 0), (3, .inl r338), (0, .inr (.inr (0, 0))), (1, .inl x1), (2, .inl x2)], [.inl z_], 119, pm_RF, M)) ?_ (fun h351 => ?_)
      · refine R_swk ho rfl (by decide) rfl (tgt := 161) rfl (by decide +kernel) ?_
        refine R_st ho 7 (q' := (177, [(4, .inl 0), (3, .inl r338), (0, .inr (.inr (0, 0))), (1, .inl x1), (2, .inl x2)], [.inl (-1), .inl x1, .inl 3, .inr (.inr (2, 64))], 119, pm_RF, M)) rfl ?_
        refine R_callV ho mv_Judge_amount lk_0_239 rfl (As := [.inl 3, .inl x1, .inl (-1)]) (kd := 2) (a := 64) (st := []) rfl rfl (Nat.le_of_ble_eq_true rfl) rfl (by decide) (Nat.le_of_ble_eq_true rfl) (ok_Judge_amount G 3 x1 (-1) M ) (fun r340 => ?_)
        show pm_R _ _ _ (180, [(4, .inl 0), (3, .inl r338), (0, .inr (.inr (0, 0))), (1, .inl x1), (2, .inl x2)], [.inl r340.1], 119, pm_RF, r340.2) _ _
        refine R_st ho 1 (q' := (207, [(4, .inl 0), (3, .inl r338), (0, .inr (.inr (0, 0))), (1, .inl x1), (2, .inl x2)], [.inl r340.1], 119, pm_RF, r340.2)) rfl ?_
        exact R_end (v := some (.inl r340.1)) rfl (Or.inl rfl) rfl rfl
      refine R_cs (fun z_ => (36, [(4, .inl 0), (3, .inl r338), (0, .inr (.inr (0, 0))), (1, .inl x1), (2, .inl x2)], [.inl z_], 119, pm_RF, M)) ?_ (fun h352 => ?_)
      · refine R_swk ho rfl (by decide) rfl (tgt := 183) rfl (by decide +kernel) ?_
        refine R_st ho 4 (q' := (207, [(4, .inl 0), (3, .inl r338), (0, .inr (.inr (0, 0))), (1, .inl x1), (2, .inl x2)], [.inl 0], 119, pm_RF, M)) rfl ?_
        exact R_end (v := some (.inl 0)) rfl (Or.inl rfl) rfl rfl
      refine R_swd ho rfl (by omega) rfl (by decide +kernel) ?_
      refine R_st ho 1 (q' := (207, [(4, .inl 0), (3, .inl r338), (0, .inr (.inr (0, 0))), (1, .inl x1), (2, .inl x2)], [.inl (-2)], 119, pm_RF, M)) rfl ?_
      exact R_end (v := some (.inl (-2))) rfl (Or.inl rfl) rfl rfl
    · refine R_st ho 4 (q' := (36, [(4, .inl 1), (3, .inl r338), (0, .inr (.inr (0, 0))), (1, .inl x1), (2, .inl x2)], [.inl x2], 119, pm_RF, M)) rfl ?_
      refine R_cs (fun z_ => (36, [(4, .inl 1), (3, .inl r338), (0, .inr (.inr (0, 0))), (1, .inl x1), (2, .inl x2)], [.inl z_], 119, pm_RF, M)) ?_ (fun h353 => ?_)
      · refine R_swk ho rfl (by decide) rfl (tgt := 80) rfl (by decide +kernel) ?_
        refine R_st ho 2 (q' := (207, [(4, .inl 1), (3, .inl r338), (0, .inr (.inr (0, 0))), (1, .inl x1), (2, .inl x2)], [.inl r338], 119, pm_RF, M)) rfl ?_
        exact R_end (v := some (.inl r338)) rfl (Or.inl rfl) rfl rfl
      refine R_cs (fun z_ => (36, [(4, .inl 1), (3, .inl r338), (0, .inr (.inr (0, 0))), (1, .inl x1), (2, .inl x2)], [.inl z_], 119, pm_RF, M)) ?_ (fun h354 => ?_)
      · refine R_swk ho rfl (by decide) rfl (tgt := 84) rfl (by decide +kernel) ?_
        refine R_st ho 3 (q' := (89, [(4, .inl 1), (3, .inl r338), (0, .inr (.inr (0, 0))), (1, .inl x1), (2, .inl x2)], [.inl x1, .inr (.inr (4, 35))], 119, pm_RF, M)) rfl ?_
        refine R_callV ho mv_Moment_nameAt lk_0_145 rfl (As := [.inl x1]) (kd := 4) (a := 35) (st := []) rfl rfl (Nat.le_of_ble_eq_true rfl) rfl (by decide) (Nat.le_of_ble_eq_true rfl) (ok_Moment_nameAt G x1 M ) (fun r341 => ?_)
        show pm_R _ _ _ (92, [(4, .inl 1), (3, .inl r338), (0, .inr (.inr (0, 0))), (1, .inl x1), (2, .inl x2)], [.inl r341], 119, pm_RF, M) _ _
        refine R_st ho 1 (q' := (207, [(4, .inl 1), (3, .inl r338), (0, .inr (.inr (0, 0))), (1, .inl x1), (2, .inl x2)], [.inl r341], 119, pm_RF, M)) rfl ?_
        exact R_end (v := some (.inl r341)) rfl (Or.inl rfl) rfl rfl
      refine R_cs (fun z_ => (36, [(4, .inl 1), (3, .inl r338), (0, .inr (.inr (0, 0))), (1, .inl x1), (2, .inl x2)], [.inl z_], 119, pm_RF, M)) ?_ (fun h355 => ?_)
      · refine R_swk ho rfl (by decide) rfl (tgt := 95) rfl (by decide +kernel) ?_
        refine R_st ho 7 (q' := (107, [(4, .inl 1), (3, .inl r338), (0, .inr (.inr (0, 0))), (1, .inl x1), (2, .inl x2)], [.inl r338, .inl x1, .inl 0, .inr (.inr (2, 64))], 119, pm_RF, M)) rfl ?_
        refine R_callV ho mv_Judge_amount lk_0_239 rfl (As := [.inl 0, .inl x1, .inl r338]) (kd := 2) (a := 64) (st := []) rfl rfl (Nat.le_of_ble_eq_true rfl) rfl (by decide) (Nat.le_of_ble_eq_true rfl) (ok_Judge_amount G 0 x1 r338 M ) (fun r342 => ?_)
        show pm_R _ _ _ (110, [(4, .inl 1), (3, .inl r338), (0, .inr (.inr (0, 0))), (1, .inl x1), (2, .inl x2)], [.inl r342.1], 119, pm_RF, r342.2) _ _
        refine R_st ho 1 (q' := (207, [(4, .inl 1), (3, .inl r338), (0, .inr (.inr (0, 0))), (1, .inl x1), (2, .inl x2)], [.inl r342.1], 119, pm_RF, r342.2)) rfl ?_
        exact R_end (v := some (.inl r342.1)) rfl (Or.inl rfl) rfl rfl
      refine R_cs (fun z_ => (36, [(4, .inl 1), (3, .inl r338), (0, .inr (.inr (0, 0))), (1, .inl x1), (2, .inl x2)], [.inl z_], 119, pm_RF, M)) ?_ (fun h356 => ?_)
      · refine R_swk ho rfl (by decide) rfl (tgt := 117) rfl (by decide +kernel) ?_
        refine R_st ho 7 (q' := (129, [(4, .inl 1), (3, .inl r338), (0, .inr (.inr (0, 0))), (1, .inl x1), (2, .inl x2)], [.inl r338, .inl x1, .inl 1, .inr (.inr (2, 64))], 119, pm_RF, M)) rfl ?_
        refine R_callV ho mv_Judge_amount lk_0_239 rfl (As := [.inl 1, .inl x1, .inl r338]) (kd := 2) (a := 64) (st := []) rfl rfl (Nat.le_of_ble_eq_true rfl) rfl (by decide) (Nat.le_of_ble_eq_true rfl) (ok_Judge_amount G 1 x1 r338 M ) (fun r343 => ?_)
        show pm_R _ _ _ (132, [(4, .inl 1), (3, .inl r338), (0, .inr (.inr (0, 0))), (1, .inl x1), (2, .inl x2)], [.inl r343.1], 119, pm_RF, r343.2) _ _
        refine R_st ho 1 (q' := (207, [(4, .inl 1), (3, .inl r338), (0, .inr (.inr (0, 0))), (1, .inl x1), (2, .inl x2)], [.inl r343.1], 119, pm_RF, r343.2)) rfl ?_
        exact R_end (v := some (.inl r343.1)) rfl (Or.inl rfl) rfl rfl
      refine R_cs (fun z_ => (36, [(4, .inl 1), (3, .inl r338), (0, .inr (.inr (0, 0))), (1, .inl x1), (2, .inl x2)], [.inl z_], 119, pm_RF, M)) ?_ (fun h357 => ?_)
      · refine R_swk ho rfl (by decide) rfl (tgt := 139) rfl (by decide +kernel) ?_
        refine R_st ho 7 (q' := (151, [(4, .inl 1), (3, .inl r338), (0, .inr (.inr (0, 0))), (1, .inl x1), (2, .inl x2)], [.inl r338, .inl x1, .inl 2, .inr (.inr (2, 64))], 119, pm_RF, M)) rfl ?_
        refine R_callV ho mv_Judge_amount lk_0_239 rfl (As := [.inl 2, .inl x1, .inl r338]) (kd := 2) (a := 64) (st := []) rfl rfl (Nat.le_of_ble_eq_true rfl) rfl (by decide) (Nat.le_of_ble_eq_true rfl) (ok_Judge_amount G 2 x1 r338 M ) (fun r344 => ?_)
        show pm_R _ _ _ (154, [(4, .inl 1), (3, .inl r338), (0, .inr (.inr (0, 0))), (1, .inl x1), (2, .inl x2)], [.inl r344.1], 119, pm_RF, r344.2) _ _
        refine R_st ho 1 (q' := (207, [(4, .inl 1), (3, .inl r338), (0, .inr (.inr (0, 0))), (1, .inl x1), (2, .inl x2)], [.inl r344.1], 119, pm_RF, r344.2)) rfl ?_
        exact R_end (v := some (.inl r344.1)) rfl (Or.inl rfl) rfl rfl
      refine R_cs (fun z_ => (36, [(4, .inl 1), (3, .inl r338), (0, .inr (.inr (0, 0))), (1, .inl x1), (2, .inl x2)], [.inl z_], 119, pm_RF, M)) ?_ (fun h358 => ?_)
      · refine R_swk ho rfl (by decide) rfl (tgt := 161) rfl (by decide +kernel) ?_
        refine R_st ho 4 (q' := (207, [(4, .inl 1), (3, .inl r338), (0, .inr (.inr (0, 0))), (1, .inl x1), (2, .inl x2)], [.inl 0], 119, pm_RF, M)) rfl ?_
        exact R_end (v := some (.inl 0)) rfl (Or.inl rfl) rfl rfl
      refine R_cs (fun z_ => (36, [(4, .inl 1), (3, .inl r338), (0, .inr (.inr (0, 0))), (1, .inl x1), (2, .inl x2)], [.inl z_], 119, pm_RF, M)) ?_ (fun h359 => ?_)
      · refine R_swk ho rfl (by decide) rfl (tgt := 183) rfl (by decide +kernel) ?_
        refine R_st ho 7 (q' := (195, [(4, .inl 1), (3, .inl r338), (0, .inr (.inr (0, 0))), (1, .inl x1), (2, .inl x2)], [.inl r338, .inl x1, .inl 4, .inr (.inr (2, 64))], 119, pm_RF, M)) rfl ?_
        refine R_callV ho mv_Judge_amount lk_0_239 rfl (As := [.inl 4, .inl x1, .inl r338]) (kd := 2) (a := 64) (st := []) rfl rfl (Nat.le_of_ble_eq_true rfl) rfl (by decide) (Nat.le_of_ble_eq_true rfl) (ok_Judge_amount G 4 x1 r338 M ) (fun r345 => ?_)
        show pm_R _ _ _ (198, [(4, .inl 1), (3, .inl r338), (0, .inr (.inr (0, 0))), (1, .inl x1), (2, .inl x2)], [.inl r345.1], 119, pm_RF, r345.2) _ _
        refine R_st ho 1 (q' := (207, [(4, .inl 1), (3, .inl r338), (0, .inr (.inr (0, 0))), (1, .inl x1), (2, .inl x2)], [.inl r345.1], 119, pm_RF, r345.2)) rfl ?_
        exact R_end (v := some (.inl r345.1)) rfl (Or.inl rfl) rfl rfl
      refine R_swd ho rfl (by omega) rfl (by decide +kernel) ?_
      refine R_st ho 1 (q' := (207, [(4, .inl 1), (3, .inl r338), (0, .inr (.inr (0, 0))), (1, .inl x1), (2, .inl x2)], [.inl (-2)], 119, pm_RF, M)) rfl ?_
      exact R_end (v := some (.inl (-2))) rfl (Or.inl rfl) rfl rfl
theorem ok_Told_chinOf (G : pm_G) (x1 : Int) (M : pm_M)  : pm_R G mt_Told_chinOf 2 (0, [(0, .inr (.inr (11, 24))), (1, .inl x1)], [], 119, pm_RF, M) (f_Told_chinOf x1 M) (pm_Zr mt_Told_chinOf (pm_gi M)) := by
  have ho : pm_oG G mt_Told_chinOf := (oa_Told_chinOf).g G
  unfold f_Told_chinOf
  refine R_st ho 2 (q' := (2, [(0, .inr (.inr (11, 24))), (1, .inl x1)], [.inl x1, .inr (.inr (11, 24))], 119, pm_RF, M)) rfl ?_
  refine R_callV ho mv_Told_isHead lk_11_70 rfl (As := [.inl x1]) (kd := 11) (a := 24) (st := []) rfl rfl (Nat.le_of_ble_eq_true rfl) rfl (by decide) (Nat.le_of_ble_eq_true rfl) (ok_Told_isHead G x1 M ) (fun r364 => ?_)
  show pm_R _ _ _ (5, [(0, .inr (.inr (11, 24))), (1, .inl x1)], [.inl r364], 119, pm_RF, M) _ _
  refine R_if ho rfl (tgt := 17) rfl ?_
  refine R_eq ?_ ?_
  · refine R_st ho 1 (q' := (18, [(0, .inr (.inr (11, 24))), (1, .inl x1)], [.inl (-1)], 119, pm_RF, M)) rfl ?_
    exact R_end (v := some (.inl (-1))) rfl (Or.inl rfl) rfl rfl
  · refine R_st ho 3 (q' := (13, [(0, .inr (.inr (11, 24))), (1, .inl x1)], [.inl x1, .inr (.inr (20, 31))], 119, pm_RF, M)) rfl ?_
    refine R_iald ho rfl rfl ?_
    refine R_st ho 1 (q' := (18, [(0, .inr (.inr (11, 24))), (1, .inl x1)], [.inl (M 31 (x1).toNat)], 119, pm_RF, M)) rfl ?_
    exact R_end (v := some (.inl (M 31 (x1).toNat))) rfl (Or.inl rfl) rfl rfl
theorem ok_X_headOf (G : pm_G) (x1 : Int) (x2 : Int) (M : pm_M)  : pm_R G mt_X_headOf 3 (0, [(0, .inr (.inr (0, 0))), (1, .inl x1), (2, .inl x2)], [], 119, pm_RF, M) (f_X_headOf x1 x2 M) (pm_Zr mt_X_headOf (pm_gi M)) := by
  have ho : pm_oG G mt_X_headOf := (oa_X_headOf).g G
  unfold f_X_headOf
  refine R_st ho 3 (q' := (5, [(0, .inr (.inr (0, 0))), (1, .inl x1), (2, .inl x2)], [.inl x1, .inr (.inr (11, 24))], 119, pm_RF, M)) rfl ?_
  refine R_callV ho mv_Told_isHead lk_0_151 rfl (As := [.inl x1]) (kd := 11) (a := 24) (st := []) rfl rfl (Nat.le_of_ble_eq_true rfl) rfl (by decide) (Nat.le_of_ble_eq_true rfl) (ok_Told_isHead G x1 M ) (fun r360 => ?_)
  show pm_R _ _ _ (8, [(0, .inr (.inr (0, 0))), (1, .inl x1), (2, .inl x2)], [.inl r360], 119, pm_RF, M) _ _
  refine R_if ho rfl (tgt := 14) rfl ?_
  refine R_ne ?_ ?_
  · refine R_st ho 1 (q' := (13, [(0, .inr (.inr (0, 0))), (1, .inl x1), (2, .inl x2)], [.inl (-2)], 119, pm_RF, M)) rfl ?_
    exact R_end (v := some (.inl (-2))) rfl (Or.inl rfl) rfl rfl
  · refine R_st ho 1 (q' := (15, [(0, .inr (.inr (0, 0))), (1, .inl x1), (2, .inl x2)], [.inl x2], 119, pm_RF, M)) rfl ?_
    refine R_cs (fun z_ => (15, [(0, .inr (.inr (0, 0))), (1, .inl x1), (2, .inl x2)], [.inl z_], 119, pm_RF, M)) ?_ (fun h366 => ?_)
    · refine R_swk ho rfl (by decide) rfl (tgt := 44) rfl (by decide +kernel) ?_
      refine R_st ho 3 (q' := (49, [(0, .inr (.inr (0, 0))), (1, .inl x1), (2, .inl x2)], [.inl x1, .inr (.inr (4, 35))], 119, pm_RF, M)) rfl ?_
      refine R_callV ho mv_Moment_placeOf lk_0_243 rfl (As := [.inl x1]) (kd := 4) (a := 35) (st := []) rfl rfl (Nat.le_of_ble_eq_true rfl) rfl (by decide) (Nat.le_of_ble_eq_true rfl) (ok_Moment_placeOf G x1 M ) (fun r361 => ?_)
      show pm_R _ _ _ (52, [(0, .inr (.inr (0, 0))), (1, .inl x1), (2, .inl x2)], [.inl r361], 119, pm_RF, M) _ _
      refine R_st ho 1 (q' := (90, [(0, .inr (.inr (0, 0))), (1, .inl x1), (2, .inl x2)], [.inl r361], 119, pm_RF, M)) rfl ?_
      exact R_end (v := some (.inl r361)) rfl (Or.inl rfl) rfl rfl
    refine R_cs (fun z_ => (15, [(0, .inr (.inr (0, 0))), (1, .inl x1), (2, .inl x2)], [.inl z_], 119, pm_RF, M)) ?_ (fun h367 => ?_)
    · refine R_swk ho rfl (by decide) rfl (tgt := 55) rfl (by decide +kernel) ?_
      refine R_st ho 3 (q' := (60, [(0, .inr (.inr (0, 0))), (1, .inl x1), (2, .inl x2)], [.inl x1, .inr (.inr (4, 35))], 119, pm_RF, M)) rfl ?_
      refine R_callV ho mv_Moment_debt lk_0_154 rfl (As := [.inl x1]) (kd := 4) (a := 35) (st := []) rfl rfl (Nat.le_of_ble_eq_true rfl) rfl (by decide) (Nat.le_of_ble_eq_true rfl) (ok_Moment_debt G x1 M ) (fun r362 => ?_)
      show pm_R _ _ _ (63, [(0, .inr (.inr (0, 0))), (1, .inl x1), (2, .inl x2)], [.inl r362], 119, pm_RF, M) _ _
      refine R_st ho 1 (q' := (90, [(0, .inr (.inr (0, 0))), (1, .inl x1), (2, .inl x2)], [.inl r362], 119, pm_RF, M)) rfl ?_
      exact R_end (v := some (.inl r362)) rfl (Or.inl rfl) rfl rfl
    refine R_cs (fun z_ => (15, [(0, .inr (.inr (0, 0))), (1, .inl x1), (2, .inl x2)], [.inl z_], 119, pm_RF, M)) ?_ (fun h368 => ?_)
    · refine R_swk ho rfl (by decide) rfl (tgt := 66) rfl (by decide +kernel) ?_
      refine R_st ho 3 (q' := (71, [(0, .inr (.inr (0, 0))), (1, .inl x1), (2, .inl x2)], [.inl x1, .inr (.inr (11, 24))], 119, pm_RF, M)) rfl ?_
      refine R_callV ho mv_Told_fameOf lk_0_246 rfl (As := [.inl x1]) (kd := 11) (a := 24) (st := []) rfl rfl (Nat.le_of_ble_eq_true rfl) rfl (by decide) (Nat.le_of_ble_eq_true rfl) (ok_Told_fameOf G x1 M ) (fun r363 => ?_)
      show pm_R _ _ _ (74, [(0, .inr (.inr (0, 0))), (1, .inl x1), (2, .inl x2)], [.inl r363], 119, pm_RF, M) _ _
      refine R_st ho 1 (q' := (90, [(0, .inr (.inr (0, 0))), (1, .inl x1), (2, .inl x2)], [.inl r363], 119, pm_RF, M)) rfl ?_
      exact R_end (v := some (.inl r363)) rfl (Or.inl rfl) rfl rfl
    refine R_cs (fun z_ => (15, [(0, .inr (.inr (0, 0))), (1, .inl x1), (2, .inl x2)], [.inl z_], 119, pm_RF, M)) ?_ (fun h369 => ?_)
    · refine R_swk ho rfl (by decide) rfl (tgt := 77) rfl (by decide +kernel) ?_
      refine R_st ho 3 (q' := (82, [(0, .inr (.inr (0, 0))), (1, .inl x1), (2, .inl x2)], [.inl x1, .inr (.inr (11, 24))], 119, pm_RF, M)) rfl ?_
      refine R_callV ho mv_Told_chinOf lk_0_249 rfl (As := [.inl x1]) (kd := 11) (a := 24) (st := []) rfl rfl (Nat.le_of_ble_eq_true rfl) rfl (by decide) (Nat.le_of_ble_eq_true rfl) (ok_Told_chinOf G x1 M ) (fun r365 => ?_)
      show pm_R _ _ _ (85, [(0, .inr (.inr (0, 0))), (1, .inl x1), (2, .inl x2)], [.inl r365], 119, pm_RF, M) _ _
      refine R_st ho 1 (q' := (90, [(0, .inr (.inr (0, 0))), (1, .inl x1), (2, .inl x2)], [.inl r365], 119, pm_RF, M)) rfl ?_
      exact R_end (v := some (.inl r365)) rfl (Or.inl rfl) rfl rfl
    refine R_swd ho rfl (by omega) rfl (by decide +kernel) ?_
    refine R_st ho 1 (q' := (90, [(0, .inr (.inr (0, 0))), (1, .inl x1), (2, .inl x2)], [.inl (-2)], 119, pm_RF, M)) rfl ?_
    exact R_end (v := some (.inl (-2))) rfl (Or.inl rfl) rfl rfl
theorem ok_Told_heads (G : pm_G)  (M : pm_M)  : pm_R G mt_Told_heads 1 (0, [(0, .inr (.inr (11, 24)))], [], 119, pm_RF, M) (f_Told_heads M) (pm_Zr mt_Told_heads (pm_gi M)) := by
  have ho : pm_oG G mt_Told_heads := (oa_Told_heads).g G
  unfold f_Told_heads
  refine R_st ho 2 (q' := (4, [(0, .inr (.inr (11, 24)))], [.inl (M 24 11)], 119, pm_RF, M)) rfl ?_
  exact R_end (v := some (.inl (M 24 11))) rfl (Or.inl rfl) rfl rfl
theorem ok_Placing_place (G : pm_G) (x0 : Int) (x1 : Int) (M : pm_M)  : pm_R G mt_Placing_place 1 (0, [(0, .inl x0), (1, .inl x1)], [], 119, pm_RF, M) (f_Placing_place x0 x1 M) (pm_Zr mt_Placing_place (pm_gi M)) := by
  have ho : pm_oG G mt_Placing_place := (oa_Placing_place).g G
  unfold f_Placing_place
  refine R_st ho 5 (q' := (6, [(0, .inl x0), (1, .inl x1)], [.inl (i_ad (i_ml x0 21) x1)], 119, pm_RF, M)) rfl ?_
  exact R_end (v := some (.inl (i_ad (i_ml x0 21) x1))) rfl (Or.inl rfl) rfl rfl
theorem ok_Placing_weigh_L32 (G : pm_G)    : ∀ (n_ : Nat) (y1 : Int) (y3 : Int) (y4 : Int) (y5 : Int) (M : pm_M), pm_R G mt_Placing_weigh 5 (32, [(0, .inr (.inr (6, 67))), (1, .inr (.inl y1)), (3, .inl y3), (4, .inl y4), (5, .inl y5)], [], 119, pm_RF, M) (f_Placing_weigh_L32 n_ y1 y3 y4 y5 M) (fun e_ q_ => q_ = (147, [(0, .inr (.inr (6, 67))), (1, .inr (.inl e_.1)), (3, .inl e_.2.1)], [], 119, pm_RF, e_.2.2)) := by
  have ho : pm_oG G mt_Placing_weigh := (oa_Placing_weigh).g G
  intro n_
  induction n_ with
  | zero => intro _ _ _ _ _; exact R_none
  | succ n_ ih_ =>
    intro y1 y3 y4 y5 M
    rw [f_Placing_weigh_L32]
    refine R_st ho 3 (q' := (38, [(0, .inr (.inr (6, 67))), (1, .inr (.inl y1)), (3, .inl y3), (4, .inl y4), (5, .inl y5)], [.inl (M 67 11), .inl y5], 119, pm_RF, M)) rfl ?_
    refine R_ic ho rfl (tgt := 147) rfl ?_
    refine R_gt ?_ ?_
    · refine R_pk [0, 1, 3] rfl ?_
      exact R_ret rfl
    · refine R_st ho 7 (q' := (53, [(6, .inl (i_sb y5 1)), (0, .inr (.inr (6, 67))), (1, .inr (.inl y1)), (3, .inl y3), (4, .inl y4), (5, .inl y5)], [.inl (i_sb y5 1), .inr (.inr (11, 24))], 119, pm_RF, M)) rfl ?_
      refine R_callV ho mv_Told_isHead lk_6_93 rfl (As := [.inl (i_sb y5 1)]) (kd := 11) (a := 24) (st := []) rfl rfl (Nat.le_of_ble_eq_true rfl) rfl (by decide) (Nat.le_of_ble_eq_true rfl) (ok_Told_isHead G (i_sb y5 1) M ) (fun r375 => ?_)
      show pm_R _ _ _ (56, [(6, .inl (i_sb y5 1)), (0, .inr (.inr (6, 67))), (1, .inr (.inl y1)), (3, .inl y3), (4, .inl y4), (5, .inl y5)], [.inl r375], 119, pm_RF, M) _ _
      refine R_st ho 2 (q' := (60, [(7, .inl r375), (6, .inl (i_sb y5 1)), (0, .inr (.inr (6, 67))), (1, .inr (.inl y1)), (3, .inl y3), (4, .inl y4), (5, .inl y5)], [.inl r375], 119, pm_RF, M)) rfl ?_
      refine R_if ho rfl (tgt := 89) rfl ?_
      refine R_eq ?_ ?_
      · refine R_st ho 6 (q' := (98, [(8, .inl y4), (7, .inl r375), (6, .inl (i_sb y5 1)), (0, .inr (.inr (6, 67))), (1, .inr (.inl y1)), (3, .inl y3), (4, .inl y4), (5, .inl y5)], [.inl y5, .inl (i_ad y3 1)], 119, pm_RF, M)) rfl ?_
        refine R_callS ho ms_Placing_place lk_6_81 rfl (As := [.inl (i_ad y3 1), .inl y5]) (st := []) rfl (Nat.le_of_ble_eq_true rfl) rfl (by decide) (Nat.le_of_ble_eq_true rfl) (ok_Placing_place G (i_ad y3 1) y5 M ) (fun r376 => ?_)
        show pm_R _ _ _ (101, [(8, .inl y4), (7, .inl r375), (6, .inl (i_sb y5 1)), (0, .inr (.inr (6, 67))), (1, .inr (.inl y1)), (3, .inl y3), (4, .inl y4), (5, .inl y5)], [.inl r376], 119, pm_RF, M) _ _
        refine R_st ho 5 (q' := (111, [(9, .inl r376), (8, .inl y4), (7, .inl r375), (6, .inl (i_sb y5 1)), (0, .inr (.inr (6, 67))), (1, .inr (.inl y1)), (3, .inl y3), (4, .inl y4), (5, .inl y5)], [.inl y4, .inl r376, .inr (.inr (20, 68))], 119, pm_RF, M)) rfl ?_
        refine R_iast ho rfl rfl ?_
        refine R_nm fun M377 => ?_
        refine R_st ho 4 (q' := (120, [(9, .inl r376), (8, .inl y4), (7, .inl r375), (6, .inl (i_sb y5 1)), (0, .inr (.inr (6, 67))), (1, .inr (.inl y1)), (3, .inl y3), (4, .inl y4), (5, .inl y5)], [.inl r375, .inl r376, .inr (.inr (21, 69))], 119, pm_RF, M377)) rfl ?_
        refine R_if ho rfl (tgt := 131) rfl ?_
        refine R_eq ?_ ?_
        · refine R_st ho 6 (q' := (140, [(9, .inl r376), (8, .inl y4), (7, .inl r375), (6, .inl (i_sb y5 1)), (0, .inr (.inr (6, 67))), (1, .inr (.inl y1)), (3, .inl y3), (4, .inl y4), (5, .inl y5)], [.inr (.inl (l_sb 0 (l_ml y4 815730721))), .inl r376, .inr (.inr (21, 69))], 119, pm_RF, M377)) rfl ?_
          refine R_last ho rfl rfl ?_
          refine R_nm fun M378 => ?_
          refine R_st ho 2 (q' := (32, [(5, .inl (i_ad y5 1)), (9, .inl r376), (8, .inl y4), (7, .inl r375), (6, .inl (i_sb y5 1)), (0, .inr (.inr (6, 67))), (1, .inr (.inl y1)), (3, .inl y3), (4, .inl y4)], [], 119, pm_RF, M378)) rfl ?_
          refine R_pk [0, 1, 3, 4, 5] rfl ?_
          exact ih_ y1 y3 y4 (i_ad y5 1) M378
        · refine R_st ho 10 (q' := (140, [(9, .inl r376), (8, .inl y4), (7, .inl r375), (6, .inl (i_sb y5 1)), (0, .inr (.inr (6, 67))), (1, .inr (.inl y1)), (3, .inl y3), (4, .inl y4), (5, .inl y5)], [.inr (.inl (l_sb (l_ml y5 y1) (l_ml y4 815730721))), .inl r376, .inr (.inr (21, 69))], 119, pm_RF, M377)) rfl ?_
          refine R_last ho rfl rfl ?_
          refine R_nm fun M379 => ?_
          refine R_st ho 2 (q' := (32, [(5, .inl (i_ad y5 1)), (9, .inl r376), (8, .inl y4), (7, .inl r375), (6, .inl (i_sb y5 1)), (0, .inr (.inr (6, 67))), (1, .inr (.inl y1)), (3, .inl y3), (4, .inl y4)], [], 119, pm_RF, M379)) rfl ?_
          refine R_pk [0, 1, 3, 4, 5] rfl ?_
          exact ih_ y1 y3 y4 (i_ad y5 1) M379
      · refine R_st ho 5 (q' := (71, [(7, .inl r375), (6, .inl (i_sb y5 1)), (0, .inr (.inr (6, 67))), (1, .inr (.inl y1)), (3, .inl y3), (4, .inl y4), (5, .inl y5)], [.inl (i_sb y5 1), .inl y3, .inl 1, .inr (.inr (2, 64))], 119, pm_RF, M)) rfl ?_
        refine R_callV ho mv_Judge_amount lk_6_87 rfl (As := [.inl 1, .inl y3, .inl (i_sb y5 1)]) (kd := 2) (a := 64) (st := []) rfl rfl (Nat.le_of_ble_eq_true rfl) rfl (by decide) (Nat.le_of_ble_eq_true rfl) (ok_Judge_amount G 1 y3 (i_sb y5 1) M ) (fun r380 => ?_)
        show pm_R _ _ _ (74, [(7, .inl r375), (6, .inl (i_sb y5 1)), (0, .inr (.inr (6, 67))), (1, .inr (.inl y1)), (3, .inl y3), (4, .inl y4), (5, .inl y5)], [.inl r380.1], 119, pm_RF, r380.2) _ _
        refine R_st ho 5 (q' := (82, [(7, .inl r375), (6, .inl (i_sb y5 1)), (0, .inr (.inr (6, 67))), (1, .inr (.inl y1)), (3, .inl y3), (4, .inl y4), (5, .inl y5)], [.inl (i_sb y5 1), .inl y3, .inl 0, .inr (.inr (2, 64)), .inl r380.1], 119, pm_RF, r380.2)) rfl ?_
        refine R_callV ho mv_Judge_amount lk_6_87 rfl (As := [.inl 0, .inl y3, .inl (i_sb y5 1)]) (kd := 2) (a := 64) (st := [.inl r380.1]) rfl rfl (Nat.le_of_ble_eq_true rfl) rfl (by decide) (Nat.le_of_ble_eq_true rfl) (ok_Judge_amount G 0 y3 (i_sb y5 1) r380.2 ) (fun r381 => ?_)
        show pm_R _ _ _ (85, [(7, .inl r375), (6, .inl (i_sb y5 1)), (0, .inr (.inr (6, 67))), (1, .inr (.inl y1)), (3, .inl y3), (4, .inl y4), (5, .inl y5)], [.inl r381.1, .inl r380.1], 119, pm_RF, r381.2) _ _
        refine R_st ho 7 (q' := (98, [(8, .inl (i_sb r380.1 r381.1)), (7, .inl r375), (6, .inl (i_sb y5 1)), (0, .inr (.inr (6, 67))), (1, .inr (.inl y1)), (3, .inl y3), (4, .inl y4), (5, .inl y5)], [.inl y5, .inl (i_ad y3 1)], 119, pm_RF, r381.2)) rfl ?_
        refine R_callS ho ms_Placing_place lk_6_81 rfl (As := [.inl (i_ad y3 1), .inl y5]) (st := []) rfl (Nat.le_of_ble_eq_true rfl) rfl (by decide) (Nat.le_of_ble_eq_true rfl) (ok_Placing_place G (i_ad y3 1) y5 r381.2 ) (fun r382 => ?_)
        show pm_R _ _ _ (101, [(8, .inl (i_sb r380.1 r381.1)), (7, .inl r375), (6, .inl (i_sb y5 1)), (0, .inr (.inr (6, 67))), (1, .inr (.inl y1)), (3, .inl y3), (4, .inl y4), (5, .inl y5)], [.inl r382], 119, pm_RF, r381.2) _ _
        refine R_st ho 5 (q' := (111, [(9, .inl r382), (8, .inl (i_sb r380.1 r381.1)), (7, .inl r375), (6, .inl (i_sb y5 1)), (0, .inr (.inr (6, 67))), (1, .inr (.inl y1)), (3, .inl y3), (4, .inl y4), (5, .inl y5)], [.inl (i_sb r380.1 r381.1), .inl r382, .inr (.inr (20, 68))], 119, pm_RF, r381.2)) rfl ?_
        refine R_iast ho rfl rfl ?_
        refine R_nm fun M383 => ?_
        refine R_st ho 4 (q' := (120, [(9, .inl r382), (8, .inl (i_sb r380.1 r381.1)), (7, .inl r375), (6, .inl (i_sb y5 1)), (0, .inr (.inr (6, 67))), (1, .inr (.inl y1)), (3, .inl y3), (4, .inl y4), (5, .inl y5)], [.inl r375, .inl r382, .inr (.inr (21, 69))], 119, pm_RF, M383)) rfl ?_
        refine R_if ho rfl (tgt := 131) rfl ?_
        refine R_eq ?_ ?_
        · refine R_st ho 6 (q' := (140, [(9, .inl r382), (8, .inl (i_sb r380.1 r381.1)), (7, .inl r375), (6, .inl (i_sb y5 1)), (0, .inr (.inr (6, 67))), (1, .inr (.inl y1)), (3, .inl y3), (4, .inl y4), (5, .inl y5)], [.inr (.inl (l_sb 0 (l_ml (i_sb r380.1 r381.1) 815730721))), .inl r382, .inr (.inr (21, 69))], 119, pm_RF, M383)) rfl ?_
          refine R_last ho rfl rfl ?_
          refine R_nm fun M384 => ?_
          refine R_st ho 2 (q' := (32, [(5, .inl (i_ad y5 1)), (9, .inl r382), (8, .inl (i_sb r380.1 r381.1)), (7, .inl r375), (6, .inl (i_sb y5 1)), (0, .inr (.inr (6, 67))), (1, .inr (.inl y1)), (3, .inl y3), (4, .inl y4)], [], 119, pm_RF, M384)) rfl ?_
          refine R_pk [0, 1, 3, 4, 5] rfl ?_
          exact ih_ y1 y3 y4 (i_ad y5 1) M384
        · refine R_st ho 10 (q' := (140, [(9, .inl r382), (8, .inl (i_sb r380.1 r381.1)), (7, .inl r375), (6, .inl (i_sb y5 1)), (0, .inr (.inr (6, 67))), (1, .inr (.inl y1)), (3, .inl y3), (4, .inl y4), (5, .inl y5)], [.inr (.inl (l_sb (l_ml y5 y1) (l_ml (i_sb r380.1 r381.1) 815730721))), .inl r382, .inr (.inr (21, 69))], 119, pm_RF, M383)) rfl ?_
          refine R_last ho rfl rfl ?_
          refine R_nm fun M385 => ?_
          refine R_st ho 2 (q' := (32, [(5, .inl (i_ad y5 1)), (9, .inl r382), (8, .inl (i_sb r380.1 r381.1)), (7, .inl r375), (6, .inl (i_sb y5 1)), (0, .inr (.inr (6, 67))), (1, .inr (.inl y1)), (3, .inl y3), (4, .inl y4)], [], 119, pm_RF, M385)) rfl ?_
          refine R_pk [0, 1, 3, 4, 5] rfl ?_
          exact ih_ y1 y3 y4 (i_ad y5 1) M385
theorem ok_Placing_weigh_L6 (G : pm_G)    : ∀ (n_ : Nat) (y1 : Int) (y3 : Int) (M : pm_M), pm_R G mt_Placing_weigh 5 (6, [(0, .inr (.inr (6, 67))), (1, .inr (.inl y1)), (3, .inl y3)], [], 119, pm_RF, M) (f_Placing_weigh_L6 n_ y1 y3 M) (fun e_ q_ => q_ = (159, [], [], 119, pm_RF, e_)) := by
  have ho : pm_oG G mt_Placing_weigh := (oa_Placing_weigh).g G
  intro n_
  induction n_ with
  | zero => intro _ _ _; exact R_none
  | succ n_ ih_ =>
    intro y1 y3 M
    rw [f_Placing_weigh_L6]
    refine R_st ho 3 (q' := (11, [(0, .inr (.inr (6, 67))), (1, .inr (.inl y1)), (3, .inl y3)], [.inr (.inr (11, 24)), .inl y3], 119, pm_RF, M)) rfl ?_
    refine R_callV ho mv_Told_plinths lk_6_59 rfl (As := []) (kd := 11) (a := 24) (st := [.inl y3]) rfl rfl (Nat.le_of_ble_eq_true rfl) rfl (by decide) (Nat.le_of_ble_eq_true rfl) (ok_Told_plinths G  M ) (fun r373 => ?_)
    show pm_R _ _ _ (14, [(0, .inr (.inr (6, 67))), (1, .inr (.inl y1)), (3, .inl y3)], [.inl r373, .inl y3], 119, pm_RF, M) _ _
    refine R_ic ho rfl (tgt := 159) rfl ?_
    refine R_ge ?_ ?_
    · refine R_pk [] rfl ?_
      exact R_ret rfl
    · refine R_st ho 5 (q' := (24, [(0, .inr (.inr (6, 67))), (1, .inr (.inl y1)), (3, .inl y3)], [.inl (-1), .inl y3, .inl 3, .inr (.inr (2, 64))], 119, pm_RF, M)) rfl ?_
      refine R_callV ho mv_Judge_amount lk_6_87 rfl (As := [.inl 3, .inl y3, .inl (-1)]) (kd := 2) (a := 64) (st := []) rfl rfl (Nat.le_of_ble_eq_true rfl) rfl (by decide) (Nat.le_of_ble_eq_true rfl) (ok_Judge_amount G 3 y3 (-1) M ) (fun r374 => ?_)
      show pm_R _ _ _ (27, [(0, .inr (.inr (6, 67))), (1, .inr (.inl y1)), (3, .inl y3)], [.inl r374.1], 119, pm_RF, r374.2) _ _
      refine R_st ho 3 (q' := (32, [(5, .inl 1), (4, .inl r374.1), (0, .inr (.inr (6, 67))), (1, .inr (.inl y1)), (3, .inl y3)], [], 119, pm_RF, r374.2)) rfl ?_
      refine R_pk [0, 1, 3, 4, 5] rfl ?_
      refine R_bind (ok_Placing_weigh_L32 G pm_F y1 y3 r374.1 1 r374.2) ?_
      intro e386 q_ hq_
      obtain rfl : q_ = (147, [(0, .inr (.inr (6, 67))), (1, .inr (.inl e386.1)), (3, .inl e386.2.1)], [], 119, pm_RF, e386.2.2) := hq_
      refine R_st ho 6 (q' := (6, [(3, .inl (i_ad e386.2.1 1)), (1, .inr (.inl (l_dv e386.1 13))), (0, .inr (.inr (6, 67)))], [], 119, pm_RF, e386.2.2)) rfl ?_
      refine R_pk [0, 1, 3] rfl ?_
      exact ih_ (l_dv e386.1 13) (i_ad e386.2.1 1) e386.2.2
theorem ok_Placing_weigh (G : pm_G)  (M : pm_M)  : pm_R G mt_Placing_weigh 5 (0, [(0, .inr (.inr (6, 67)))], [], 119, pm_RF, M) (f_Placing_weigh M) (pm_Zr mt_Placing_weigh pm_gV) := by
  have ho : pm_oG G mt_Placing_weigh := (oa_Placing_weigh).g G
  unfold f_Placing_weigh
  refine R_st ho 4 (q' := (6, [(3, .inl 0), (1, .inr (.inl 62748517)), (0, .inr (.inr (6, 67)))], [], 119, pm_RF, M)) rfl ?_
  refine R_pk [0, 1, 3] rfl ?_
  refine R_bind (ok_Placing_weigh_L6 G pm_F 62748517 0 M) ?_
  intro e387 q_ hq_
  obtain rfl : q_ = (159, [], [], 119, pm_RF, e387) := hq_
  exact R_end (v := none) rfl rfl rfl rfl
theorem ok_Arrays_fill2_70_L6 (G : pm_G)    : ∀ (n_ : Nat) (y1 : Int) (y3 : Int) (y4 : Int) (M : pm_M), pm_R G mt_Arrays_fill2 1 (6, [(0, .inr (.inr (21, 70))), (1, .inr (.inl y1)), (3, .inl y3), (4, .inl y4)], [], 119, pm_RF, M) (f_Arrays_fill2_70_L6 n_ y1 y3 y4 M) (fun e_ q_ => q_ = (22, [], [], 119, pm_RF, e_)) := by
  have ho : pm_oG G mt_Arrays_fill2 := (oa_Arrays_fill2).g G
  intro n_
  induction n_ with
  | zero => intro _ _ _ _; exact R_none
  | succ n_ ih_ =>
    intro y1 y3 y4 M
    rw [f_Arrays_fill2_70_L6]
    refine R_st ho 2 (q' := (9, [(0, .inr (.inr (21, 70))), (1, .inr (.inl y1)), (3, .inl y3), (4, .inl y4)], [.inl y4, .inl y3], 119, pm_RF, M)) rfl ?_
    refine R_ic ho rfl (tgt := 22) rfl ?_
    refine R_ge ?_ ?_
    · refine R_pk [] rfl ?_
      exact R_ret rfl
    · refine R_st ho 3 (q' := (15, [(0, .inr (.inr (21, 70))), (1, .inr (.inl y1)), (3, .inl y3), (4, .inl y4)], [.inr (.inl y1), .inl y3, .inr (.inr (21, 70))], 119, pm_RF, M)) rfl ?_
      refine R_last ho rfl rfl ?_
      refine R_nm fun M389 => ?_
      refine R_st ho 2 (q' := (6, [(3, .inl (i_ad y3 1)), (0, .inr (.inr (21, 70))), (1, .inr (.inl y1)), (4, .inl y4)], [], 119, pm_RF, M389)) rfl ?_
      refine R_pk [0, 1, 3, 4] rfl ?_
      exact ih_ y1 (i_ad y3 1) y4 M389
theorem ok_Arrays_fill2_70 (G : pm_G) (x1 : Int) (M : pm_M)  : pm_R G mt_Arrays_fill2 1 (0, [(0, .inr (.inr (21, 70))), (1, .inr (.inl x1))], [], 119, pm_RF, M) (f_Arrays_fill2_70 x1 M) (pm_Zr mt_Arrays_fill2 pm_gV) := by
  have ho : pm_oG G mt_Arrays_fill2 := (oa_Arrays_fill2).g G
  unfold f_Arrays_fill2_70
  refine R_st ho 5 (q' := (6, [(4, .inl 9), (3, .inl 0), (0, .inr (.inr (21, 70))), (1, .inr (.inl x1))], [], 119, pm_RF, M)) rfl ?_
  refine R_pk [0, 1, 3, 4] rfl ?_
  refine R_bind (ok_Arrays_fill2_70_L6 G pm_F x1 0 9 M) ?_
  intro e390 q_ hq_
  obtain rfl : q_ = (22, [], [], 119, pm_RF, e390) := hq_
  exact R_end (v := none) rfl rfl rfl rfl
theorem ok_Arrays_fill2_71_L6 (G : pm_G)    : ∀ (n_ : Nat) (y1 : Int) (y3 : Int) (y4 : Int) (M : pm_M), pm_R G mt_Arrays_fill2 1 (6, [(0, .inr (.inr (21, 71))), (1, .inr (.inl y1)), (3, .inl y3), (4, .inl y4)], [], 119, pm_RF, M) (f_Arrays_fill2_71_L6 n_ y1 y3 y4 M) (fun e_ q_ => q_ = (22, [], [], 119, pm_RF, e_)) := by
  have ho : pm_oG G mt_Arrays_fill2 := (oa_Arrays_fill2).g G
  intro n_
  induction n_ with
  | zero => intro _ _ _ _; exact R_none
  | succ n_ ih_ =>
    intro y1 y3 y4 M
    rw [f_Arrays_fill2_71_L6]
    refine R_st ho 2 (q' := (9, [(0, .inr (.inr (21, 71))), (1, .inr (.inl y1)), (3, .inl y3), (4, .inl y4)], [.inl y4, .inl y3], 119, pm_RF, M)) rfl ?_
    refine R_ic ho rfl (tgt := 22) rfl ?_
    refine R_ge ?_ ?_
    · refine R_pk [] rfl ?_
      exact R_ret rfl
    · refine R_st ho 3 (q' := (15, [(0, .inr (.inr (21, 71))), (1, .inr (.inl y1)), (3, .inl y3), (4, .inl y4)], [.inr (.inl y1), .inl y3, .inr (.inr (21, 71))], 119, pm_RF, M)) rfl ?_
      refine R_last ho rfl rfl ?_
      refine R_nm fun M392 => ?_
      refine R_st ho 2 (q' := (6, [(3, .inl (i_ad y3 1)), (0, .inr (.inr (21, 71))), (1, .inr (.inl y1)), (4, .inl y4)], [], 119, pm_RF, M392)) rfl ?_
      refine R_pk [0, 1, 3, 4] rfl ?_
      exact ih_ y1 (i_ad y3 1) y4 M392
theorem ok_Arrays_fill2_71 (G : pm_G) (x1 : Int) (M : pm_M)  : pm_R G mt_Arrays_fill2 1 (0, [(0, .inr (.inr (21, 71))), (1, .inr (.inl x1))], [], 119, pm_RF, M) (f_Arrays_fill2_71 x1 M) (pm_Zr mt_Arrays_fill2 pm_gV) := by
  have ho : pm_oG G mt_Arrays_fill2 := (oa_Arrays_fill2).g G
  unfold f_Arrays_fill2_71
  refine R_st ho 5 (q' := (6, [(4, .inl 21), (3, .inl 0), (0, .inr (.inr (21, 71))), (1, .inr (.inl x1))], [], 119, pm_RF, M)) rfl ?_
  refine R_pk [0, 1, 3, 4] rfl ?_
  refine R_bind (ok_Arrays_fill2_71_L6 G pm_F x1 0 21 M) ?_
  intro e393 q_ hq_
  obtain rfl : q_ = (22, [], [], 119, pm_RF, e393) := hq_
  exact R_end (v := none) rfl rfl rfl rfl
theorem ok_Arrays_fill_73_L5 (G : pm_G)    : ∀ (n_ : Nat) (y1 : Int) (y2 : Int) (y3 : Int) (M : pm_M), pm_R G mt_Arrays_fill 1 (5, [(0, .inr (.inr (20, 73))), (1, .inl y1), (2, .inl y2), (3, .inl y3)], [], 119, pm_RF, M) (f_Arrays_fill_73_L5 n_ y1 y2 y3 M) (fun e_ q_ => q_ = (20, [], [], 119, pm_RF, e_)) := by
  have ho : pm_oG G mt_Arrays_fill := (oa_Arrays_fill).g G
  intro n_
  induction n_ with
  | zero => intro _ _ _ _; exact R_none
  | succ n_ ih_ =>
    intro y1 y2 y3 M
    rw [f_Arrays_fill_73_L5]
    refine R_st ho 2 (q' := (7, [(0, .inr (.inr (20, 73))), (1, .inl y1), (2, .inl y2), (3, .inl y3)], [.inl y3, .inl y2], 119, pm_RF, M)) rfl ?_
    refine R_ic ho rfl (tgt := 20) rfl ?_
    refine R_ge ?_ ?_
    · refine R_pk [] rfl ?_
      exact R_ret rfl
    · refine R_st ho 3 (q' := (13, [(0, .inr (.inr (20, 73))), (1, .inl y1), (2, .inl y2), (3, .inl y3)], [.inl y1, .inl y2, .inr (.inr (20, 73))], 119, pm_RF, M)) rfl ?_
      refine R_iast ho rfl rfl ?_
      refine R_nm fun M395 => ?_
      refine R_st ho 2 (q' := (5, [(2, .inl (i_ad y2 1)), (0, .inr (.inr (20, 73))), (1, .inl y1), (3, .inl y3)], [], 119, pm_RF, M395)) rfl ?_
      refine R_pk [0, 1, 2, 3] rfl ?_
      exact ih_ y1 (i_ad y2 1) y3 M395
theorem ok_Arrays_fill_73 (G : pm_G) (x1 : Int) (M : pm_M)  : pm_R G mt_Arrays_fill 1 (0, [(0, .inr (.inr (20, 73))), (1, .inl x1)], [], 119, pm_RF, M) (f_Arrays_fill_73 x1 M) (pm_Zr mt_Arrays_fill pm_gV) := by
  have ho : pm_oG G mt_Arrays_fill := (oa_Arrays_fill).g G
  unfold f_Arrays_fill_73
  refine R_st ho 5 (q' := (5, [(3, .inl 21), (2, .inl 0), (0, .inr (.inr (20, 73))), (1, .inl x1)], [], 119, pm_RF, M)) rfl ?_
  refine R_pk [0, 1, 2, 3] rfl ?_
  refine R_bind (ok_Arrays_fill_73_L5 G pm_F x1 0 21 M) ?_
  intro e396 q_ hq_
  obtain rfl : q_ = (20, [], [], 119, pm_RF, e396) := hq_
  exact R_end (v := none) rfl rfl rfl rfl
theorem ok_Placing_shift_L2 (G : pm_G)    : ∀ (n_ : Nat) (y1 : Int) (y3 : Int) (M : pm_M), pm_R G mt_Placing_shift 1 (2, [(0, .inr (.inr (6, 67))), (1, .inr (.inl y1)), (3, .inl y3)], [], 119, pm_RF, M) (f_Placing_shift_L2 n_ y1 y3 M) (fun e_ q_ => q_ = (63, [], [], 119, pm_RF, e_)) := by
  have ho : pm_oG G mt_Placing_shift := (oa_Placing_shift).g G
  intro n_
  induction n_ with
  | zero => intro _ _ _; exact R_none
  | succ n_ ih_ =>
    intro y1 y3 M
    rw [f_Placing_shift_L2]
    refine R_st ho 3 (q' := (7, [(0, .inr (.inr (6, 67))), (1, .inr (.inl y1)), (3, .inl y3)], [.inl (M 67 11), .inl y3], 119, pm_RF, M)) rfl ?_
    refine R_ic ho rfl (tgt := 63) rfl ?_
    refine R_gt ?_ ?_
    · refine R_pk [] rfl ?_
      exact R_ret rfl
    · refine R_st ho 3 (q' := (15, [(0, .inr (.inr (6, 67))), (1, .inr (.inl y1)), (3, .inl y3)], [.inl y3, .inr (.inr (23, 75))], 119, pm_RF, M)) rfl ?_
      refine R_bald ho (by decide) rfl rfl ?_
      refine R_if ho rfl (tgt := 47) rfl ?_
      refine R_eq ?_ ?_
      · refine R_st ho 4 (q' := (53, [(0, .inr (.inr (6, 67))), (1, .inr (.inl y1)), (3, .inl y3)], [.inl y3, .inr (.inr (21, 72)), .inl y3, .inr (.inr (21, 72))], 119, pm_RF, M)) rfl ?_
        refine R_lald ho rfl rfl ?_
        refine R_st ho 2 (q' := (56, [(0, .inr (.inr (6, 67))), (1, .inr (.inl y1)), (3, .inl y3)], [.inr (.inl (l_sb (M 72 (y3).toNat) y1)), .inl y3, .inr (.inr (21, 72))], 119, pm_RF, M)) rfl ?_
        refine R_last ho rfl rfl ?_
        refine R_nm fun M408 => ?_
        refine R_st ho 2 (q' := (2, [(3, .inl (i_ad y3 1)), (0, .inr (.inr (6, 67))), (1, .inr (.inl y1))], [], 119, pm_RF, M408)) rfl ?_
        refine R_pk [0, 1, 3] rfl ?_
        exact ih_ y1 (i_ad y3 1) M408
      · refine R_st ho 5 (q' := (28, [(0, .inr (.inr (6, 67))), (1, .inr (.inl y1)), (3, .inl y3)], [.inl y3, .inr (.inr (20, 73)), .inr (.inr (21, 70))], 119, pm_RF, M)) rfl ?_
        refine R_iald ho rfl rfl ?_
        refine R_st ho 1 (q' := (30, [(0, .inr (.inr (6, 67))), (1, .inr (.inl y1)), (3, .inl y3)], [.inl (M 73 (y3).toNat), .inr (.inr (21, 70)), .inl (M 73 (y3).toNat), .inr (.inr (21, 70))], 119, pm_RF, M)) rfl ?_
        refine R_lald ho rfl rfl ?_
        refine R_st ho 2 (q' := (33, [(0, .inr (.inr (6, 67))), (1, .inr (.inl y1)), (3, .inl y3)], [.inr (.inl (l_ad (M 70 ((M 73 (y3).toNat)).toNat) y1)), .inl (M 73 (y3).toNat), .inr (.inr (21, 70))], 119, pm_RF, M)) rfl ?_
        refine R_last ho rfl rfl ?_
        refine R_nm fun M409 => ?_
        refine R_st ho 4 (q' := (40, [(0, .inr (.inr (6, 67))), (1, .inr (.inl y1)), (3, .inl y3)], [.inl y3, .inr (.inr (21, 71)), .inl y3, .inr (.inr (21, 71))], 119, pm_RF, M409)) rfl ?_
        refine R_lald ho rfl rfl ?_
        refine R_st ho 2 (q' := (43, [(0, .inr (.inr (6, 67))), (1, .inr (.inl y1)), (3, .inl y3)], [.inr (.inl (l_sb (M409 71 (y3).toNat) y1)), .inl y3, .inr (.inr (21, 71))], 119, pm_RF, M409)) rfl ?_
        refine R_last ho rfl rfl ?_
        refine R_nm fun M410 => ?_
        refine R_st ho 3 (q' := (2, [(3, .inl (i_ad y3 1)), (0, .inr (.inr (6, 67))), (1, .inr (.inl y1))], [], 119, pm_RF, M410)) rfl ?_
        refine R_pk [0, 1, 3] rfl ?_
        exact ih_ y1 (i_ad y3 1) M410
theorem ok_Placing_shift (G : pm_G) (x1 : Int) (M : pm_M)  : pm_R G mt_Placing_shift 1 (0, [(0, .inr (.inr (6, 67))), (1, .inr (.inl x1))], [], 119, pm_RF, M) (f_Placing_shift x1 M) (pm_Zr mt_Placing_shift pm_gV) := by
  have ho : pm_oG G mt_Placing_shift := (oa_Placing_shift).g G
  unfold f_Placing_shift
  refine R_st ho 2 (q' := (2, [(3, .inl 0), (0, .inr (.inr (6, 67))), (1, .inr (.inl x1))], [], 119, pm_RF, M)) rfl ?_
  refine R_pk [0, 1, 3] rfl ?_
  refine R_bind (ok_Placing_shift_L2 G pm_F x1 0 M) ?_
  intro e411 q_ hq_
  obtain rfl : q_ = (63, [], [], 119, pm_RF, e411) := hq_
  exact R_end (v := none) rfl rfl rfl rfl
theorem ok_Placing_nearestFrom_L17 (G : pm_G)    : ∀ (n_ : Nat) (y1 : Int) (y2 : Int) (y3 : Int) (y5 : Int) (y6 : Int) (M : pm_M), pm_R G mt_Placing_nearestFrom 2 (17, [(0, .inr (.inr (6, 67))), (1, .inl y1), (2, .inl y2), (3, .inr (.inl y3)), (5, .inl y5), (6, .inl y6)], [], 119, pm_RF, M) (f_Placing_nearestFrom_L17 n_ y1 y2 y3 y5 y6 M) (fun e_ q_ => q_ = (124, [(0, .inr (.inr (6, 67))), (3, .inr (.inl e_.1)), (5, .inl e_.2.1)], [], 119, pm_RF, e_.2.2)) := by
  have ho : pm_oG G mt_Placing_nearestFrom := (oa_Placing_nearestFrom).g G
  intro n_
  induction n_ with
  | zero => intro _ _ _ _ _ _; exact R_none
  | succ n_ ih_ =>
    intro y1 y2 y3 y5 y6 M
    rw [f_Placing_nearestFrom_L17]
    refine R_st ho 3 (q' := (23, [(0, .inr (.inr (6, 67))), (1, .inl y1), (2, .inl y2), (3, .inr (.inl y3)), (5, .inl y5), (6, .inl y6)], [.inl (M 67 11), .inl y6], 119, pm_RF, M)) rfl ?_
    refine R_ic ho rfl (tgt := 124) rfl ?_
    refine R_gt ?_ ?_
    · refine R_pk [0, 3, 5] rfl ?_
      exact R_ret rfl
    · refine R_st ho 3 (q' := (32, [(0, .inr (.inr (6, 67))), (1, .inl y1), (2, .inl y2), (3, .inr (.inl y3)), (5, .inl y5), (6, .inl y6)], [.inl y6, .inr (.inr (23, 75))], 119, pm_RF, M)) rfl ?_
      refine R_bald ho (by decide) rfl rfl ?_
      refine R_if ho rfl (tgt := 118) rfl ?_
      refine R_ne ?_ ?_
      · refine R_st ho 4 (q' := (43, [(0, .inr (.inr (6, 67))), (1, .inl y1), (2, .inl y2), (3, .inr (.inl y3)), (5, .inl y5), (6, .inl y6)], [.inl y6, .inl y2, .inr (.inr (21, 69))], 119, pm_RF, M)) rfl ?_
        refine R_callS ho ms_Placing_place lk_6_81 rfl (As := [.inl y2, .inl y6]) (st := [.inr (.inr (21, 69))]) rfl (Nat.le_of_ble_eq_true rfl) rfl (by decide) (Nat.le_of_ble_eq_true rfl) (ok_Placing_place G y2 y6 M ) (fun r404 => ?_)
        show pm_R _ _ _ (46, [(0, .inr (.inr (6, 67))), (1, .inl y1), (2, .inl y2), (3, .inr (.inl y3)), (5, .inl y5), (6, .inl y6)], [.inl r404, .inr (.inr (21, 69))], 119, pm_RF, M) _ _
        refine R_lald ho rfl rfl ?_
        refine R_st ho 3 (q' := (52, [(0, .inr (.inr (6, 67))), (1, .inl y1), (2, .inl y2), (3, .inr (.inl y3)), (5, .inl y5), (6, .inl y6)], [.inl y2, .inr (.inr (21, 70)), .inr (.inl (M 69 (r404).toNat))], 119, pm_RF, M)) rfl ?_
        refine R_lald ho rfl rfl ?_
        refine R_st ho 4 (q' := (60, [(0, .inr (.inr (6, 67))), (1, .inl y1), (2, .inl y2), (3, .inr (.inl y3)), (5, .inl y5), (6, .inl y6)], [.inl y6, .inr (.inr (21, 71)), .inr (.inl (l_sb (M 69 (r404).toNat) (M 70 (y2).toNat)))], 119, pm_RF, M)) rfl ?_
        refine R_lald ho rfl rfl ?_
        refine R_st ho 6 (q' := (72, [(7, .inr (.inl (l_sb (l_sb (M 69 (r404).toNat) (M 70 (y2).toNat)) (M 71 (y6).toNat)))), (0, .inr (.inr (6, 67))), (1, .inl y1), (2, .inl y2), (3, .inr (.inl y3)), (5, .inl y5), (6, .inl y6)], [.inl y6, .inr (.inr (21, 72)), .inr (.inl (l_sb (l_sb (M 69 (r404).toNat) (M 70 (y2).toNat)) (M 71 (y6).toNat)))], 119, pm_RF, M)) rfl ?_
        refine R_lald ho rfl rfl ?_
        refine R_lc ho rfl rfl (tgt := 94) rfl ?_
        refine R_ge ?_ ?_
        · refine R_st ho 3 (q' := (100, [(7, .inr (.inl (l_sb (l_sb (M 69 (r404).toNat) (M 70 (y2).toNat)) (M 71 (y6).toNat)))), (0, .inr (.inr (6, 67))), (1, .inl y1), (2, .inl y2), (3, .inr (.inl y3)), (5, .inl y5), (6, .inl y6)], [.inl y6, .inr (.inr (21, 72))], 119, pm_RF, M)) rfl ?_
          refine R_lald ho rfl rfl ?_
          refine R_st ho 1 (q' := (102, [(7, .inr (.inl (l_sb (l_sb (M 69 (r404).toNat) (M 70 (y2).toNat)) (M 71 (y6).toNat)))), (0, .inr (.inr (6, 67))), (1, .inl y1), (2, .inl y2), (3, .inr (.inl y3)), (5, .inl y5), (6, .inl y6)], [.inr (.inl y3), .inr (.inl (M 72 (y6).toNat))], 119, pm_RF, M)) rfl ?_
          refine R_lc ho rfl rfl (tgt := 118) rfl ?_
          refine R_ge ?_ ?_
          · refine R_st ho 2 (q' := (17, [(6, .inl (i_ad y6 1)), (7, .inr (.inl (l_sb (l_sb (M 69 (r404).toNat) (M 70 (y2).toNat)) (M 71 (y6).toNat)))), (0, .inr (.inr (6, 67))), (1, .inl y1), (2, .inl y2), (3, .inr (.inl y3)), (5, .inl y5)], [], 119, pm_RF, M)) rfl ?_
            refine R_pk [0, 1, 2, 3, 5, 6] rfl ?_
            exact ih_ y1 y2 y3 y5 (i_ad y6 1) M
          · refine R_st ho 3 (q' := (112, [(7, .inr (.inl (l_sb (l_sb (M 69 (r404).toNat) (M 70 (y2).toNat)) (M 71 (y6).toNat)))), (0, .inr (.inr (6, 67))), (1, .inl y1), (2, .inl y2), (3, .inr (.inl y3)), (5, .inl y5), (6, .inl y6)], [.inl y6, .inr (.inr (21, 72))], 119, pm_RF, M)) rfl ?_
            refine R_lald ho rfl rfl ?_
            refine R_st ho 5 (q' := (17, [(6, .inl (i_ad y6 1)), (5, .inl y6), (3, .inr (.inl (M 72 (y6).toNat))), (7, .inr (.inl (l_sb (l_sb (M 69 (r404).toNat) (M 70 (y2).toNat)) (M 71 (y6).toNat)))), (0, .inr (.inr (6, 67))), (1, .inl y1), (2, .inl y2)], [], 119, pm_RF, M)) rfl ?_
            refine R_pk [0, 1, 2, 3, 5, 6] rfl ?_
            exact ih_ y1 y2 (M 72 (y6).toNat) y6 (i_ad y6 1) M
        · refine R_st ho 4 (q' := (85, [(7, .inr (.inl (l_sb (l_sb (M 69 (r404).toNat) (M 70 (y2).toNat)) (M 71 (y6).toNat)))), (0, .inr (.inr (6, 67))), (1, .inl y1), (2, .inl y2), (3, .inr (.inl y3)), (5, .inl y5), (6, .inl y6)], [.inr (.inl (l_sb (l_sb (M 69 (r404).toNat) (M 70 (y2).toNat)) (M 71 (y6).toNat))), .inl y6, .inr (.inr (21, 72))], 119, pm_RF, M)) rfl ?_
          refine R_last ho rfl rfl ?_
          refine R_nm fun M405 => ?_
          refine R_st ho 4 (q' := (93, [(7, .inr (.inl (l_sb (l_sb (M 69 (r404).toNat) (M 70 (y2).toNat)) (M 71 (y6).toNat)))), (0, .inr (.inr (6, 67))), (1, .inl y1), (2, .inl y2), (3, .inr (.inl y3)), (5, .inl y5), (6, .inl y6)], [.inl y1, .inl y6, .inr (.inr (20, 74))], 119, pm_RF, M405)) rfl ?_
          refine R_iast ho rfl rfl ?_
          refine R_nm fun M406 => ?_
          refine R_st ho 3 (q' := (100, [(7, .inr (.inl (l_sb (l_sb (M 69 (r404).toNat) (M 70 (y2).toNat)) (M 71 (y6).toNat)))), (0, .inr (.inr (6, 67))), (1, .inl y1), (2, .inl y2), (3, .inr (.inl y3)), (5, .inl y5), (6, .inl y6)], [.inl y6, .inr (.inr (21, 72))], 119, pm_RF, M406)) rfl ?_
          refine R_lald ho rfl rfl ?_
          refine R_st ho 1 (q' := (102, [(7, .inr (.inl (l_sb (l_sb (M 69 (r404).toNat) (M 70 (y2).toNat)) (M 71 (y6).toNat)))), (0, .inr (.inr (6, 67))), (1, .inl y1), (2, .inl y2), (3, .inr (.inl y3)), (5, .inl y5), (6, .inl y6)], [.inr (.inl y3), .inr (.inl (M406 72 (y6).toNat))], 119, pm_RF, M406)) rfl ?_
          refine R_lc ho rfl rfl (tgt := 118) rfl ?_
          refine R_ge ?_ ?_
          · refine R_st ho 2 (q' := (17, [(6, .inl (i_ad y6 1)), (7, .inr (.inl (l_sb (l_sb (M 69 (r404).toNat) (M 70 (y2).toNat)) (M 71 (y6).toNat)))), (0, .inr (.inr (6, 67))), (1, .inl y1), (2, .inl y2), (3, .inr (.inl y3)), (5, .inl y5)], [], 119, pm_RF, M406)) rfl ?_
            refine R_pk [0, 1, 2, 3, 5, 6] rfl ?_
            exact ih_ y1 y2 y3 y5 (i_ad y6 1) M406
          · refine R_st ho 3 (q' := (112, [(7, .inr (.inl (l_sb (l_sb (M 69 (r404).toNat) (M 70 (y2).toNat)) (M 71 (y6).toNat)))), (0, .inr (.inr (6, 67))), (1, .inl y1), (2, .inl y2), (3, .inr (.inl y3)), (5, .inl y5), (6, .inl y6)], [.inl y6, .inr (.inr (21, 72))], 119, pm_RF, M406)) rfl ?_
            refine R_lald ho rfl rfl ?_
            refine R_st ho 5 (q' := (17, [(6, .inl (i_ad y6 1)), (5, .inl y6), (3, .inr (.inl (M406 72 (y6).toNat))), (7, .inr (.inl (l_sb (l_sb (M 69 (r404).toNat) (M 70 (y2).toNat)) (M 71 (y6).toNat)))), (0, .inr (.inr (6, 67))), (1, .inl y1), (2, .inl y2)], [], 119, pm_RF, M406)) rfl ?_
            refine R_pk [0, 1, 2, 3, 5, 6] rfl ?_
            exact ih_ y1 y2 (M406 72 (y6).toNat) y6 (i_ad y6 1) M406
      · refine R_st ho 2 (q' := (17, [(6, .inl (i_ad y6 1)), (0, .inr (.inr (6, 67))), (1, .inl y1), (2, .inl y2), (3, .inr (.inl y3)), (5, .inl y5)], [], 119, pm_RF, M)) rfl ?_
        refine R_pk [0, 1, 2, 3, 5, 6] rfl ?_
        exact ih_ y1 y2 y3 y5 (i_ad y6 1) M
theorem ok_Placing_nearestFrom (G : pm_G) (x1 : Int) (M : pm_M)  : pm_R G mt_Placing_nearestFrom 2 (0, [(0, .inr (.inr (6, 67))), (1, .inl x1)], [], 119, pm_RF, M) (f_Placing_nearestFrom x1 M) (pm_Zr mt_Placing_nearestFrom pm_gI) := by
  have ho : pm_oG G mt_Placing_nearestFrom := (oa_Placing_nearestFrom).g G
  unfold f_Placing_nearestFrom
  refine R_st ho 3 (q' := (5, [(0, .inr (.inr (6, 67))), (1, .inl x1)], [.inl x1, .inr (.inr (20, 73))], 119, pm_RF, M)) rfl ?_
  refine R_iald ho rfl rfl ?_
  refine R_st ho 7 (q' := (17, [(6, .inl 1), (5, .inl 0), (3, .inr (.inl 1152921504606846976)), (2, .inl (M 73 (x1).toNat)), (0, .inr (.inr (6, 67))), (1, .inl x1)], [], 119, pm_RF, M)) rfl ?_
  refine R_pk [0, 1, 2, 3, 5, 6] rfl ?_
  refine R_bind (ok_Placing_nearestFrom_L17 G pm_F x1 (M 73 (x1).toNat) 1152921504606846976 0 1 M) ?_
  intro e407 q_ hq_
  obtain rfl : q_ = (124, [(0, .inr (.inr (6, 67))), (3, .inr (.inl e407.1)), (5, .inl e407.2.1)], [], 119, pm_RF, e407.2.2) := hq_
  refine R_st ho 2 (q' := (126, [(0, .inr (.inr (6, 67))), (3, .inr (.inl e407.1)), (5, .inl e407.2.1)], [.inr (.inl e407.1), .inr (.inr (6, 67))], 119, pm_RF, e407.2.2)) rfl ?_
  refine R_callV ho mv_Placing_shift lk_6_107 rfl (As := [.inr (.inl e407.1)]) (kd := 6) (a := 67) (st := []) rfl rfl (Nat.le_of_ble_eq_true rfl) rfl (by decide) (Nat.le_of_ble_eq_true rfl) (ok_Placing_shift G e407.1 e407.2.2 ) (fun M412 => ?_)
  show pm_R _ _ _ (129, [(0, .inr (.inr (6, 67))), (3, .inr (.inl e407.1)), (5, .inl e407.2.1)], [], 119, pm_RF, M412) _ _
  refine R_st ho 1 (q' := (131, [(0, .inr (.inr (6, 67))), (3, .inr (.inl e407.1)), (5, .inl e407.2.1)], [.inl e407.2.1], 119, pm_RF, M412)) rfl ?_
  exact R_end (v := some (.inl e407.2.1)) rfl (Or.inl rfl) rfl rfl
theorem ok_Placing_match_L2 (G : pm_G)    : ∀ (n_ : Nat) (y1 : Int) (y2 : Int) (M : pm_M), pm_R G mt_Placing_match 3 (2, [(0, .inr (.inr (6, 67))), (1, .inl y1), (2, .inl y2)], [], 119, pm_RF, M) (f_Placing_match_L2 n_ y1 y2 M) (fun e_ q_ => q_ = (32, [(0, .inr (.inr (6, 67))), (1, .inl e_.1)], [], 119, pm_RF, e_.2)) := by
  have ho : pm_oG G mt_Placing_match := (oa_Placing_match).g G
  intro n_
  induction n_ with
  | zero => intro _ _ _; exact R_none
  | succ n_ ih_ =>
    intro y1 y2 M
    rw [f_Placing_match_L2]
    refine R_st ho 3 (q' := (7, [(0, .inr (.inr (6, 67))), (1, .inl y1), (2, .inl y2)], [.inl (M 67 11), .inl y2], 119, pm_RF, M)) rfl ?_
    refine R_ic ho rfl (tgt := 32) rfl ?_
    refine R_gt ?_ ?_
    · refine R_pk [0, 1] rfl ?_
      exact R_ret rfl
    · refine R_st ho 4 (q' := (18, [(0, .inr (.inr (6, 67))), (1, .inl y1), (2, .inl y2)], [.inr (.inl 1152921504606846976), .inl y2, .inr (.inr (21, 72))], 119, pm_RF, M)) rfl ?_
      refine R_last ho rfl rfl ?_
      refine R_nm fun M399 => ?_
      refine R_st ho 4 (q' := (25, [(0, .inr (.inr (6, 67))), (1, .inl y1), (2, .inl y2)], [.inl 0, .inl y2, .inr (.inr (23, 75))], 119, pm_RF, M399)) rfl ?_
      refine R_zast ho (by decide) rfl rfl ?_
      refine R_nm fun M400 => ?_
      refine R_st ho 2 (q' := (2, [(2, .inl (i_ad y2 1)), (0, .inr (.inr (6, 67))), (1, .inl y1)], [], 119, pm_RF, M400)) rfl ?_
      refine R_pk [0, 1, 2] rfl ?_
      exact ih_ y1 (i_ad y2 1) M400
theorem ok_Placing_match_L43 (G : pm_G)    : ∀ (n_ : Nat) (y2 : Int) (y3 : Int) (M : pm_M), pm_R G mt_Placing_match 3 (43, [(0, .inr (.inr (6, 67))), (2, .inl y2), (3, .inl y3)], [], 119, pm_RF, M) (f_Placing_match_L43 n_ y2 y3 M) (fun e_ q_ => q_ = (79, [(0, .inr (.inr (6, 67))), (2, .inl e_.1)], [], 119, pm_RF, e_.2)) := by
  have ho : pm_oG G mt_Placing_match := (oa_Placing_match).g G
  intro n_
  induction n_ with
  | zero => intro _ _ _; exact R_none
  | succ n_ ih_ =>
    intro y2 y3 M
    rw [f_Placing_match_L43]
    refine R_st ho 3 (q' := (48, [(0, .inr (.inr (6, 67))), (2, .inl y2), (3, .inl y3)], [.inl (M 67 11), .inl y3], 119, pm_RF, M)) rfl ?_
    refine R_ic ho rfl (tgt := 79) rfl ?_
    refine R_gt ?_ ?_
    · refine R_pk [0, 2] rfl ?_
      exact R_ret rfl
    · refine R_st ho 3 (q' := (56, [(0, .inr (.inr (6, 67))), (2, .inl y2), (3, .inl y3)], [.inl y2, .inr (.inr (20, 73))], 119, pm_RF, M)) rfl ?_
      refine R_iald ho rfl rfl ?_
      refine R_if ho rfl (tgt := 79) rfl ?_
      refine R_eq ?_ ?_
      · refine R_pk [0, 2] rfl ?_
        exact R_ret rfl
      · refine R_st ho 4 (q' := (66, [(0, .inr (.inr (6, 67))), (2, .inl y2), (3, .inl y3)], [.inl 1, .inl y2, .inr (.inr (23, 75))], 119, pm_RF, M)) rfl ?_
        refine R_zast ho (by decide) rfl rfl ?_
        refine R_nm fun M403 => ?_
        refine R_st ho 2 (q' := (69, [(0, .inr (.inr (6, 67))), (2, .inl y2), (3, .inl y3)], [.inl y2, .inr (.inr (6, 67))], 119, pm_RF, M403)) rfl ?_
        refine R_callV ho mv_Placing_nearestFrom lk_6_103 rfl (As := [.inl y2]) (kd := 6) (a := 67) (st := []) rfl rfl (Nat.le_of_ble_eq_true rfl) rfl (by decide) (Nat.le_of_ble_eq_true rfl) (ok_Placing_nearestFrom G y2 M403 ) (fun r413 => ?_)
        show pm_R _ _ _ (72, [(0, .inr (.inr (6, 67))), (2, .inl y2), (3, .inl y3)], [.inl r413.1], 119, pm_RF, r413.2) _ _
        refine R_st ho 3 (q' := (43, [(3, .inl (i_ad y3 1)), (2, .inl r413.1), (0, .inr (.inr (6, 67)))], [], 119, pm_RF, r413.2)) rfl ?_
        refine R_pk [0, 2, 3] rfl ?_
        exact ih_ r413.1 (i_ad y3 1) r413.2
theorem ok_Placing_match_L81 (G : pm_G)    : ∀ (n_ : Nat) (y2 : Int) (y3 : Int) (M : pm_M), pm_R G mt_Placing_match 3 (81, [(0, .inr (.inr (6, 67))), (2, .inl y2), (3, .inl y3)], [], 119, pm_RF, M) (f_Placing_match_L81 n_ y2 y3 M) (fun e_ q_ => q_ = (123, [], [], 119, pm_RF, e_)) := by
  have ho : pm_oG G mt_Placing_match := (oa_Placing_match).g G
  intro n_
  induction n_ with
  | zero => intro _ _ _; exact R_none
  | succ n_ ih_ =>
    intro y2 y3 M
    rw [f_Placing_match_L81]
    refine R_st ho 3 (q' := (86, [(0, .inr (.inr (6, 67))), (2, .inl y2), (3, .inl y3)], [.inl (M 67 11), .inl y3], 119, pm_RF, M)) rfl ?_
    refine R_ic ho rfl (tgt := 123) rfl ?_
    refine R_gt ?_ ?_
    · refine R_pk [] rfl ?_
      exact R_ret rfl
    · refine R_st ho 1 (q' := (90, [(0, .inr (.inr (6, 67))), (2, .inl y2), (3, .inl y3)], [.inl y2], 119, pm_RF, M)) rfl ?_
      refine R_if ho rfl (tgt := 123) rfl ?_
      refine R_eq ?_ ?_
      · refine R_pk [] rfl ?_
        exact R_ret rfl
      · refine R_st ho 3 (q' := (98, [(0, .inr (.inr (6, 67))), (2, .inl y2), (3, .inl y3)], [.inl y2, .inr (.inr (20, 74))], 119, pm_RF, M)) rfl ?_
        refine R_iald ho rfl rfl ?_
        refine R_st ho 7 (q' := (112, [(4, .inl (M 74 (y2).toNat)), (0, .inr (.inr (6, 67))), (2, .inl y2), (3, .inl y3)], [.inl (M 74 (y2).toNat), .inr (.inr (20, 73)), .inl y2, .inr (.inr (20, 73))], 119, pm_RF, M)) rfl ?_
        refine R_iald ho rfl rfl ?_
        refine R_iast ho rfl rfl ?_
        refine R_nm fun M415 => ?_
        refine R_st ho 4 (q' := (81, [(3, .inl (i_ad y3 1)), (2, .inl (M 74 (y2).toNat)), (4, .inl (M 74 (y2).toNat)), (0, .inr (.inr (6, 67)))], [], 119, pm_RF, M415)) rfl ?_
        refine R_pk [0, 2, 3] rfl ?_
        exact ih_ (M 74 (y2).toNat) (i_ad y3 1) M415
theorem ok_Placing_match (G : pm_G) (x1 : Int) (M : pm_M)  : pm_R G mt_Placing_match 3 (0, [(0, .inr (.inr (6, 67))), (1, .inl x1)], [], 119, pm_RF, M) (f_Placing_match x1 M) (pm_Zr mt_Placing_match pm_gV) := by
  have ho : pm_oG G mt_Placing_match := (oa_Placing_match).g G
  unfold f_Placing_match
  refine R_st ho 2 (q' := (2, [(2, .inl 0), (0, .inr (.inr (6, 67))), (1, .inl x1)], [], 119, pm_RF, M)) rfl ?_
  refine R_pk [0, 1, 2] rfl ?_
  refine R_bind (ok_Placing_match_L2 G pm_F x1 0 M) ?_
  intro e401 q_ hq_
  obtain rfl : q_ = (32, [(0, .inr (.inr (6, 67))), (1, .inl e401.1)], [], 119, pm_RF, e401.2) := hq_
  refine R_st ho 5 (q' := (39, [(0, .inr (.inr (6, 67))), (1, .inl e401.1)], [], 119, pm_RF, (pm_ms e401.2 73 0 e401.1))) rfl ?_
  refine R_nm fun M402 => ?_
  refine R_st ho 4 (q' := (43, [(3, .inl 0), (2, .inl 0), (0, .inr (.inr (6, 67))), (1, .inl e401.1)], [], 119, pm_RF, M402)) rfl ?_
  refine R_pk [0, 2, 3] rfl ?_
  refine R_bind (ok_Placing_match_L43 G pm_F 0 0 M402) ?_
  intro e414 q_ hq_
  obtain rfl : q_ = (79, [(0, .inr (.inr (6, 67))), (2, .inl e414.1)], [], 119, pm_RF, e414.2) := hq_
  refine R_st ho 2 (q' := (81, [(3, .inl 0), (0, .inr (.inr (6, 67))), (2, .inl e414.1)], [], 119, pm_RF, e414.2)) rfl ?_
  refine R_pk [0, 2, 3] rfl ?_
  refine R_bind (ok_Placing_match_L81 G pm_F e414.1 0 e414.2) ?_
  intro e416 q_ hq_
  obtain rfl : q_ = (123, [], [], 119, pm_RF, e416) := hq_
  exact R_end (v := none) rfl rfl rfl rfl
theorem ok_Placing_solve_L49 (G : pm_G)    : ∀ (n_ : Nat) (y1 : Int) (M : pm_M), pm_R G mt_Placing_solve 6 (49, [(0, .inr (.inr (6, 67))), (1, .inl y1)], [], 119, pm_RF, M) (f_Placing_solve_L49 n_ y1 M) (fun e_ q_ => q_ = (71, [(0, .inr (.inr (6, 67)))], [], 119, pm_RF, e_)) := by
  have ho : pm_oG G mt_Placing_solve := (oa_Placing_solve).g G
  intro n_
  induction n_ with
  | zero => intro _ _; exact R_none
  | succ n_ ih_ =>
    intro y1 M
    rw [f_Placing_solve_L49]
    refine R_st ho 3 (q' := (54, [(0, .inr (.inr (6, 67))), (1, .inl y1)], [.inr (.inr (11, 24)), .inl y1], 119, pm_RF, M)) rfl ?_
    refine R_callV ho mv_Told_plinths lk_6_59 rfl (As := []) (kd := 11) (a := 24) (st := [.inl y1]) rfl rfl (Nat.le_of_ble_eq_true rfl) rfl (by decide) (Nat.le_of_ble_eq_true rfl) (ok_Told_plinths G  M ) (fun r398 => ?_)
    show pm_R _ _ _ (57, [(0, .inr (.inr (6, 67))), (1, .inl y1)], [.inl r398, .inl y1], 119, pm_RF, M) _ _
    refine R_ic ho rfl (tgt := 71) rfl ?_
    refine R_gt ?_ ?_
    · refine R_pk [0] rfl ?_
      exact R_ret rfl
    · refine R_st ho 2 (q' := (62, [(0, .inr (.inr (6, 67))), (1, .inl y1)], [.inl y1, .inr (.inr (6, 67))], 119, pm_RF, M)) rfl ?_
      refine R_callV ho mv_Placing_match lk_6_77 rfl (As := [.inl y1]) (kd := 6) (a := 67) (st := []) rfl rfl (Nat.le_of_ble_eq_true rfl) rfl (by decide) (Nat.le_of_ble_eq_true rfl) (ok_Placing_match G y1 M ) (fun M417 => ?_)
      show pm_R _ _ _ (65, [(0, .inr (.inr (6, 67))), (1, .inl y1)], [], 119, pm_RF, M417) _ _
      refine R_st ho 2 (q' := (49, [(1, .inl (i_ad y1 1)), (0, .inr (.inr (6, 67)))], [], 119, pm_RF, M417)) rfl ?_
      refine R_pk [0, 1] rfl ?_
      exact ih_ (i_ad y1 1) M417
theorem ok_Placing_solve_L78 (G : pm_G)    : ∀ (n_ : Nat) (y1 : Int) (M : pm_M), pm_R G mt_Placing_solve 6 (78, [(0, .inr (.inr (6, 67))), (1, .inl y1)], [], 119, pm_RF, M) (f_Placing_solve_L78 n_ y1 M) (fun e_ q_ => q_ = (148, [], [], 119, pm_RF, e_)) := by
  have ho : pm_oG G mt_Placing_solve := (oa_Placing_solve).g G
  intro n_
  induction n_ with
  | zero => intro _ _; exact R_none
  | succ n_ ih_ =>
    intro y1 M
    rw [f_Placing_solve_L78]
    refine R_st ho 3 (q' := (83, [(0, .inr (.inr (6, 67))), (1, .inl y1)], [.inl (M 67 11), .inl y1], 119, pm_RF, M)) rfl ?_
    refine R_ic ho rfl (tgt := 148) rfl ?_
    refine R_gt ?_ ?_
    · refine R_pk [] rfl ?_
      exact R_ret rfl
    · refine R_st ho 3 (q' := (91, [(0, .inr (.inr (6, 67))), (1, .inl y1)], [.inl y1, .inr (.inr (20, 73))], 119, pm_RF, M)) rfl ?_
      refine R_iald ho rfl rfl ?_
      refine R_st ho 2 (q' := (94, [(2, .inl (M 73 (y1).toNat)), (0, .inr (.inr (6, 67))), (1, .inl y1)], [.inl (M 73 (y1).toNat)], 119, pm_RF, M)) rfl ?_
      refine R_if ho rfl (tgt := 142) rfl ?_
      refine R_le ?_ ?_
      · refine R_st ho 2 (q' := (78, [(1, .inl (i_ad y1 1)), (2, .inl (M 73 (y1).toNat)), (0, .inr (.inr (6, 67)))], [], 119, pm_RF, M)) rfl ?_
        refine R_pk [0, 1] rfl ?_
        exact ih_ (i_ad y1 1) M
      · refine R_st ho 8 (q' := (109, [(2, .inl (M 73 (y1).toNat)), (0, .inr (.inr (6, 67))), (1, .inl y1)], [.inr (.inr (11, 24)), .inl y1, .inl (i_sb (M 73 (y1).toNat) 1), .inr (.inr (20, 76))], 119, pm_RF, M)) rfl ?_
        refine R_callV ho mv_Told_heads lk_6_53 rfl (As := []) (kd := 11) (a := 24) (st := [.inl y1, .inl (i_sb (M 73 (y1).toNat) 1), .inr (.inr (20, 76))]) rfl rfl (Nat.le_of_ble_eq_true rfl) rfl (by decide) (Nat.le_of_ble_eq_true rfl) (ok_Told_heads G  M ) (fun r420 => ?_)
        show pm_R _ _ _ (112, [(2, .inl (M 73 (y1).toNat)), (0, .inr (.inr (6, 67))), (1, .inl y1)], [.inl r420, .inl y1, .inl (i_sb (M 73 (y1).toNat) 1), .inr (.inr (20, 76))], 119, pm_RF, M) _ _
        refine R_ic ho rfl (tgt := 121) rfl ?_
        refine R_gt ?_ ?_
        · refine R_st ho 1 (q' := (122, [(2, .inl (M 73 (y1).toNat)), (0, .inr (.inr (6, 67))), (1, .inl y1)], [.inl (-1), .inl (i_sb (M 73 (y1).toNat) 1), .inr (.inr (20, 76))], 119, pm_RF, M)) rfl ?_
          refine R_iast ho rfl rfl ?_
          refine R_nm fun M421 => ?_
          refine R_st ho 7 (q' := (134, [(2, .inl (M 73 (y1).toNat)), (0, .inr (.inr (6, 67))), (1, .inl y1)], [.inl y1, .inl (M 73 (y1).toNat), .inr (.inr (20, 68)), .inl (M421 67 12), .inr (.inr (6, 67))], 119, pm_RF, M421)) rfl ?_
          refine R_callS ho ms_Placing_place lk_6_81 rfl (As := [.inl (M 73 (y1).toNat), .inl y1]) (st := [.inr (.inr (20, 68)), .inl (M421 67 12), .inr (.inr (6, 67))]) rfl (Nat.le_of_ble_eq_true rfl) rfl (by decide) (Nat.le_of_ble_eq_true rfl) (ok_Placing_place G (M 73 (y1).toNat) y1 M421 ) (fun r422 => ?_)
          show pm_R _ _ _ (137, [(2, .inl (M 73 (y1).toNat)), (0, .inr (.inr (6, 67))), (1, .inl y1)], [.inl r422, .inr (.inr (20, 68)), .inl (M421 67 12), .inr (.inr (6, 67))], 119, pm_RF, M421) _ _
          refine R_iald ho rfl rfl ?_
          refine R_st ho 2 (q' := (142, [(2, .inl (M 73 (y1).toNat)), (0, .inr (.inr (6, 67))), (1, .inl y1)], [], 119, pm_RF, (pm_ms M421 67 12 (i_ad (M421 67 12) (M421 68 (r422).toNat))))) rfl ?_
          refine R_nm fun M423 => ?_
          refine R_st ho 2 (q' := (78, [(1, .inl (i_ad y1 1)), (2, .inl (M 73 (y1).toNat)), (0, .inr (.inr (6, 67)))], [], 119, pm_RF, M423)) rfl ?_
          refine R_pk [0, 1] rfl ?_
          exact ih_ (i_ad y1 1) M423
        · refine R_st ho 4 (q' := (122, [(2, .inl (M 73 (y1).toNat)), (0, .inr (.inr (6, 67))), (1, .inl y1)], [.inl (i_sb y1 1), .inl (i_sb (M 73 (y1).toNat) 1), .inr (.inr (20, 76))], 119, pm_RF, M)) rfl ?_
          refine R_iast ho rfl rfl ?_
          refine R_nm fun M424 => ?_
          refine R_st ho 7 (q' := (134, [(2, .inl (M 73 (y1).toNat)), (0, .inr (.inr (6, 67))), (1, .inl y1)], [.inl y1, .inl (M 73 (y1).toNat), .inr (.inr (20, 68)), .inl (M424 67 12), .inr (.inr (6, 67))], 119, pm_RF, M424)) rfl ?_
          refine R_callS ho ms_Placing_place lk_6_81 rfl (As := [.inl (M 73 (y1).toNat), .inl y1]) (st := [.inr (.inr (20, 68)), .inl (M424 67 12), .inr (.inr (6, 67))]) rfl (Nat.le_of_ble_eq_true rfl) rfl (by decide) (Nat.le_of_ble_eq_true rfl) (ok_Placing_place G (M 73 (y1).toNat) y1 M424 ) (fun r425 => ?_)
          show pm_R _ _ _ (137, [(2, .inl (M 73 (y1).toNat)), (0, .inr (.inr (6, 67))), (1, .inl y1)], [.inl r425, .inr (.inr (20, 68)), .inl (M424 67 12), .inr (.inr (6, 67))], 119, pm_RF, M424) _ _
          refine R_iald ho rfl rfl ?_
          refine R_st ho 2 (q' := (142, [(2, .inl (M 73 (y1).toNat)), (0, .inr (.inr (6, 67))), (1, .inl y1)], [], 119, pm_RF, (pm_ms M424 67 12 (i_ad (M424 67 12) (M424 68 (r425).toNat))))) rfl ?_
          refine R_nm fun M426 => ?_
          refine R_st ho 2 (q' := (78, [(1, .inl (i_ad y1 1)), (2, .inl (M 73 (y1).toNat)), (0, .inr (.inr (6, 67)))], [], 119, pm_RF, M426)) rfl ?_
          refine R_pk [0, 1] rfl ?_
          exact ih_ (i_ad y1 1) M426
theorem ok_Placing_solve (G : pm_G)  (M : pm_M)  : pm_R G mt_Placing_solve 6 (0, [(0, .inr (.inr (6, 67)))], [], 119, pm_RF, M) (f_Placing_solve M) (pm_Zr mt_Placing_solve pm_gV) := by
  have ho : pm_oG G mt_Placing_solve := (oa_Placing_solve).g G
  unfold f_Placing_solve
  refine R_st ho 3 (q' := (5, [(0, .inr (.inr (6, 67)))], [.inr (.inr (11, 24)), .inr (.inr (6, 67))], 119, pm_RF, M)) rfl ?_
  refine R_callV ho mv_Told_heads lk_6_53 rfl (As := []) (kd := 11) (a := 24) (st := [.inr (.inr (6, 67))]) rfl rfl (Nat.le_of_ble_eq_true rfl) rfl (by decide) (Nat.le_of_ble_eq_true rfl) (ok_Told_heads G  M ) (fun r370 => ?_)
  show pm_R _ _ _ (8, [(0, .inr (.inr (6, 67)))], [.inl r370, .inr (.inr (6, 67))], 119, pm_RF, M) _ _
  refine R_st ho 2 (q' := (12, [(0, .inr (.inr (6, 67)))], [.inr (.inr (11, 24)), .inl r370, .inr (.inr (6, 67))], 119, pm_RF, M)) rfl ?_
  refine R_callV ho mv_Told_plinths lk_6_59 rfl (As := []) (kd := 11) (a := 24) (st := [.inl r370, .inr (.inr (6, 67))]) rfl rfl (Nat.le_of_ble_eq_true rfl) rfl (by decide) (Nat.le_of_ble_eq_true rfl) (ok_Told_plinths G  M ) (fun r371 => ?_)
  show pm_R _ _ _ (15, [(0, .inr (.inr (6, 67)))], [.inl r371, .inl r370, .inr (.inr (6, 67))], 119, pm_RF, M) _ _
  refine R_st ho 2 (q' := (19, [(0, .inr (.inr (6, 67)))], [], 119, pm_RF, (pm_ms M 67 11 (i_ad r370 r371)))) rfl ?_
  refine R_nm fun M372 => ?_
  refine R_st ho 1 (q' := (20, [(0, .inr (.inr (6, 67)))], [.inr (.inr (6, 67))], 119, pm_RF, M372)) rfl ?_
  refine R_callV ho mv_Placing_weigh lk_6_65 rfl (As := []) (kd := 6) (a := 67) (st := []) rfl rfl (Nat.le_of_ble_eq_true rfl) rfl (by decide) (Nat.le_of_ble_eq_true rfl) (ok_Placing_weigh G  M372 ) (fun M388 => ?_)
  show pm_R _ _ _ (23, [(0, .inr (.inr (6, 67)))], [], 119, pm_RF, M388) _ _
  refine R_st ho 3 (q' := (28, [(0, .inr (.inr (6, 67)))], [.inr (.inl 0), .inr (.inr (21, 70))], 119, pm_RF, M388)) rfl ?_
  refine R_callS ho ms_Arrays_fill2 lk_6_68 rfl (As := [.inr (.inr (21, 70)), .inr (.inl 0)]) (st := []) rfl (Nat.le_of_ble_eq_true rfl) rfl (by decide) (Nat.le_of_ble_eq_true rfl) (ok_Arrays_fill2_70 G 0 M388 ) (fun M391 => ?_)
  show pm_R _ _ _ (31, [(0, .inr (.inr (6, 67)))], [], 119, pm_RF, M391) _ _
  refine R_st ho 3 (q' := (36, [(0, .inr (.inr (6, 67)))], [.inr (.inl 0), .inr (.inr (21, 71))], 119, pm_RF, M391)) rfl ?_
  refine R_callS ho ms_Arrays_fill2 lk_6_68 rfl (As := [.inr (.inr (21, 71)), .inr (.inl 0)]) (st := []) rfl (Nat.le_of_ble_eq_true rfl) rfl (by decide) (Nat.le_of_ble_eq_true rfl) (ok_Arrays_fill2_71 G 0 M391 ) (fun M394 => ?_)
  show pm_R _ _ _ (39, [(0, .inr (.inr (6, 67)))], [], 119, pm_RF, M394) _ _
  refine R_st ho 3 (q' := (44, [(0, .inr (.inr (6, 67)))], [.inl 0, .inr (.inr (20, 73))], 119, pm_RF, M394)) rfl ?_
  refine R_callS ho ms_Arrays_fill lk_6_74 rfl (As := [.inr (.inr (20, 73)), .inl 0]) (st := []) rfl (Nat.le_of_ble_eq_true rfl) rfl (by decide) (Nat.le_of_ble_eq_true rfl) (ok_Arrays_fill_73 G 0 M394 ) (fun M397 => ?_)
  show pm_R _ _ _ (47, [(0, .inr (.inr (6, 67)))], [], 119, pm_RF, M397) _ _
  refine R_st ho 2 (q' := (49, [(1, .inl 1), (0, .inr (.inr (6, 67)))], [], 119, pm_RF, M397)) rfl ?_
  refine R_pk [0, 1] rfl ?_
  refine R_bind (ok_Placing_solve_L49 G pm_F 1 M397) ?_
  intro e418 q_ hq_
  obtain rfl : q_ = (71, [(0, .inr (.inr (6, 67)))], [], 119, pm_RF, e418) := hq_
  refine R_st ho 3 (q' := (76, [(0, .inr (.inr (6, 67)))], [], 119, pm_RF, (pm_ms e418 67 12 0))) rfl ?_
  refine R_nm fun M419 => ?_
  refine R_st ho 2 (q' := (78, [(1, .inl 1), (0, .inr (.inr (6, 67)))], [], 119, pm_RF, M419)) rfl ?_
  refine R_pk [0, 1] rfl ?_
  refine R_bind (ok_Placing_solve_L78 G pm_F 1 M419) ?_
  intro e427 q_ hq_
  obtain rfl : q_ = (148, [], [], 119, pm_RF, e427) := hq_
  exact R_end (v := none) rfl rfl rfl rfl
theorem ok_Placing_shillings (G : pm_G)  (M : pm_M)  : pm_R G mt_Placing_shillings 1 (0, [(0, .inr (.inr (6, 67)))], [], 119, pm_RF, M) (f_Placing_shillings M) (pm_Zr mt_Placing_shillings (pm_gi M)) := by
  have ho : pm_oG G mt_Placing_shillings := (oa_Placing_shillings).g G
  unfold f_Placing_shillings
  refine R_st ho 2 (q' := (4, [(0, .inr (.inr (6, 67)))], [.inl (M 67 12)], 119, pm_RF, M)) rfl ?_
  exact R_end (v := some (.inl (M 67 12))) rfl (Or.inl rfl) rfl rfl
theorem ok_Placing_headFor (G : pm_G) (x1 : Int) (M : pm_M)  : pm_R G mt_Placing_headFor 1 (0, [(0, .inr (.inr (6, 67))), (1, .inl x1)], [], 119, pm_RF, M) (f_Placing_headFor x1 M) (pm_Zr mt_Placing_headFor (pm_gi M)) := by
  have ho : pm_oG G mt_Placing_headFor := (oa_Placing_headFor).g G
  unfold f_Placing_headFor
  refine R_st ho 3 (q' := (5, [(0, .inr (.inr (6, 67))), (1, .inl x1)], [.inl x1, .inr (.inr (20, 76))], 119, pm_RF, M)) rfl ?_
  refine R_iald ho rfl rfl ?_
  exact R_end (v := some (.inl (M 76 (x1).toNat))) rfl (Or.inl rfl) rfl rfl
theorem ok_X_best (G : pm_G) (x1 : Int) (M : pm_M)  : pm_R G mt_X_best 7 (0, [(0, .inr (.inr (0, 0))), (1, .inl x1)], [], 119, pm_RF, M) (f_X_best x1 M) (pm_Zr mt_X_best pm_gI) := by
  have ho : pm_oG G mt_X_best := (oa_X_best).g G
  unfold f_X_best
  refine R_st ho 2 (q' := (2, [(0, .inr (.inr (0, 0))), (1, .inl x1)], [.inl (-1), .inl x1], 119, pm_RF, M)) rfl ?_
  refine R_ic ho rfl (tgt := 19) rfl ?_
  refine R_eq ?_ ?_
  · refine R_st ho 2 (q' := (23, [(0, .inr (.inr (0, 0))), (1, .inl x1)], [.inr (.inr (6, 67))], 119, pm_RF, M)) rfl ?_
    refine R_callV ho mv_Placing_solve lk_0_253 rfl (As := []) (kd := 6) (a := 67) (st := []) rfl rfl (Nat.le_of_ble_eq_true rfl) rfl (by decide) (Nat.le_of_ble_eq_true rfl) (ok_Placing_solve G  M ) (fun M428 => ?_)
    show pm_R _ _ _ (26, [(0, .inr (.inr (0, 0))), (1, .inl x1)], [], 119, pm_RF, M428) _ _
    refine R_st ho 2 (q' := (28, [(0, .inr (.inr (0, 0))), (1, .inl x1)], [.inl (-1), .inl x1], 119, pm_RF, M428)) rfl ?_
    refine R_ic ho rfl (tgt := 41) rfl ?_
    refine R_ne ?_ ?_
    · refine R_st ho 2 (q' := (35, [(0, .inr (.inr (0, 0))), (1, .inl x1)], [.inr (.inr (6, 67))], 119, pm_RF, M428)) rfl ?_
      refine R_callV ho mv_Placing_shillings lk_0_256 rfl (As := []) (kd := 6) (a := 67) (st := []) rfl rfl (Nat.le_of_ble_eq_true rfl) rfl (by decide) (Nat.le_of_ble_eq_true rfl) (ok_Placing_shillings G  M428 ) (fun r429 => ?_)
      show pm_R _ _ _ (38, [(0, .inr (.inr (0, 0))), (1, .inl x1)], [.inl r429], 119, pm_RF, M428) _ _
      refine R_st ho 1 (q' := (49, [(0, .inr (.inr (0, 0))), (1, .inl x1)], [.inl r429], 119, pm_RF, M428)) rfl ?_
      exact R_end (v := some (.inl r429)) rfl (Or.inl rfl) rfl rfl
    · refine R_st ho 3 (q' := (46, [(0, .inr (.inr (0, 0))), (1, .inl x1)], [.inl x1, .inr (.inr (6, 67))], 119, pm_RF, M428)) rfl ?_
      refine R_callV ho mv_Placing_headFor lk_0_259 rfl (As := [.inl x1]) (kd := 6) (a := 67) (st := []) rfl rfl (Nat.le_of_ble_eq_true rfl) rfl (by decide) (Nat.le_of_ble_eq_true rfl) (ok_Placing_headFor G x1 M428 ) (fun r430 => ?_)
      show pm_R _ _ _ (49, [(0, .inr (.inr (0, 0))), (1, .inl x1)], [.inl r430], 119, pm_RF, M428) _ _
      exact R_end (v := some (.inl r430)) rfl (Or.inl rfl) rfl rfl
  · refine R_st ho 3 (q' := (10, [(0, .inr (.inr (0, 0))), (1, .inl x1)], [.inl x1, .inr (.inr (11, 24))], 119, pm_RF, M)) rfl ?_
    refine R_callV ho mv_Told_isPlinth lk_0_139 rfl (As := [.inl x1]) (kd := 11) (a := 24) (st := []) rfl rfl (Nat.le_of_ble_eq_true rfl) rfl (by decide) (Nat.le_of_ble_eq_true rfl) (ok_Told_isPlinth G x1 M ) (fun r431 => ?_)
    show pm_R _ _ _ (13, [(0, .inr (.inr (0, 0))), (1, .inl x1)], [.inl r431], 119, pm_RF, M) _ _
    refine R_if ho rfl (tgt := 19) rfl ?_
    refine R_ne ?_ ?_
    · refine R_st ho 1 (q' := (18, [(0, .inr (.inr (0, 0))), (1, .inl x1)], [.inl (-100000)], 119, pm_RF, M)) rfl ?_
      exact R_end (v := some (.inl (-100000))) rfl (Or.inl rfl) rfl rfl
    · refine R_st ho 2 (q' := (23, [(0, .inr (.inr (0, 0))), (1, .inl x1)], [.inr (.inr (6, 67))], 119, pm_RF, M)) rfl ?_
      refine R_callV ho mv_Placing_solve lk_0_253 rfl (As := []) (kd := 6) (a := 67) (st := []) rfl rfl (Nat.le_of_ble_eq_true rfl) rfl (by decide) (Nat.le_of_ble_eq_true rfl) (ok_Placing_solve G  M ) (fun M432 => ?_)
      show pm_R _ _ _ (26, [(0, .inr (.inr (0, 0))), (1, .inl x1)], [], 119, pm_RF, M432) _ _
      refine R_st ho 2 (q' := (28, [(0, .inr (.inr (0, 0))), (1, .inl x1)], [.inl (-1), .inl x1], 119, pm_RF, M432)) rfl ?_
      refine R_ic ho rfl (tgt := 41) rfl ?_
      refine R_ne ?_ ?_
      · refine R_st ho 2 (q' := (35, [(0, .inr (.inr (0, 0))), (1, .inl x1)], [.inr (.inr (6, 67))], 119, pm_RF, M432)) rfl ?_
        refine R_callV ho mv_Placing_shillings lk_0_256 rfl (As := []) (kd := 6) (a := 67) (st := []) rfl rfl (Nat.le_of_ble_eq_true rfl) rfl (by decide) (Nat.le_of_ble_eq_true rfl) (ok_Placing_shillings G  M432 ) (fun r433 => ?_)
        show pm_R _ _ _ (38, [(0, .inr (.inr (0, 0))), (1, .inl x1)], [.inl r433], 119, pm_RF, M432) _ _
        refine R_st ho 1 (q' := (49, [(0, .inr (.inr (0, 0))), (1, .inl x1)], [.inl r433], 119, pm_RF, M432)) rfl ?_
        exact R_end (v := some (.inl r433)) rfl (Or.inl rfl) rfl rfl
      · refine R_st ho 3 (q' := (46, [(0, .inr (.inr (0, 0))), (1, .inl x1)], [.inl x1, .inr (.inr (6, 67))], 119, pm_RF, M432)) rfl ?_
        refine R_callV ho mv_Placing_headFor lk_0_259 rfl (As := [.inl x1]) (kd := 6) (a := 67) (st := []) rfl rfl (Nat.le_of_ble_eq_true rfl) rfl (by decide) (Nat.le_of_ble_eq_true rfl) (ok_Placing_headFor G x1 M432 ) (fun r434 => ?_)
        show pm_R _ _ _ (49, [(0, .inr (.inr (0, 0))), (1, .inl x1)], [.inl r434], 119, pm_RF, M432) _ _
        exact R_end (v := some (.inl r434)) rfl (Or.inl rfl) rfl rfl
theorem ok_Told_addSeen (G : pm_G) (x1 : Int) (x2 : Int) (x3 : Int) (M : pm_M)  : pm_R G mt_Told_addSeen 2 (0, [(0, .inr (.inr (11, 24))), (1, .inl x1), (2, .inl x2), (3, .inl x3)], [], 119, pm_RF, M) (f_Told_addSeen x1 x2 x3 M) (pm_Zr mt_Told_addSeen pm_gI) := by
  have ho : pm_oG G mt_Told_addSeen := (oa_Told_addSeen).g G
  unfold f_Told_addSeen
  refine R_st ho 3 (q' := (6, [(0, .inr (.inr (11, 24))), (1, .inl x1), (2, .inl x2), (3, .inl x3)], [.inl 12, .inl (M 24 12)], 119, pm_RF, M)) rfl ?_
  refine R_ic ho rfl (tgt := 38) rfl ?_
  refine R_ge ?_ ?_
  · refine R_st ho 1 (q' := (39, [(0, .inr (.inr (11, 24))), (1, .inl x1), (2, .inl x2), (3, .inl x3)], [.inl (-1)], 119, pm_RF, M)) rfl ?_
    exact R_end (v := some (.inl (-1))) rfl (Or.inl rfl) rfl rfl
  · refine R_st ho 2 (q' := (11, [(0, .inr (.inr (11, 24))), (1, .inl x1), (2, .inl x2), (3, .inl x3)], [.inl 1, .inl x1], 119, pm_RF, M)) rfl ?_
    refine R_ic ho rfl (tgt := 38) rfl ?_
    refine R_lt ?_ ?_
    · refine R_st ho 1 (q' := (39, [(0, .inr (.inr (11, 24))), (1, .inl x1), (2, .inl x2), (3, .inl x3)], [.inl (-1)], 119, pm_RF, M)) rfl ?_
      exact R_end (v := some (.inl (-1))) rfl (Or.inl rfl) rfl rfl
    · refine R_st ho 2 (q' := (17, [(0, .inr (.inr (11, 24))), (1, .inl x1), (2, .inl x2), (3, .inl x3)], [.inl 8, .inl x1], 119, pm_RF, M)) rfl ?_
      refine R_ic ho rfl (tgt := 38) rfl ?_
      refine R_gt ?_ ?_
      · refine R_st ho 1 (q' := (39, [(0, .inr (.inr (11, 24))), (1, .inl x1), (2, .inl x2), (3, .inl x3)], [.inl (-1)], 119, pm_RF, M)) rfl ?_
        exact R_end (v := some (.inl (-1))) rfl (Or.inl rfl) rfl rfl
      · refine R_st ho 2 (q' := (22, [(0, .inr (.inr (11, 24))), (1, .inl x1), (2, .inl x2), (3, .inl x3)], [.inl x2, .inr (.inr (11, 24))], 119, pm_RF, M)) rfl ?_
        refine R_callV ho mv_Told_isPlinth lk_11_63 rfl (As := [.inl x2]) (kd := 11) (a := 24) (st := []) rfl rfl (Nat.le_of_ble_eq_true rfl) rfl (by decide) (Nat.le_of_ble_eq_true rfl) (ok_Told_isPlinth G x2 M ) (fun r435 => ?_)
        show pm_R _ _ _ (25, [(0, .inr (.inr (11, 24))), (1, .inl x1), (2, .inl x2), (3, .inl x3)], [.inl r435], 119, pm_RF, M) _ _
        refine R_if ho rfl (tgt := 38) rfl ?_
        refine R_eq ?_ ?_
        · refine R_st ho 1 (q' := (39, [(0, .inr (.inr (11, 24))), (1, .inl x1), (2, .inl x2), (3, .inl x3)], [.inl (-1)], 119, pm_RF, M)) rfl ?_
          exact R_end (v := some (.inl (-1))) rfl (Or.inl rfl) rfl rfl
        · refine R_st ho 2 (q' := (30, [(0, .inr (.inr (11, 24))), (1, .inl x1), (2, .inl x2), (3, .inl x3)], [.inl (-1), .inl x3], 119, pm_RF, M)) rfl ?_
          refine R_ic ho rfl (tgt := 38) rfl ?_
          refine R_lt ?_ ?_
          · refine R_st ho 1 (q' := (39, [(0, .inr (.inr (11, 24))), (1, .inl x1), (2, .inl x2), (3, .inl x3)], [.inl (-1)], 119, pm_RF, M)) rfl ?_
            exact R_end (v := some (.inl (-1))) rfl (Or.inl rfl) rfl rfl
          · refine R_st ho 2 (q' := (35, [(0, .inr (.inr (11, 24))), (1, .inl x1), (2, .inl x2), (3, .inl x3)], [.inl 3, .inl x3], 119, pm_RF, M)) rfl ?_
            refine R_ic ho rfl (tgt := 40) rfl ?_
            refine R_le ?_ ?_
            · refine R_st ho 5 (q' := (49, [(0, .inr (.inr (11, 24))), (1, .inl x1), (2, .inl x2), (3, .inl x3)], [.inl x1, .inl (M 24 12), .inr (.inr (20, 32))], 119, pm_RF, M)) rfl ?_
              refine R_iast ho rfl rfl ?_
              refine R_nm fun M436 => ?_
              refine R_st ho 5 (q' := (59, [(0, .inr (.inr (11, 24))), (1, .inl x1), (2, .inl x2), (3, .inl x3)], [.inl x2, .inl (M436 24 12), .inr (.inr (20, 33))], 119, pm_RF, M436)) rfl ?_
              refine R_iast ho rfl rfl ?_
              refine R_nm fun M437 => ?_
              refine R_st ho 5 (q' := (69, [(0, .inr (.inr (11, 24))), (1, .inl x1), (2, .inl x2), (3, .inl x3)], [.inl x3, .inl (M437 24 12), .inr (.inr (20, 34))], 119, pm_RF, M437)) rfl ?_
              refine R_iast ho rfl rfl ?_
              refine R_nm fun M438 => ?_
              refine R_st ho 6 (q' := (80, [(0, .inr (.inr (11, 24))), (1, .inl x1), (2, .inl x2), (3, .inl x3)], [], 119, pm_RF, (pm_ms M438 24 12 (i_ad (M438 24 12) 1)))) rfl ?_
              refine R_nm fun M439 => ?_
              refine R_st ho 2 (q' := (84, [(0, .inr (.inr (11, 24))), (1, .inl x1), (2, .inl x2), (3, .inl x3)], [.inl (M439 24 12)], 119, pm_RF, M439)) rfl ?_
              exact R_end (v := some (.inl (M439 24 12))) rfl (Or.inl rfl) rfl rfl
            · refine R_st ho 1 (q' := (39, [(0, .inr (.inr (11, 24))), (1, .inl x1), (2, .inl x2), (3, .inl x3)], [.inl (-1)], 119, pm_RF, M)) rfl ?_
              exact R_end (v := some (.inl (-1))) rfl (Or.inl rfl) rfl rfl
theorem ok_X_seen (G : pm_G) (x1 : Int) (x2 : Int) (x3 : Int) (M : pm_M)  : pm_R G mt_X_seen 3 (0, [(0, .inr (.inr (0, 0))), (1, .inl x1), (2, .inl x2), (3, .inl x3)], [], 119, pm_RF, M) (f_X_seen x1 x2 x3 M) (pm_Zr mt_X_seen pm_gI) := by
  have ho : pm_oG G mt_X_seen := (oa_X_seen).g G
  unfold f_X_seen
  refine R_st ho 5 (q' := (7, [(0, .inr (.inr (0, 0))), (1, .inl x1), (2, .inl x2), (3, .inl x3)], [.inl x3, .inl x2, .inl x1, .inr (.inr (11, 24))], 119, pm_RF, M)) rfl ?_
  refine R_callV ho mv_Told_addSeen lk_0_262 rfl (As := [.inl x1, .inl x2, .inl x3]) (kd := 11) (a := 24) (st := []) rfl rfl (Nat.le_of_ble_eq_true rfl) rfl (by decide) (Nat.le_of_ble_eq_true rfl) (ok_Told_addSeen G x1 x2 x3 M ) (fun r440 => ?_)
  show pm_R _ _ _ (10, [(0, .inr (.inr (0, 0))), (1, .inl x1), (2, .inl x2), (3, .inl x3)], [.inl r440.1], 119, pm_RF, r440.2) _ _
  exact R_end (v := some (.inl r440.1)) rfl (Or.inl rfl) rfl rfl
theorem ok_Told_dropSeen (G : pm_G)  (M : pm_M)  : pm_R G mt_Told_dropSeen 1 (0, [(0, .inr (.inr (11, 24)))], [], 119, pm_RF, M) (f_Told_dropSeen M) (pm_Zr mt_Told_dropSeen pm_gI) := by
  have ho : pm_oG G mt_Told_dropSeen := (oa_Told_dropSeen).g G
  unfold f_Told_dropSeen
  refine R_st ho 6 (q' := (10, [(1, .inl (M 24 12)), (0, .inr (.inr (11, 24)))], [], 119, pm_RF, (pm_ms M 24 12 0))) rfl ?_
  refine R_nm fun M441 => ?_
  refine R_st ho 1 (q' := (11, [(1, .inl (M 24 12)), (0, .inr (.inr (11, 24)))], [.inl (M 24 12)], 119, pm_RF, M441)) rfl ?_
  exact R_end (v := some (.inl (M 24 12))) rfl (Or.inl rfl) rfl rfl
theorem ok_X_forget (G : pm_G)  (M : pm_M)  : pm_R G mt_X_forget 2 (0, [(0, .inr (.inr (0, 0)))], [], 119, pm_RF, M) (f_X_forget M) (pm_Zr mt_X_forget pm_gI) := by
  have ho : pm_oG G mt_X_forget := (oa_X_forget).g G
  unfold f_X_forget
  refine R_st ho 2 (q' := (4, [(0, .inr (.inr (0, 0)))], [.inr (.inr (11, 24))], 119, pm_RF, M)) rfl ?_
  refine R_callV ho mv_Told_dropSeen lk_0_265 rfl (As := []) (kd := 11) (a := 24) (st := []) rfl rfl (Nat.le_of_ble_eq_true rfl) rfl (by decide) (Nat.le_of_ble_eq_true rfl) (ok_Told_dropSeen G  M ) (fun r442 => ?_)
  show pm_R _ _ _ (7, [(0, .inr (.inr (0, 0)))], [.inl r442.1], 119, pm_RF, r442.2) _ _
  exact R_end (v := some (.inl r442.1)) rfl (Or.inl rfl) rfl rfl
theorem ok_Nights_swapScratch (G : pm_G) (x1 : Int) (x2 : Int) (M : pm_M)  : pm_R G mt_Nights_swapScratch 1 (0, [(0, .inr (.inr (5, 77))), (1, .inl x1), (2, .inl x2)], [], 119, pm_RF, M) (f_Nights_swapScratch x1 x2 M) (pm_Zr mt_Nights_swapScratch pm_gV) := by
  have ho : pm_oG G mt_Nights_swapScratch := (oa_Nights_swapScratch).g G
  unfold f_Nights_swapScratch
  refine R_st ho 3 (q' := (5, [(0, .inr (.inr (5, 77))), (1, .inl x1), (2, .inl x2)], [.inl x1, .inr (.inr (20, 82))], 119, pm_RF, M)) rfl ?_
  refine R_iald ho rfl rfl ?_
  refine R_st ho 7 (q' := (17, [(3, .inl (M 82 (x1).toNat)), (0, .inr (.inr (5, 77))), (1, .inl x1), (2, .inl x2)], [.inl x2, .inr (.inr (20, 82)), .inl x1, .inr (.inr (20, 82))], 119, pm_RF, M)) rfl ?_
  refine R_iald ho rfl rfl ?_
  refine R_iast ho rfl rfl ?_
  refine R_nm fun M446 => ?_
  refine R_st ho 4 (q' := (25, [(3, .inl (M 82 (x1).toNat)), (0, .inr (.inr (5, 77))), (1, .inl x1), (2, .inl x2)], [.inl (M 82 (x1).toNat), .inl x2, .inr (.inr (20, 82))], 119, pm_RF, M446)) rfl ?_
  refine R_iast ho rfl rfl ?_
  refine R_nm fun M447 => ?_
  exact R_end (v := none) rfl rfl rfl rfl
theorem ok_Nights_write_L2 (G : pm_G)    : ∀ (n_ : Nat) (y1 : Int) (y2 : Int) (M : pm_M), pm_R G mt_Nights_write 2 (2, [(0, .inr (.inr (5, 77))), (1, .inl y1), (2, .inl y2)], [], 119, pm_RF, M) (f_Nights_write_L2 n_ y1 y2 M) (fun e_ q_ => q_ = (20, [(0, .inr (.inr (5, 77))), (1, .inl e_.1)], [], 119, pm_RF, e_.2)) := by
  have ho : pm_oG G mt_Nights_write := (oa_Nights_write).g G
  intro n_
  induction n_ with
  | zero => intro _ _ _; exact R_none
  | succ n_ ih_ =>
    intro y1 y2 M
    rw [f_Nights_write_L2]
    refine R_st ho 2 (q' := (4, [(0, .inr (.inr (5, 77))), (1, .inl y1), (2, .inl y2)], [.inl 5, .inl y2], 119, pm_RF, M)) rfl ?_
    refine R_ic ho rfl (tgt := 20) rfl ?_
    refine R_ge ?_ ?_
    · refine R_pk [0, 1] rfl ?_
      exact R_ret rfl
    · refine R_st ho 4 (q' := (13, [(0, .inr (.inr (5, 77))), (1, .inl y1), (2, .inl y2)], [.inl y2, .inl y2, .inr (.inr (20, 82))], 119, pm_RF, M)) rfl ?_
      refine R_iast ho rfl rfl ?_
      refine R_nm fun M444 => ?_
      refine R_st ho 2 (q' := (2, [(2, .inl (i_ad y2 1)), (0, .inr (.inr (5, 77))), (1, .inl y1)], [], 119, pm_RF, M444)) rfl ?_
      refine R_pk [0, 1, 2] rfl ?_
      exact ih_ y1 (i_ad y2 1) M444
theorem ok_Nights_write_L24 (G : pm_G)    : ∀ (n_ : Nat) (y2 : Int) (y3 : Int) (M : pm_M), pm_R G mt_Nights_write 2 (24, [(0, .inr (.inr (5, 77))), (2, .inl y2), (3, .inl y3)], [], 119, pm_RF, M) (f_Nights_write_L24 n_ y2 y3 M) (fun e_ q_ => q_ = (51, [], [], 119, pm_RF, e_)) := by
  have ho : pm_oG G mt_Nights_write := (oa_Nights_write).g G
  intro n_
  induction n_ with
  | zero => intro _ _ _; exact R_none
  | succ n_ ih_ =>
    intro y2 y3 M
    rw [f_Nights_write_L24]
    refine R_st ho 2 (q' := (26, [(0, .inr (.inr (5, 77))), (2, .inl y2), (3, .inl y3)], [.inl 5, .inl y3], 119, pm_RF, M)) rfl ?_
    refine R_ic ho rfl (tgt := 51) rfl ?_
    refine R_ge ?_ ?_
    · refine R_pk [] rfl ?_
      exact R_ret rfl
    · refine R_st ho 5 (q' := (34, [(0, .inr (.inr (5, 77))), (2, .inl y2), (3, .inl y3)], [.inl (i_ad y3 1), .inl y2, .inr (.inr (5, 77))], 119, pm_RF, M)) rfl ?_
      refine R_irem ho rfl ?_
      refine R_st ho 1 (q' := (36, [(0, .inr (.inr (5, 77))), (2, .inl y2), (3, .inl y3)], [.inl y3, .inl (i_rm y2 (i_ad y3 1)), .inr (.inr (5, 77))], 119, pm_RF, M)) rfl ?_
      refine R_callV ho mv_Nights_swapScratch lk_5_107 rfl (As := [.inl (i_rm y2 (i_ad y3 1)), .inl y3]) (kd := 5) (a := 77) (st := []) rfl rfl (Nat.le_of_ble_eq_true rfl) rfl (by decide) (Nat.le_of_ble_eq_true rfl) (ok_Nights_swapScratch G (i_rm y2 (i_ad y3 1)) y3 M ) (fun M448 => ?_)
      show pm_R _ _ _ (39, [(0, .inr (.inr (5, 77))), (2, .inl y2), (3, .inl y3)], [], 119, pm_RF, M448) _ _
      refine R_st ho 4 (q' := (43, [(0, .inr (.inr (5, 77))), (2, .inl y2), (3, .inl y3)], [.inl (i_ad y3 1), .inl y2], 119, pm_RF, M448)) rfl ?_
      refine R_idiv ho rfl ?_
      refine R_st ho 3 (q' := (24, [(3, .inl (i_ad y3 1)), (2, .inl (i_dv y2 (i_ad y3 1))), (0, .inr (.inr (5, 77)))], [], 119, pm_RF, M448)) rfl ?_
      refine R_pk [0, 2, 3] rfl ?_
      exact ih_ (i_dv y2 (i_ad y3 1)) (i_ad y3 1) M448
theorem ok_Nights_write (G : pm_G) (x1 : Int) (M : pm_M)  : pm_R G mt_Nights_write 2 (0, [(0, .inr (.inr (5, 77))), (1, .inl x1)], [], 119, pm_RF, M) (f_Nights_write x1 M) (pm_Zr mt_Nights_write pm_gV) := by
  have ho : pm_oG G mt_Nights_write := (oa_Nights_write).g G
  unfold f_Nights_write
  refine R_st ho 2 (q' := (2, [(2, .inl 0), (0, .inr (.inr (5, 77))), (1, .inl x1)], [], 119, pm_RF, M)) rfl ?_
  refine R_pk [0, 1, 2] rfl ?_
  refine R_bind (ok_Nights_write_L2 G pm_F x1 0 M) ?_
  intro e445 q_ hq_
  obtain rfl : q_ = (20, [(0, .inr (.inr (5, 77))), (1, .inl e445.1)], [], 119, pm_RF, e445.2) := hq_
  refine R_st ho 4 (q' := (24, [(3, .inl 1), (2, .inl e445.1), (0, .inr (.inr (5, 77))), (1, .inl e445.1)], [], 119, pm_RF, e445.2)) rfl ?_
  refine R_pk [0, 2, 3] rfl ?_
  refine R_bind (ok_Nights_write_L24 G pm_F e445.1 1 e445.2) ?_
  intro e449 q_ hq_
  obtain rfl : q_ = (51, [], [], 119, pm_RF, e449) := hq_
  exact R_end (v := none) rfl rfl rfl rfl
theorem ok_Nights_swapOf (G : pm_G) (x0 : Int) (x1 : Int) (M : pm_M)  : pm_R G mt_Nights_swapOf 1 (0, [(0, .inl x0), (1, .inl x1)], [], 119, pm_RF, M) (f_Nights_swapOf x0 x1 M) (pm_Zr mt_Nights_swapOf (pm_gi M)) := by
  have ho : pm_oG G mt_Nights_swapOf := (oa_Nights_swapOf).g G
  unfold f_Nights_swapOf
  refine R_st ho 9 (q' := (9, [(0, .inl x0), (1, .inl x1)], [.inl (i_ad (i_dv (i_ml x1 (i_sb x1 1)) 2) x0)], 119, pm_RF, M)) rfl ?_
  exact R_end (v := some (.inl (i_ad (i_dv (i_ml x1 (i_sb x1 1)) 2) x0))) rfl (Or.inl rfl) rfl rfl
theorem ok_Nights_numberOfScratch_L13 (G : pm_G)   (M : pm_M) : ∀ (n_ : Nat) (y1 : Int) (y2 : Int) (y3 : Int) (y4 : Int), pm_R G mt_Nights_numberOfScratch 2 (13, [(0, .inr (.inr (5, 77))), (1, .inl y1), (2, .inl y2), (3, .inl y3), (4, .inl y4)], [], 119, pm_RF, M) (f_Nights_numberOfScratch_L13 M n_ y1 y2 y3 y4) (fun e_ q_ => q_ = (39, [(0, .inr (.inr (5, 77))), (1, .inl e_.1), (2, .inl e_.2.1), (3, .inl e_.2.2)], [], 119, pm_RF, M)) := by
  have ho : pm_oG G mt_Nights_numberOfScratch := (oa_Nights_numberOfScratch).g G
  intro n_
  induction n_ with
  | zero => intro _ _ _ _; exact R_none
  | succ n_ ih_ =>
    intro y1 y2 y3 y4
    rw [f_Nights_numberOfScratch_L13]
    refine R_st ho 2 (q' := (16, [(0, .inr (.inr (5, 77))), (1, .inl y1), (2, .inl y2), (3, .inl y3), (4, .inl y4)], [.inl y2, .inl y4], 119, pm_RF, M)) rfl ?_
    refine R_ic ho rfl (tgt := 39) rfl ?_
    refine R_gt ?_ ?_
    · refine R_pk [0, 1, 2, 3] rfl ?_
      exact R_ret rfl
    · refine R_st ho 3 (q' := (25, [(0, .inr (.inr (5, 77))), (1, .inl y1), (2, .inl y2), (3, .inl y3), (4, .inl y4)], [.inl y4, .inr (.inr (20, 82))], 119, pm_RF, M)) rfl ?_
      refine R_iald ho rfl rfl ?_
      refine R_st ho 1 (q' := (27, [(0, .inr (.inr (5, 77))), (1, .inl y1), (2, .inl y2), (3, .inl y3), (4, .inl y4)], [.inl y2, .inl (M 82 (y4).toNat)], 119, pm_RF, M)) rfl ?_
      refine R_ic ho rfl (tgt := 33) rfl ?_
      refine R_ne ?_ ?_
      · refine R_st ho 4 (q' := (13, [(4, .inl (i_ad y4 1)), (3, .inl y4), (0, .inr (.inr (5, 77))), (1, .inl y1), (2, .inl y2)], [], 119, pm_RF, M)) rfl ?_
        refine R_pk [0, 1, 2, 3, 4] rfl ?_
        exact ih_ y1 y2 y4 (i_ad y4 1)
      · refine R_st ho 2 (q' := (13, [(4, .inl (i_ad y4 1)), (0, .inr (.inr (5, 77))), (1, .inl y1), (2, .inl y2), (3, .inl y3)], [], 119, pm_RF, M)) rfl ?_
        refine R_pk [0, 1, 2, 3, 4] rfl ?_
        exact ih_ y1 y2 y3 (i_ad y4 1)
theorem ok_Nights_numberOfScratch_L4 (G : pm_G)    : ∀ (n_ : Nat) (y1 : Int) (y2 : Int) (M : pm_M), pm_R G mt_Nights_numberOfScratch 2 (4, [(0, .inr (.inr (5, 77))), (1, .inl y1), (2, .inl y2)], [], 119, pm_RF, M) (f_Nights_numberOfScratch_L4 n_ y1 y2 M) (fun e_ q_ => q_ = (59, [(1, .inl e_.1)], [], 119, pm_RF, e_.2)) := by
  have ho : pm_oG G mt_Nights_numberOfScratch := (oa_Nights_numberOfScratch).g G
  intro n_
  induction n_ with
  | zero => intro _ _ _; exact R_none
  | succ n_ ih_ =>
    intro y1 y2 M
    rw [f_Nights_numberOfScratch_L4]
    refine R_st ho 1 (q' := (5, [(0, .inr (.inr (5, 77))), (1, .inl y1), (2, .inl y2)], [.inl y2], 119, pm_RF, M)) rfl ?_
    refine R_if ho rfl (tgt := 59) rfl ?_
    refine R_le ?_ ?_
    · refine R_pk [1] rfl ?_
      exact R_ret rfl
    · refine R_st ho 4 (q' := (13, [(4, .inl 1), (3, .inl 0), (0, .inr (.inr (5, 77))), (1, .inl y1), (2, .inl y2)], [], 119, pm_RF, M)) rfl ?_
      refine R_pk [0, 1, 2, 3, 4] rfl ?_
      refine R_bind (ok_Nights_numberOfScratch_L13 G M pm_F y1 y2 0 1) ?_
      intro e456 q_ hq_
      obtain rfl : q_ = (39, [(0, .inr (.inr (5, 77))), (1, .inl e456.1), (2, .inl e456.2.1), (3, .inl e456.2.2)], [], 119, pm_RF, M) := hq_
      refine R_st ho 3 (q' := (42, [(0, .inr (.inr (5, 77))), (1, .inl e456.1), (2, .inl e456.2.1), (3, .inl e456.2.2)], [.inl e456.2.1, .inl e456.2.2, .inr (.inr (5, 77))], 119, pm_RF, M)) rfl ?_
      refine R_callV ho mv_Nights_swapScratch lk_5_107 rfl (As := [.inl e456.2.2, .inl e456.2.1]) (kd := 5) (a := 77) (st := []) rfl rfl (Nat.le_of_ble_eq_true rfl) rfl (by decide) (Nat.le_of_ble_eq_true rfl) (ok_Nights_swapScratch G e456.2.2 e456.2.1 M ) (fun M457 => ?_)
      show pm_R _ _ _ (45, [(0, .inr (.inr (5, 77))), (1, .inl e456.1), (2, .inl e456.2.1), (3, .inl e456.2.2)], [], 119, pm_RF, M457) _ _
      refine R_st ho 8 (q' := (53, [(1, .inl (i_ad (i_ml e456.1 (i_ad e456.2.1 1)) e456.2.2)), (0, .inr (.inr (5, 77))), (2, .inl e456.2.1), (3, .inl e456.2.2)], [], 119, pm_RF, M457)) rfl ?_
      refine R_nx (fun z_ => (53, [(1, .inl z_), (0, .inr (.inr (5, 77))), (2, .inl e456.2.1), (3, .inl e456.2.2)], [], 119, pm_RF, M457)) fun v458 => ?_
      refine R_st ho 2 (q' := (4, [(2, .inl (i_ad e456.2.1 (-1))), (1, .inl v458), (0, .inr (.inr (5, 77))), (3, .inl e456.2.2)], [], 119, pm_RF, M457)) rfl ?_
      refine R_pk [0, 1, 2] rfl ?_
      exact ih_ v458 (i_ad e456.2.1 (-1)) M457
theorem ok_Nights_numberOfScratch (G : pm_G)  (M : pm_M)  : pm_R G mt_Nights_numberOfScratch 2 (0, [(0, .inr (.inr (5, 77)))], [], 119, pm_RF, M) (f_Nights_numberOfScratch M) (pm_Zr mt_Nights_numberOfScratch pm_gI) := by
  have ho : pm_oG G mt_Nights_numberOfScratch := (oa_Nights_numberOfScratch).g G
  unfold f_Nights_numberOfScratch
  refine R_st ho 4 (q' := (4, [(2, .inl 4), (1, .inl 0), (0, .inr (.inr (5, 77)))], [], 119, pm_RF, M)) rfl ?_
  refine R_pk [0, 1, 2] rfl ?_
  refine R_bind (ok_Nights_numberOfScratch_L4 G pm_F 0 4 M) ?_
  intro e459 q_ hq_
  obtain rfl : q_ = (59, [(1, .inl e459.1)], [], 119, pm_RF, e459.2) := hq_
  refine R_st ho 1 (q' := (60, [(1, .inl e459.1)], [.inl e459.1], 119, pm_RF, e459.2)) rfl ?_
  exact R_end (v := some (.inl e459.1)) rfl (Or.inl rfl) rfl rfl
theorem ok_Nights_makeStates_L2 (G : pm_G)    : ∀ (n_ : Nat) (y1 : Int) (M : pm_M), pm_R G mt_Nights_makeStates 3 (2, [(0, .inr (.inr (5, 77))), (1, .inl y1)], [], 119, pm_RF, M) (f_Nights_makeStates_L2 n_ y1 M) (fun e_ q_ => q_ = (35, [(0, .inr (.inr (5, 77)))], [], 119, pm_RF, e_)) := by
  have ho : pm_oG G mt_Nights_makeStates := (oa_Nights_makeStates).g G
  intro n_
  induction n_ with
  | zero => intro _ _; exact R_none
  | succ n_ ih_ =>
    intro y1 M
    rw [f_Nights_makeStates_L2]
    refine R_st ho 2 (q' := (5, [(0, .inr (.inr (5, 77))), (1, .inl y1)], [.inl 120, .inl y1], 119, pm_RF, M)) rfl ?_
    refine R_ic ho rfl (tgt := 35) rfl ?_
    refine R_ge ?_ ?_
    · refine R_pk [0] rfl ?_
      exact R_ret rfl
    · refine R_st ho 2 (q' := (10, [(0, .inr (.inr (5, 77))), (1, .inl y1)], [.inl y1, .inr (.inr (5, 77))], 119, pm_RF, M)) rfl ?_
      refine R_callV ho mv_Nights_write lk_5_97 rfl (As := [.inl y1]) (kd := 5) (a := 77) (st := []) rfl rfl (Nat.le_of_ble_eq_true rfl) rfl (by decide) (Nat.le_of_ble_eq_true rfl) (ok_Nights_write G y1 M ) (fun M450 => ?_)
      show pm_R _ _ _ (13, [(0, .inr (.inr (5, 77))), (1, .inl y1)], [], 119, pm_RF, M450) _ _
      refine R_st ho 9 (q' := (26, [(0, .inr (.inr (5, 77))), (1, .inl y1)], [.inl 5, .inl (i_ml y1 5), .inr (.inr (20, 78)), .inl 0, .inr (.inr (20, 82))], 119, pm_RF, M450)) rfl ?_
      refine R_copy ho (k := 101) (st := []) rfl rfl (Nat.le_of_ble_eq_true rfl) rfl rfl ?_
      refine R_nm fun M451 => ?_
      refine R_st ho 2 (q' := (2, [(1, .inl (i_ad y1 1)), (0, .inr (.inr (5, 77)))], [], 119, pm_RF, M451)) rfl ?_
      refine R_pk [0, 1] rfl ?_
      exact ih_ (i_ad y1 1) M451
theorem ok_Nights_makeStates_L52 (G : pm_G)    : ∀ (n_ : Nat) (y1 : Int) (y2 : Int) (y3 : Int) (M : pm_M), pm_R G mt_Nights_makeStates 3 (52, [(0, .inr (.inr (5, 77))), (1, .inl y1), (2, .inl y2), (3, .inl y3)], [], 119, pm_RF, M) (f_Nights_makeStates_L52 n_ y1 y2 y3 M) (fun e_ q_ => q_ = (104, [(0, .inr (.inr (5, 77))), (1, .inl e_.1), (2, .inl e_.2.1)], [], 119, pm_RF, e_.2.2)) := by
  have ho : pm_oG G mt_Nights_makeStates := (oa_Nights_makeStates).g G
  intro n_
  induction n_ with
  | zero => intro _ _ _ _; exact R_none
  | succ n_ ih_ =>
    intro y1 y2 y3 M
    rw [f_Nights_makeStates_L52]
    refine R_st ho 2 (q' := (54, [(0, .inr (.inr (5, 77))), (1, .inl y1), (2, .inl y2), (3, .inl y3)], [.inl y2, .inl y3], 119, pm_RF, M)) rfl ?_
    refine R_ic ho rfl (tgt := 104) rfl ?_
    refine R_ge ?_ ?_
    · refine R_pk [0, 1, 2] rfl ?_
      exact R_ret rfl
    · refine R_st ho 9 (q' := (70, [(0, .inr (.inr (5, 77))), (1, .inl y1), (2, .inl y2), (3, .inl y3)], [.inl 5, .inl 0, .inr (.inr (20, 82)), .inl (i_ml y1 5), .inr (.inr (20, 78))], 119, pm_RF, M)) rfl ?_
      refine R_copy ho (k := 101) (st := []) rfl rfl (Nat.le_of_ble_eq_true rfl) rfl rfl ?_
      refine R_nm fun M453 => ?_
      refine R_st ho 3 (q' := (76, [(0, .inr (.inr (5, 77))), (1, .inl y1), (2, .inl y2), (3, .inl y3)], [.inl y2, .inl y3, .inr (.inr (5, 77))], 119, pm_RF, M453)) rfl ?_
      refine R_callV ho mv_Nights_swapScratch lk_5_107 rfl (As := [.inl y3, .inl y2]) (kd := 5) (a := 77) (st := []) rfl rfl (Nat.le_of_ble_eq_true rfl) rfl (by decide) (Nat.le_of_ble_eq_true rfl) (ok_Nights_swapScratch G y3 y2 M453 ) (fun M454 => ?_)
      show pm_R _ _ _ (79, [(0, .inr (.inr (5, 77))), (1, .inl y1), (2, .inl y2), (3, .inl y3)], [], 119, pm_RF, M454) _ _
      refine R_st ho 7 (q' := (89, [(0, .inr (.inr (5, 77))), (1, .inl y1), (2, .inl y2), (3, .inl y3)], [.inl y2, .inl y3, .inl (i_ml y1 10), .inr (.inr (20, 79))], 119, pm_RF, M454)) rfl ?_
      refine R_callS ho ms_Nights_swapOf lk_5_94 rfl (As := [.inl y3, .inl y2]) (st := [.inl (i_ml y1 10), .inr (.inr (20, 79))]) rfl (Nat.le_of_ble_eq_true rfl) rfl (by decide) (Nat.le_of_ble_eq_true rfl) (ok_Nights_swapOf G y3 y2 M454 ) (fun r455 => ?_)
      show pm_R _ _ _ (92, [(0, .inr (.inr (5, 77))), (1, .inl y1), (2, .inl y2), (3, .inl y3)], [.inl r455, .inl (i_ml y1 10), .inr (.inr (20, 79))], 119, pm_RF, M454) _ _
      refine R_st ho 2 (q' := (94, [(0, .inr (.inr (5, 77))), (1, .inl y1), (2, .inl y2), (3, .inl y3)], [.inr (.inr (5, 77)), .inl (i_ad (i_ml y1 10) r455), .inr (.inr (20, 79))], 119, pm_RF, M454)) rfl ?_
      refine R_callV ho mv_Nights_numberOfScratch lk_5_111 rfl (As := []) (kd := 5) (a := 77) (st := [.inl (i_ad (i_ml y1 10) r455), .inr (.inr (20, 79))]) rfl rfl (Nat.le_of_ble_eq_true rfl) rfl (by decide) (Nat.le_of_ble_eq_true rfl) (ok_Nights_numberOfScratch G  M454 ) (fun r460 => ?_)
      show pm_R _ _ _ (97, [(0, .inr (.inr (5, 77))), (1, .inl y1), (2, .inl y2), (3, .inl y3)], [.inl r460.1, .inl (i_ad (i_ml y1 10) r455), .inr (.inr (20, 79))], 119, pm_RF, r460.2) _ _
      refine R_iast ho rfl rfl ?_
      refine R_nm fun M461 => ?_
      refine R_st ho 2 (q' := (52, [(3, .inl (i_ad y3 1)), (0, .inr (.inr (5, 77))), (1, .inl y1), (2, .inl y2)], [], 119, pm_RF, M461)) rfl ?_
      refine R_pk [0, 1, 2, 3] rfl ?_
      exact ih_ y1 y2 (i_ad y3 1) M461
theorem ok_Nights_makeStates_L45 (G : pm_G)    : ∀ (n_ : Nat) (y1 : Int) (y2 : Int) (M : pm_M), pm_R G mt_Nights_makeStates 3 (45, [(0, .inr (.inr (5, 77))), (1, .inl y1), (2, .inl y2)], [], 119, pm_RF, M) (f_Nights_makeStates_L45 n_ y1 y2 M) (fun e_ q_ => q_ = (110, [(0, .inr (.inr (5, 77))), (1, .inl e_.1)], [], 119, pm_RF, e_.2)) := by
  have ho : pm_oG G mt_Nights_makeStates := (oa_Nights_makeStates).g G
  intro n_
  induction n_ with
  | zero => intro _ _ _; exact R_none
  | succ n_ ih_ =>
    intro y1 y2 M
    rw [f_Nights_makeStates_L45]
    refine R_st ho 2 (q' := (47, [(0, .inr (.inr (5, 77))), (1, .inl y1), (2, .inl y2)], [.inl 5, .inl y2], 119, pm_RF, M)) rfl ?_
    refine R_ic ho rfl (tgt := 110) rfl ?_
    refine R_ge ?_ ?_
    · refine R_pk [0, 1] rfl ?_
      exact R_ret rfl
    · refine R_st ho 2 (q' := (52, [(3, .inl 0), (0, .inr (.inr (5, 77))), (1, .inl y1), (2, .inl y2)], [], 119, pm_RF, M)) rfl ?_
      refine R_pk [0, 1, 2, 3] rfl ?_
      refine R_bind (ok_Nights_makeStates_L52 G pm_F y1 y2 0 M) ?_
      intro e462 q_ hq_
      obtain rfl : q_ = (104, [(0, .inr (.inr (5, 77))), (1, .inl e462.1), (2, .inl e462.2.1)], [], 119, pm_RF, e462.2.2) := hq_
      refine R_st ho 2 (q' := (45, [(2, .inl (i_ad e462.2.1 1)), (0, .inr (.inr (5, 77))), (1, .inl e462.1)], [], 119, pm_RF, e462.2.2)) rfl ?_
      refine R_pk [0, 1, 2] rfl ?_
      exact ih_ e462.1 (i_ad e462.2.1 1) e462.2.2
theorem ok_Nights_makeStates_L37 (G : pm_G)    : ∀ (n_ : Nat) (y1 : Int) (M : pm_M), pm_R G mt_Nights_makeStates 3 (37, [(0, .inr (.inr (5, 77))), (1, .inl y1)], [], 119, pm_RF, M) (f_Nights_makeStates_L37 n_ y1 M) (fun e_ q_ => q_ = (116, [], [], 119, pm_RF, e_)) := by
  have ho : pm_oG G mt_Nights_makeStates := (oa_Nights_makeStates).g G
  intro n_
  induction n_ with
  | zero => intro _ _; exact R_none
  | succ n_ ih_ =>
    intro y1 M
    rw [f_Nights_makeStates_L37]
    refine R_st ho 2 (q' := (40, [(0, .inr (.inr (5, 77))), (1, .inl y1)], [.inl 120, .inl y1], 119, pm_RF, M)) rfl ?_
    refine R_ic ho rfl (tgt := 116) rfl ?_
    refine R_ge ?_ ?_
    · refine R_pk [] rfl ?_
      exact R_ret rfl
    · refine R_st ho 2 (q' := (45, [(2, .inl 1), (0, .inr (.inr (5, 77))), (1, .inl y1)], [], 119, pm_RF, M)) rfl ?_
      refine R_pk [0, 1, 2] rfl ?_
      refine R_bind (ok_Nights_makeStates_L45 G pm_F y1 1 M) ?_
      intro e463 q_ hq_
      obtain rfl : q_ = (110, [(0, .inr (.inr (5, 77))), (1, .inl e463.1)], [], 119, pm_RF, e463.2) := hq_
      refine R_st ho 2 (q' := (37, [(1, .inl (i_ad e463.1 1)), (0, .inr (.inr (5, 77)))], [], 119, pm_RF, e463.2)) rfl ?_
      refine R_pk [0, 1] rfl ?_
      exact ih_ (i_ad e463.1 1) e463.2
theorem ok_Nights_makeStates (G : pm_G)  (M : pm_M)  : pm_R G mt_Nights_makeStates 3 (0, [(0, .inr (.inr (5, 77)))], [], 119, pm_RF, M) (f_Nights_makeStates M) (pm_Zr mt_Nights_makeStates pm_gV) := by
  have ho : pm_oG G mt_Nights_makeStates := (oa_Nights_makeStates).g G
  unfold f_Nights_makeStates
  refine R_st ho 2 (q' := (2, [(1, .inl 0), (0, .inr (.inr (5, 77)))], [], 119, pm_RF, M)) rfl ?_
  refine R_pk [0, 1] rfl ?_
  refine R_bind (ok_Nights_makeStates_L2 G pm_F 0 M) ?_
  intro e452 q_ hq_
  obtain rfl : q_ = (35, [(0, .inr (.inr (5, 77)))], [], 119, pm_RF, e452) := hq_
  refine R_st ho 2 (q' := (37, [(1, .inl 0), (0, .inr (.inr (5, 77)))], [], 119, pm_RF, e452)) rfl ?_
  refine R_pk [0, 1] rfl ?_
  refine R_bind (ok_Nights_makeStates_L37 G pm_F 0 e452) ?_
  intro e464 q_ hq_
  obtain rfl : q_ = (116, [], [], 119, pm_RF, e464) := hq_
  exact R_end (v := none) rfl rfl rfl rfl
