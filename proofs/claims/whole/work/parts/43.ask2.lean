/-! WHAT IS ONLY ASKED -/
section
variable {A : Nat → Int} {M : pm_M}
theorem st_headOf (hA : WF A) (hC : CX 24 36 1 A M) (hM : M 88 = A) (h w : Int) : ok (f_X_headOf h w M) (fun y => f_Q_headOf h w M = some y) := by
  have w1 := hA.2.1
  have hx := f_X_headOf.eq_1 h w M
  have hq := f_Q_headOf.eq_1 h w M
  rw [x_isHd hC.1.1.2.1 h, ob] at hx
  rw [q_isHd (congrFun hM 1) hA.2.1 h, ob] at hq
  by_cases h1 : 0 ≤ h ∧ h < A 1
  · have t8 := hC.1.2.2.2.1 h.toNat (by omega)
    rw [pb_1 h1, if_neg (by decide)] at hx hq
    by_cases c0 : w = 0
    · rw [if_pos c0] at hx hq
      rw [x_place hC.2.1 h, ob] at hx
      rw [q_place hM (by omega) hA.2.2.2.2.2.2.2.2.2.1.2.1, ob] at hq
      exact ok_eq hx hq
    rw [if_neg c0] at hx hq
    by_cases c1 : w = 1
    · rw [if_pos c1] at hx hq
      rw [i_ad_eq (by omega), if_pos (by omega), show ((86 : Int) + h).toNat = 70 + (16 + h.toNat) by omega, hM] at hq
      rw [x_debt hC.2.1 (by omega), ob] at hx
      exact ok_eq hx hq
    rw [if_neg c1] at hx hq
    by_cases c2 : w = 2
    · rw [if_pos c2] at hx hq
      rw [i_ml_eq (by omega), i_ad_eq (by omega), if_pos (by omega), show ((42 : Int) + 2 * h).toNat = 42 + 2 * h.toNat by omega, hM] at hq
      unfold f_Told_fameOf at hx
      rw [if_pos (by omega), ob] at hx
      exact ok_eq hx (hq.trans (congrArg some t8.1.symm))
    rw [if_neg c2] at hx hq
    by_cases c3 : w = 3
    · rw [if_pos c3] at hx hq
      rw [i_ml_eq (by omega), i_ad_eq (a := 42) (by omega), i_ad_eq (by omega), if_pos (by omega), show ((42 : Int) + 2 * h + 1).toNat = 43 + 2 * h.toNat by omega, hM] at hq
      unfold f_Told_chinOf at hx
      rw [x_isHd hC.1.1.2.1 h, pb_1 h1, ob, if_neg (by omega), if_pos (by omega), ob] at hx
      exact ok_eq hx (hq.trans (congrArg some t8.2.symm))
    rw [if_neg c3] at hx hq
    exact ok_eq hx hq
  · rw [pb_0 h1, if_pos rfl] at hx hq
    exact ok_eq hx hq
theorem x_days (hA : WF A) (hC : CX 24 36 1 A M) {h v : Int} (h1 : 0 ≤ h ∧ h < 12) (hv : -1 ≤ v ∧ v ≤ 11) : f_Moment_daysStood h v M = some (A (101 + 13 * h + v).toNat) := by
  unfold f_Moment_daysStood f_Moment_stoodPlace
  rw [i_ml_eq (by omega), i_ad_eq (a := 30) (by omega), i_ad_eq (b := v) (by omega), i_ad_eq (by omega), ob, if_pos (by omega), hC.2.1 _ (by omega)]
  exact congrArg (fun k => some (A k)) (by omega)
theorem st_stood (hA : WF A) (hC : CX 24 36 1 A M) (hM : M 88 = A) (h v : Int) : ok (f_X_stood h v M) (fun y => f_Q_stood h v M = some y) := by
  have w1 := hA.2.1
  have hx := f_X_stood.eq_1 h v M
  have hq := f_Q_stood.eq_1 h v M
  rw [x_isHd hC.1.1.2.1 h, ob] at hx
  rw [q_isHd (congrFun hM 1) hA.2.1 h, ob] at hq
  by_cases h1 : 0 ≤ h ∧ h < A 1
  · rw [pb_1 h1, if_neg (by decide)] at hx hq
    rw [x_isName, ob] at hx
    rw [f_Q_in_eq, ob] at hq
    by_cases h2 : -1 ≤ v ∧ v ≤ 11
    · rw [if_pos h2, if_neg (by decide)] at hx hq
      rw [i_ml_eq (by omega), i_ad_eq (a := 100) (by omega), i_ad_eq (b := v) (by omega), i_ad_eq (by omega), if_pos (by omega), hM] at hq
      rw [x_days hA hC (by omega) h2, ob] at hx
      exact ok_eq hx (hq.trans (congrArg (fun k => some (A k)) (by omega)))
    · rw [if_neg h2, if_pos rfl] at hx hq
      exact ok_eq hx hq
  · rw [pb_0 h1, if_pos rfl] at hx hq
    exact ok_eq hx hq
theorem st_longL (hA : WF A) (hC : CX 24 36 1 A M) (hM : M 88 = A) {v : Int} (hv : -1 ≤ v ∧ v ≤ 11) : ∀ (k n n' p : Nat) (f d : Int), p + k = (A 1).toNat → k < n → k < n' → ok (f_X_longest_L16 M n v f d p) (fun y => f_Q_longest_L19 M n' v f d p = some y) := by
  have w1 := hA.2.1
  intro k
  induction k with
  | zero =>
    intro n n' p f d hp hn hn'
    cases n with
    | zero => omega
    | succ n =>
      cases n' with
      | zero => omega
      | succ n' =>
        unfold f_X_longest_L16 f_Q_longest_L19 f_Told_heads
        refine ok_be (congrArg some hC.1.1.2.1) (ok_pos (by omega) (ok_some ?_))
        rw [hM, if_pos (by omega)]
  | succ k ih =>
    intro n n' p f d hp hn hn'
    cases n with
    | zero => omega
    | succ n =>
      cases n' with
      | zero => omega
      | succ n' =>
        have hq : f_Q_longest_L19 M (n' + 1) v f d p = if A (101 + 13 * (p : Int) + v).toNat ≤ d then f_Q_longest_L19 M n' v f d (i_ad p 1) else f_Q_longest_L19 M n' v p (A (101 + 13 * (p : Int) + v).toNat) (i_ad p 1) := by
          conv => lhs; unfold f_Q_longest_L19
          rw [hM, if_neg (by omega), i_ml_eq (by omega), i_ad_eq (a := 100) (by omega), i_ad_eq (b := v) (by omega), i_ad_eq (a := 100 + 13 * (p : Int) + v) (by omega), if_pos (by omega), pm_bd, show ((100 : Int) + 13 * (p : Int) + v + 1).toNat = (101 + 13 * (p : Int) + v).toNat by omega]
        rw [hq, i_ad_eq (a := (p : Int)) (by omega)]
        unfold f_X_longest_L16 f_Told_heads
        rw [i_ad_eq (a := (p : Int)) (by omega)]
        refine ok_be (congrArg some hC.1.1.2.1) (ok_neg (by omega) ?_)
        refine ok_be (x_days hA hC (by omega) hv) ?_
        refine ok_ite (fun c => ?_) (fun c => ?_)
        · rw [if_pos c]; exact ih n n' (p + 1) f d (by omega) (by omega) (by omega)
        · rw [if_neg c]; exact ih n n' (p + 1) p _ (by omega) (by omega) (by omega)
theorem st_longest (hA : WF A) (hC : CX 24 36 1 A M) (hM : M 88 = A) (v : Int) : ok (f_X_longest v M) (fun y => f_Q_longest v M = some y) := by
  have w1 := hA.2.1
  unfold f_X_longest f_Q_longest
  rw [f_Q_in_eq, ob]
  refine ok_dc (x_isName v M) (fun h2 => ?_) (fun h2 => ?_)
  · rw [if_pos h2, if_neg (by omega), if_neg (by omega)]
    refine ok_bind (st_longL hA hC hM h2 (A 1).toNat pm_F pm_F 0 (-1) 0 (by omega) (by unfold pm_F; omega) (by unfold pm_F; omega)) (fun y hy => ok_some ?_)
    rw [show ((0 : Nat) : Int) = 0 from rfl] at hy
    rw [hy, ob]
  · rw [if_neg h2, if_pos rfl, if_pos rfl]
    exact ok_some rfl
-- all debts
def sdx (r : Nat → Int) : Nat → Nat → Int
  | 0, _ => 0
  | k + 1, p => r (16 + p) + sdx r k (p + 1)
theorem sdx_add (r : Nat → Int) : ∀ a b p, sdx r (a + b) p = sdx r a p + sdx r b (p + a)
  | 0, b, p => by rw [Nat.zero_add]; show _ = 0 + _; rw [Int.zero_add]; rfl
  | a + 1, b, p => by
    rw [show a + 1 + b = (a + b) + 1 by omega, sdx, sdx, sdx_add r a b (p + 1), show p + (a + 1) = p + 1 + a by omega]
    omega
theorem sdx_0 (r : Nat → Int) : ∀ k p, (∀ q, p ≤ q → q < p + k → r (16 + q) = 0) → sdx r k p = 0
  | 0, _, _ => rfl
  | k + 1, p, h => by rw [sdx, h p (by omega) (by omega), sdx_0 r k (p + 1) (fun q a b => h q (by omega) (by omega))]; rfl
theorem x_debtsL (hA : WF A) (hC : CX 24 36 1 A M) : ∀ (k n p : Nat) (s : Int), p + k = 12 → k < n → 0 ≤ s → s ≤ 998001 * p → f_Moment_debts_L4 M n s p = some (s + sdx (a_row A) k p) := by
  intro k
  induction k with
  | zero =>
    intro n p s hp hn h0 h1
    cases n with
    | zero => omega
    | succ n =>
      unfold f_Moment_debts_L4
      rw [if_pos (by omega), sdx, Int.add_zero]
  | succ k ih =>
    intro n p s hp hn h0 h1
    cases n with
    | zero => omega
    | succ n =>
      have w4 := hA.2.2.2.2.2.2.2.2.2.1.2.2.2.1 p (by omega)
      have w6 := hA.2.2.2.2.2.2.2.2.2.1.2.2.2.2.2.1
      unfold f_Moment_debts_L4
      have e := hC.2.1 (16 + p) (by omega)
      have e : M 36 (16 + p) = a_row A (16 + p) := e
      rw [if_neg (by omega), i_ad_eq (a := 16) (by omega), if_pos (by omega), show ((16 : Int) + (p : Int)).toNat = 16 + p by omega, e, pm_bd, i_ad_eq (a := s) (by omega), i_ad_eq (a := (p : Int)) (by omega), sdx]
      have := ih n (p + 1) (s + a_row A (16 + p)) (by omega) (by omega) (by omega) (by omega)
      rw [show ((p + 1 : Nat) : Int) = (p : Int) + 1 by omega] at this
      rw [this]
      exact congrArg some (by omega)
theorem q_debtsL (hA : WF A) (hM : M 88 = A) : ∀ (k n p : Nat) (s : Int), p + k = (A 1).toNat → k < n → 0 ≤ s → s ≤ 998001 * p → f_Q_debts_L4 M n s p = some (s + sdx (a_row A) k p) := by
  have w1 := hA.2.1
  intro k
  induction k with
  | zero =>
    intro n p s hp hn h0 h1
    cases n with
    | zero => omega
    | succ n =>
      unfold f_Q_debts_L4
      rw [hM, if_pos (by omega), sdx, Int.add_zero]
  | succ k ih =>
    intro n p s hp hn h0 h1
    cases n with
    | zero => omega
    | succ n =>
      have w4 := hA.2.2.2.2.2.2.2.2.2.1.2.2.2.1 p (by omega)
      have w6 := hA.2.2.2.2.2.2.2.2.2.1.2.2.2.2.2.1
      unfold f_Q_debts_L4
      rw [hM, if_neg (by omega), i_ad_eq (a := 86) (by omega), if_pos (by omega), show ((86 : Int) + (p : Int)).toNat = 70 + (16 + p) by omega, pm_bd, show A (70 + (16 + p)) = a_row A (16 + p) from rfl, i_ad_eq (a := s) (by omega), i_ad_eq (a := (p : Int)) (by omega), sdx]
      have := ih n (p + 1) (s + a_row A (16 + p)) (by omega) (by omega) (by omega) (by omega)
      rw [show ((p + 1 : Nat) : Int) = (p : Int) + 1 by omega] at this
      rw [this]
      exact congrArg some (by omega)
theorem st_debts (hA : WF A) (hC : CX 24 36 1 A M) (hM : M 88 = A) : f_Moment_debts M = f_Q_debts M ∧ ∃ v, f_Q_debts M = some v := by
  have w1 := hA.2.1
  unfold f_Moment_debts f_Q_debts
  have h1 := x_debtsL hA hC 12 pm_F 0 0 (by omega) (by unfold pm_F; omega) (by omega) (by omega)
  have h2 := q_debtsL hA hM (A 1).toNat pm_F 0 0 (by omega) (by unfold pm_F; omega) (by omega) (by omega)
  have h3 := sdx_add (a_row A) (A 1).toNat (12 - (A 1).toNat) 0
  rw [sdx_0 (a_row A) (12 - (A 1).toNat) (0 + (A 1).toNat) (fun q a b => (hA.2.2.2.2.2.2.2.2.2.1.2.2.2.1 q (by omega)).2.2 (by omega)), show (A 1).toNat + (12 - (A 1).toNat) = 12 by omega, Int.add_zero] at h3
  rw [show ((0 : Nat) : Int) = 0 from rfl] at h1 h2
  rw [h1, h2, h3]
  exact ⟨rfl, _, rfl⟩
theorem st_about (hA : WF A) (hC : CX 24 36 1 A M) (hM : M 88 = A) (hTP : TP M) {x : Int} (hx : pm_i32 x) : ok (f_X_about x M) (fun y => f_Q_about x M = some y) := by
  have w0 := hA.1
  obtain ⟨hx1, hx2⟩ := hx
  obtain ⟨⟨t1, t2, t3, t4, t5⟩, t6, t7, t8, t9⟩ := hC.1
  -- the small numbers
  have small : ¬ (10 ≤ x ∧ x < 30) → ok (f_X_about_J108 x M) (fun y => f_Q_about x M = some y) := by
    intro hs
    unfold f_X_about_J108 f_Q_about f_Told_plinths f_Told_heads f_Moment_day f_Moment_purse f_Told_texts f_Told_ruling f_Steps_count f_Told_countSeen f_Tape_length
    refine ok_ite (fun c => ?_) (fun c => ?_)
    · rw [if_pos c, hM]; exact ok_be rfl (ok_some (congrArg some t1.symm))
    rw [if_neg c]
    refine ok_ite (fun c => ?_) (fun c => ?_)
    · rw [if_pos c, hM]; exact ok_be rfl (ok_some (congrArg some t2.symm))
    rw [if_neg c]
    refine ok_ite (fun c => ?_) (fun c => ?_)
    · rw [if_pos c, hM]; exact ok_be rfl (ok_some (congrArg some (hC.2.1 29 (by omega)).symm))
    rw [if_neg c]
    refine ok_ite (fun c => ?_) (fun c => ?_)
    · rw [if_pos c, hM]; exact ok_be rfl (ok_some (congrArg some (hC.2.1 28 (by omega)).symm))
    rw [if_neg c]
    refine ok_ite (fun c => ?_) (fun c => ?_)
    · rw [if_pos c, hM]; exact ok_be rfl (ok_some (congrArg some t4.symm))
    rw [if_neg c]
    refine ok_ite (fun c => ?_) (fun c => ?_)
    · rw [if_pos c, hM]; exact ok_be rfl (ok_some (congrArg some t5.symm))
    rw [if_neg c]
    refine ok_ite (fun c => ?_) (fun c => ?_)
    · rw [if_pos c, hM]; exact ok_be rfl (ok_some (congrArg some hC.2.2.2.1.symm))
    rw [if_neg c]
    refine ok_ite (fun c => ?_) (fun c => ?_)
    · rw [if_pos c, hM]; exact ok_be rfl (ok_some (congrArg some t3.symm))
    rw [if_neg c]
    refine ok_ite (fun c => ?_) (fun c => ?_)
    · rw [if_pos c]; exact ok_be rfl (ok_some (congrArg some hTP.2.1))
    rw [if_neg c]
    refine ok_ite (fun c => ?_) (fun c => ?_)
    · rw [if_pos c]
      obtain ⟨e, v, hv⟩ := st_debts hA hC hM
      rw [hv] at e
      rw [e, hv]
      exact ok_be rfl (ok_some rfl)
    rw [if_neg c]
    refine ok_some ?_
    have d1 : pb (i_sb x 10) (A 0) = 0 := by
      refine pb_0 ?_
      rw [i_sb_bm]
      unfold Int.bmod
      dsimp only
      split <;> omega
    have d2 : pb (i_sb x 20) (A 0) = 0 := by
      refine pb_0 ?_
      rw [i_sb_bm]
      unfold Int.bmod
      dsimp only
      split <;> omega
    rw [q_isPl (congrFun hM 0) hA.1, ob, d1, if_pos rfl, q_isPl (congrFun hM 0) hA.1, ob, d2, if_pos rfl]
  unfold f_X_about f_X_about_J54
  refine ok_ite (fun c1 => ok_pos (by omega) (small (by omega))) (fun c1 => ?_)
  have nx0 : f_Q_about x M = (f_Q_isPlinth (i_sb x 10) M).bind fun r1323 =>
    if r1323 = 0 then (
      (f_Q_isPlinth (i_sb x 20) M).bind fun r1324 =>
      if r1324 = 0 then (
        some (-2))
      else (
        if 0 ≤ (i_ad (i_ad 10 (i_ml 4 (i_sb x 20))) 2) ∧ (i_ad (i_ad 10 (i_ml 4 (i_sb x 20))) 2) < 4012 then (
        if 0 ≤ (i_ad (i_ad 10 (i_ml 4 (i_sb x 20))) 3) ∧ (i_ad (i_ad 10 (i_ml 4 (i_sb x 20))) 3) < 4012 then (
        some (i_ad (i_ml 10 (M 88 ((i_ad (i_ad 10 (i_ml 4 (i_sb x 20))) 2)).toNat)) (M 88 ((i_ad (i_ad 10 (i_ml 4 (i_sb x 20))) 3)).toNat))) else none) else none))
    else (
      if 0 ≤ (i_ad 10 (i_ml 4 (i_sb x 10))) ∧ (i_ad 10 (i_ml 4 (i_sb x 10))) < 4012 then (
      if 0 ≤ (i_ad (i_ad 10 (i_ml 4 (i_sb x 10))) 1) ∧ (i_ad (i_ad 10 (i_ml 4 (i_sb x 10))) 1) < 4012 then (
      some (i_ad (i_ml 100 (M 88 ((i_ad 10 (i_ml 4 (i_sb x 10)))).toNat)) (M 88 ((i_ad (i_ad 10 (i_ml 4 (i_sb x 10))) 1)).toNat))) else none) else none) := by
    unfold f_Q_about
    rw [if_neg (by omega), if_neg (by omega), if_neg (by omega), if_neg (by omega), if_neg (by omega), if_neg (by omega), if_neg (by omega), if_neg (by omega), if_neg (by omega), if_neg (by omega)]
  refine ok_ite (fun c2 => ok_neg (by omega) (ok_ite (fun c3 => small (by omega)) (fun c3 => ?_))) (fun c2 => ?_)
  · rw [nx0, i_sb_eq (a := x) (b := 10) (by omega), i_sb_eq (a := x) (b := 20) (by omega), q_isPl (congrFun hM 0) hA.1, ob, pb_0 (by omega), if_pos rfl, q_isPl (congrFun hM 0) hA.1, ob]
    refine ok_pl (x_isPl t1 (x - 20)) (fun h1 => ?_) (fun h1 => ?_)
    · have tt := t6 (x - 20).toNat (by omega)
      have ww := hA.2.2.2.2.2.2.1 (x - 20).toNat (by omega)
      rw [pb_1 h1, if_neg (by omega), if_neg (by omega), i_ml_eq (a := 4) (by omega), i_ad_eq (a := 10) (by omega), i_ad_eq (b := 2) (by omega), i_ad_eq (b := 3) (by omega), if_pos (by omega), if_pos (by omega), hM, show ((10 : Int) + 4 * (x - 20) + 2).toNat = 12 + 4 * (x - 20).toNat by omega, show ((10 : Int) + 4 * (x - 20) + 3).toNat = 13 + 4 * (x - 20).toNat by omega]
      unfold f_Told_shadeOf f_Told_viewOf
      rw [if_pos (by omega), if_pos (by omega)]
      refine ok_be (congrArg some tt.2.2.1) (ok_be (congrArg some tt.2.2.2) (ok_some ?_))
      rw [i_ml_eq (by omega), i_ml_eq (by omega), i_ad_eq (by omega), i_ad_eq (by omega)]
      exact congrArg some (by omega)
    · rw [pb_0 h1, if_pos rfl, if_pos rfl]; exact ok_some rfl
  · rw [nx0, i_sb_eq (a := x) (b := 10) (by omega), i_sb_eq (a := x) (b := 20) (by omega), q_isPl (congrFun hM 0) hA.1, ob]
    refine ok_pl (x_isPl t1 (x - 10)) (fun h1 => ?_) (fun h1 => ?_)
    · have tt := t6 (x - 10).toNat (by omega)
      have ww := hA.2.2.2.2.2.2.1 (x - 10).toNat (by omega)
      rw [pb_1 h1, if_neg (by omega), if_neg (by omega), i_ml_eq (a := 4) (b := x - 10) (by omega), i_ad_eq (a := 10) (b := 4 * (x - 10)) (by omega), i_ad_eq (b := 1) (by omega), if_pos (by omega), if_pos (by omega), hM, show ((10 : Int) + 4 * (x - 10)).toNat = 10 + 4 * (x - 10).toNat by omega, show ((10 : Int) + 4 * (x - 10) + 1).toNat = 11 + 4 * (x - 10).toNat by omega]
      unfold f_Told_xOf f_Told_yOf
      rw [if_pos (by omega), if_pos (by omega)]
      refine ok_be (congrArg some tt.1) (ok_be (congrArg some tt.2.1) (ok_some ?_))
      rw [i_ml_eq (by omega), i_ml_eq (by omega), i_ad_eq (by omega), i_ad_eq (by omega)]
      exact congrArg some (by omega)
    · rw [pb_0 h1, if_pos rfl, if_pos rfl, q_isPl (congrFun hM 0) hA.1, ob, pb_0 (by omega), if_pos rfl]; exact ok_some rfl
end
