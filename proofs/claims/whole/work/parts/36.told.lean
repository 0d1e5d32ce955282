/-! WHAT IS TOLD, taken back, kept in an image -/
section
variable {A A' : Nat → Int} {M : pm_M}
theorem rS_B {s : Nat} {A A' : Nat → Int} {M : pm_M} (w : 0 ≤ A 4 ∧ A 4 ≤ 20) (h4 : A' 4 = A 4) (h : ∀ k, 292 ≤ k → k < 4012 → A' k = A k) (H : rS s A M) : rS s A' M := by
  obtain ⟨h1, h2, h3⟩ := H
  refine ⟨h1, by rw [h4]; exact h2, fun j hj i hi => ?_⟩
  rw [h4] at hj ⊢
  rw [h _ (by omega) (by omega)]; exact h3 j hj i hi
theorem rR_B {r : Nat} (h : ∀ k, 70 ≤ k → k < 256 → A' k = A k) (H : rR r A M) : rR r A' M := fun i hi => by rw [h _ (by omega) (by omega)]; exact H i hi
theorem rW_mono {P H P' H' : Int} {r : Nat → Int} (hP : P ≤ P') (hH : H ≤ H') (w : rW P H r) : rW P' H' r := by
  obtain ⟨w1, w2, w3, w4, w5, w6, w7⟩ := w
  refine ⟨fun p hp => ⟨(w1 p hp).1, by have := (w1 p hp).2.1; omega, fun z => (w1 p hp).2.2 (by omega)⟩, w2, w3, fun h hh => ⟨(w4 h hh).1, (w4 h hh).2.1, fun z => (w4 h hh).2.2 (by omega)⟩, w5, w6, w7⟩
/-- well-formed still, where what was told has changed -/
theorem WF_T (H : WF A) (h : ∀ k, k = 4 ∨ (70 ≤ k ∧ k < 256) ∨ (292 ≤ k ∧ k < 4012) → A' k = A k) (h0 : A 0 ≤ A' 0 ∧ A' 0 ≤ 8) (h1 : A 1 ≤ A' 1 ∧ A' 1 ≤ 12) (h2 : 0 ≤ A' 2 ∧ A' 2 ≤ 4) (h3 : -1 ≤ A' 3 ∧ A' 3 < A' 2) (h5 : 0 ≤ A' 5 ∧ A' 5 ≤ 12)
    (h6 : ∀ p, p < 8 → (0 ≤ A' (10 + 4 * p) ∧ A' (10 + 4 * p) ≤ 99) ∧ (0 ≤ A' (11 + 4 * p) ∧ A' (11 + 4 * p) ≤ 99) ∧ (0 ≤ A' (12 + 4 * p) ∧ A' (12 + 4 * p) ≤ 9) ∧ (0 ≤ A' (13 + 4 * p) ∧ A' (13 + 4 * p) ≤ 9))
    (h7 : ∀ h, h < 12 → (0 ≤ A' (42 + 2 * h) ∧ A' (42 + 2 * h) ≤ 9) ∧ (0 ≤ A' (43 + 2 * h) ∧ A' (43 + 2 * h) ≤ 3))
    (h8 : ∀ k : Nat, (k : Int) < A' 5 → (1 ≤ A' (256 + 3 * k) ∧ A' (256 + 3 * k) ≤ 8) ∧ (0 ≤ A' (257 + 3 * k) ∧ A' (257 + 3 * k) < A' 0) ∧ (-1 ≤ A' (258 + 3 * k) ∧ A' (258 + 3 * k) ≤ 3)) : WF A' := by
  obtain ⟨w0, w1, w2, w3, w4, w5, w6, w7, w8, w9, w10⟩ := H
  refine ⟨by omega, by omega, h2, h3, by rw [h 4 (by omega)]; exact w4, h5, h6, h7, h8, ?_, fun j hj => ?_⟩
  · exact rW_mono h0.1 h1.1 (rW_congr (fun i hi => h _ (by omega)) w9)
  · rw [h 4 (by omega)] at hj
    exact rW_mono h0.1 h1.1 (rW_congr (fun i hi => h _ (by omega)) (w10 j hj))
theorem WF_lt (h : ∀ k, k < 4012 → A' k = A k) (H : WF A) : WF A' := by
  obtain ⟨w0, w1, w2, w3, w4, w5, w6, w7, w8, w9, w10⟩ := id H
  refine WF_T H (fun k hk => h k (by omega)) (by rw [h 0 (by omega)]; omega) (by rw [h 1 (by omega)]; omega) (by rw [h 2 (by omega)]; exact w2) (by rw [h 2 (by omega), h 3 (by omega)]; exact w3) (by rw [h 5 (by omega)]; exact w5) (fun p hp => ?_) (fun p hp => ?_) (fun p hp => ?_)
  · rw [h (10 + 4 * p) (by omega), h (11 + 4 * p) (by omega), h (12 + 4 * p) (by omega), h (13 + 4 * p) (by omega)]; exact w6 p hp
  · rw [h (42 + 2 * p) (by omega), h (43 + 2 * p) (by omega)]; exact w7 p hp
  · rw [h 5 (by omega)] at hp
    rw [h (256 + 3 * p) (by omega), h (257 + 3 * p) (by omega), h (258 + 3 * p) (by omega), h 0 (by omega)]; exact w8 p hp
theorem CX_lt {t r s : Nat} (w0 : A 0 ≤ 8) (w4 : 0 ≤ A 4 ∧ A 4 ≤ 20) (h : ∀ k, k < 4012 → A' k = A k) (H : CX t r s A M) : CX t r s A' M := ⟨rT_A w0 (fun k _ hk => h k (by omega)) H.1, rR_B (fun k _ hk => h k (by omega)) H.2.1, rS_B w4 (h 4 (by omega)) (fun k _ hk => h k hk) H.2.2⟩
-- one step back
def uS (A : Nat → Int) : Nat → Int := rU (aS A 4 (A 4 - 1)) (a_stp A ((A 4).toNat - 1))
theorem w_undo (hA : WF A) (hc : A 4 ≠ 0) : WF (uS A) ∧ uS A 2 = A 2 := by
  have w4 := hA.2.2.2.2.1
  have e : ∀ k, k ≠ 4 → k < 70 ∨ 256 ≤ k → uS A k = A k := fun k h1 h2 => by unfold uS; rw [rU_o h2, aSn, if_neg h1]
  have e4 : uS A 4 = A 4 - 1 := by unfold uS; rw [rU_o (by omega), aSn, if_pos rfl]
  refine ⟨?_, e 2 (by omega) (by omega)⟩
  obtain ⟨w0, w1, w2, w3, w4, w5, w6, w7, w8, w9, w10⟩ := hA
  refine ⟨by rw [e 0 (by omega) (by omega)]; exact w0, by rw [e 1 (by omega) (by omega)]; exact w1, by rw [e 2 (by omega) (by omega)]; exact w2, by rw [e 2 (by omega) (by omega), e 3 (by omega) (by omega)]; exact w3, by rw [e4]; omega, by rw [e 5 (by omega) (by omega)]; exact w5, fun p hp => ?_, fun p hp => ?_, fun k hk => ?_, ?_, fun j hj => ?_⟩
  · rw [e (10 + 4 * p) (by omega) (by omega), e (11 + 4 * p) (by omega) (by omega), e (12 + 4 * p) (by omega) (by omega), e (13 + 4 * p) (by omega) (by omega)]; exact w6 p hp
  · rw [e (42 + 2 * p) (by omega) (by omega), e (43 + 2 * p) (by omega) (by omega)]; exact w7 p hp
  · rw [e 5 (by omega) (by omega)] at hk
    rw [e (256 + 3 * k) (by omega) (by omega), e (257 + 3 * k) (by omega) (by omega), e (258 + 3 * k) (by omega) (by omega), e 0 (by omega) (by omega)]; exact w8 k hk
  · rw [e 0 (by omega) (by omega), e 1 (by omega) (by omega)]
    exact rW_congr (fun i hi => by unfold uS; exact a_row_rU hi) (w10 ((A 4).toNat - 1) (by omega))
  · rw [e4] at hj
    rw [e 0 (by omega) (by omega), e 1 (by omega) (by omega)]
    exact rW_congr (fun i hi => e _ (by omega) (by omega)) (w10 j (by omega))
theorem x_undo (hA : WF A) (hC : CX 24 36 1 A M) : ok (f_X_undo M) (XP (A 4 ≠ 0) (-1) (A 4 - 1) (uS A) [1, 36] M) := by
  obtain ⟨hT, hR, ⟨hn, hc, hs⟩⟩ := hC
  have w0 := hA.1
  have w4 := hA.2.2.2.2.1
  obtain ⟨n, en⟩ : ∃ n : Nat, M 1 1 = n := ⟨(M 1 1).toNat, by omega⟩
  obtain ⟨c, ec⟩ : ∃ c : Nat, A 4 = c := ⟨(A 4).toNat, by omega⟩
  unfold f_X_undo f_Steps_takeBack
  rw [hc, en]
  by_cases h0 : A 4 = 0
  · rw [if_pos h0]
    exact ok_be rfl (ok_pos rfl (ok_some (XP_no (fun z => z h0))))
  rw [if_neg h0, i_ad_eq (by omega), i_sb_eq (by omega), i_rm_eq (by omega) (by omega)]
  obtain ⟨n', en'⟩ : ∃ n' : Nat, ((n : Int) + 20 - 1) % 20 = n' := ⟨(n + 19) % 20, by omega⟩
  rw [en']
  simp only [pm_bd]
  have e1 : pm_ms (pm_ms M 1 1 n') 1 2 (i_sb (pm_ms M 1 1 n' 1 2) 1) 1 = aS (aS (M 1) 1 n') 2 (A 4 - 1) := by
    rw [msc, msc, aSn, if_neg (by omega), hc, i_sb_eq (by omega)]
  have e2 : aS (aS (M 1) 1 (n' : Int)) 2 (A 4 - 1) 1 = n' := by rw [aSn, if_neg (by omega), aSn, if_pos rfl]
  generalize hM3 : pm_ms (pm_ms M 1 1 n') 1 2 (i_sb (pm_ms M 1 1 n' 1 2) 1) = M3 at e1 ⊢
  have f3 : fr [1] M M3 := by rw [← hM3]; exact fr_2 (fr_ms (by decide)) (fr_ms (by decide))
  rw [e1, e2, i_ml_eq (by omega)]
  unfold f_Moment_copyFrom
  rw [if_pos (by omega), show ((n' : Int) * 186).toNat = n' * 186 by omega]
  simp only [pm_bd, ob]
  refine ok_neg (by omega) ?_
  unfold f_Steps_count
  have f4 : fr [1, 36] M (pm_cp M3 2 36 (n' * 186) 0 186) := fr_tr f3 (S2 := [36]) (fr_cp (by decide)) (by decide) (by decide)
  have g1 : pm_cp M3 2 36 (n' * 186) 0 186 1 = aS (aS (M 1) 1 (n' : Int)) 2 (A 4 - 1) := by rw [cpn, if_neg (by omega), e1]
  refine ok_be rfl (ok_some (Or.inr ⟨h0, ?_, ⟨?_, ?_, ?_⟩, f4⟩))
  · show pm_cp M3 2 36 (n' * 186) 0 186 1 2 = _
    rw [g1, aSn, if_pos rfl]
  · exact rT_congr (fun k hk => f4 (24 + k) (by simp; omega)) (rT_A (by omega) (fun k h1 h2 => by unfold uS; rw [rU_o (by omega), aSn, if_neg h1]) hT)
  · intro i hi
    show pm_cp M3 2 36 (n' * 186) 0 186 36 i = _
    unfold uS
    rw [rU_i hi, cpn, if_pos rfl, if_pos (by omega), f3 2 (by decide)]
    have := hs (c - 1) (by omega) i hi
    rw [en, ec, tn_nat, tn_nat] at this
    unfold a_stp
    rw [ec, tn_nat, ← this]
    exact congrArg (M 2) (by omega)
  · refine ⟨?_, ?_, fun j hj i hi => ?_⟩
    · show 0 ≤ pm_cp M3 2 36 (n' * 186) 0 186 1 1 ∧ pm_cp M3 2 36 (n' * 186) 0 186 1 1 < 20
      rw [g1, e2]; omega
    · show pm_cp M3 2 36 (n' * 186) 0 186 1 2 = _
      rw [g1, aSn, if_pos rfl]
      unfold uS
      rw [rU_o (by omega), aSn, if_pos rfl]
    · have e4 : uS A 4 = A 4 - 1 := by unfold uS; rw [rU_o (by omega), aSn, if_pos rfl]
      have e5 : uS A (292 + 186 * j + i) = A (292 + 186 * j + i) := by unfold uS; rw [rU_o (by omega), aSn, if_neg (by omega)]
      rw [e4] at hj
      have := hs j (by omega) i hi
      show pm_cp M3 2 36 (n' * 186) 0 186 2 (186 * (((pm_cp M3 2 36 (n' * 186) 0 186 1 1).toNat + 20 - (uS A 4).toNat + j) % 20) + i) = _
      rw [g1, e2, e4, e5, ← this, cpn, if_neg (by omega), f3 2 (by decide), en]
      exact congrArg (M 2) (by omega)
def B23 (A : Nat → Int) (c y : Nat) : Nat → Int := fun k => if 70 ≤ k ∧ k < 70 + y then A (292 + 186 * c + (k - 70)) else A k
theorem q_L23 (A : Nat → Int) (c : Nat) (hc : A 4 = c) (hc2 : c < 20) : ∀ (k n y : Nat) (M : pm_M), y + k = 186 → k < n → M 88 = B23 A c y → ok (f_Q_undo_L23 n y M) (fun M' => M' 88 = B23 A c 186 ∧ fr [88] M M') := by
  intro k
  induction k with
  | zero =>
    intro n y M hy hn hM
    cases n with
    | zero => omega
    | succ n =>
      unfold f_Q_undo_L23
      refine ok_pos (by omega) (ok_some ⟨?_, fr_rf _ _⟩)
      rw [hM, show y = 186 by omega]
  | succ k ih =>
    intro n y M hy hn hM
    cases n with
    | zero => omega
    | succ n =>
      unfold f_Q_undo_L23
      have h4 : M 88 4 = c := by rw [hM]; unfold B23; rw [if_neg (by omega)]; exact hc
      rw [h4]
      simp (disch := omega) only [i_ml_eq, i_ad_eq]
      refine ok_neg (by omega) (ok_pos (by omega) (ok_pos (by omega) (ok_bd ?_)))
      rw [show ((292 : Int) + 186 * (c : Int) + (y : Int)).toNat = 292 + 186 * c + y by omega, show ((70 : Int) + (y : Int)).toNat = 70 + y by omega]
      refine ok_mono (ih n (y + 1) _ (by omega) (by omega) ?_) (fun M' hM' => ⟨hM'.1, fr_2 (fr_ms (by decide)) hM'.2⟩)
      rw [msc, hM]
      funext i
      unfold aS B23
      by_cases hi : i = 70 + y
      · rw [if_pos hi, if_neg (by omega), if_pos (by omega)]
        exact congrArg A (by omega)
      · rw [if_neg hi]
        by_cases h2 : 70 ≤ i ∧ i < 70 + y
        · rw [if_pos h2, if_pos (by omega)]
        · rw [if_neg h2, if_neg (by omega)]
theorem q_undo (hA : WF A) (hM : M 88 = A) : ok (f_Q_undo M) (QP (A 4 ≠ 0) (-1) (A 4 - 1) (uS A) [88] M) := by
  have w4 := hA.2.2.2.2.1
  unfold f_Q_undo
  rw [hM]
  refine ok_ite (fun h0 => ok_some (QP_no (fun z => z h0))) (fun h0 => ok_bd ?_)
  obtain ⟨c, ec⟩ : ∃ c : Nat, A 4 - 1 = c := ⟨(A 4 - 1).toNat, by omega⟩
  rw [i_sb_eq (by omega), ec]
  refine ok_bind (q_L23 (aS A 4 c) c (by rw [aSn, if_pos rfl]) (by omega) 186 pm_F 0 _ (by omega) (by unfold pm_F; omega) ?_) ?_
  · rw [msc, hM]; funext i; unfold B23; rw [if_neg (by omega)]
  intro M2 h2
  have hu : M2 88 = uS A := by
    rw [h2.1]
    funext k
    unfold B23 uS rU a_stp
    by_cases hk : 70 ≤ k ∧ k < 256
    · rw [if_pos (by omega), if_pos hk, aSn, if_neg (by omega)]
      exact congrArg A (by omega)
    · rw [if_neg (by omega), if_neg hk, ec]
  refine ok_some (Or.inr ⟨h0, ?_, hu, fr_2 (fr_ms (by decide)) h2.2⟩)
  show M2 88 4 = _
  rw [hu]; unfold uS; rw [rU_o (by omega), aSn, if_pos rfl, ec]
-- by, forget
theorem st_by (hS : St M) (x : Int) : ok (f_X_by x M) (fun y => ok (f_Q_by x y.2) (fun z => y.1 = z.1 ∧ St z.2 ∧ z.2 88 2 = M 88 2 ∧ Kp M z.2)) := by
  obtain ⟨hA, hC⟩ := hS
  generalize hAA : M 88 = A at *
  have w2 := hA.2.2.1
  have hX : ok (f_X_by x M) (XP (x = -1 ∨ (0 ≤ x ∧ x < A 2)) 0 1 (aS A 3 x) [24] M) := by
    unfold f_X_by f_Told_ruledBy
    have key : x = -1 ∨ (0 ≤ x ∧ x < A 2) → XP (x = -1 ∨ (0 ≤ x ∧ x < A 2)) 0 1 (aS A 3 x) [24] M (1, pm_ms M 24 14 x) := by
      intro hx
      refine Or.inr ⟨hx, rfl, ⟨?_, rR_B (fun k _ _ => by rw [aSn, if_neg (by omega)]) (rR_congr (by show pm_ms M 24 14 x 36 = M 36; rw [msn, if_neg (by omega)]) hC.2.1), rS_B hA.2.2.2.2.1 (by rw [aSn, if_neg (by omega)]) (fun k _ _ => by rw [aSn, if_neg (by omega)]) (rS_congr (by show pm_ms M 24 14 x 1 = M 1; rw [msn, if_neg (by omega)]) (by show pm_ms M 24 14 x 2 = M 2; rw [msn, if_neg (by omega)]) hC.2.2)⟩, fr_ms (by decide)⟩
      obtain ⟨⟨t1, t2, t3, t4, t5⟩, t6, t7, t8, t9⟩ := hC.1
      have e : ∀ k, k ≠ 3 → aS A 3 x k = A k := fun k h => by rw [aSn, if_neg h]
      have c0 : ∀ k, 1 ≤ k → pm_ms M 24 14 x (24 + k) = M (24 + k) := fun k hk => by rw [msn, if_neg (by omega)]
      refine ⟨?_, fun p hp => ?_, fun p hp => ?_, fun p hp => ?_, fun p hp => ?_⟩
      · show (pm_ms M 24 14 x 24 10 = _ ∧ pm_ms M 24 14 x 24 11 = _ ∧ pm_ms M 24 14 x 24 12 = _ ∧ pm_ms M 24 14 x 24 13 = _ ∧ pm_ms M 24 14 x 24 14 = _)
        have g : ∀ k, k ≠ 14 → pm_ms M 24 14 x 24 k = M 24 k := fun k hk => by rw [msc, aSn, if_neg hk]
        rw [g 10 (by omega), g 11 (by omega), g 12 (by omega), g 13 (by omega), e 0 (by omega), e 1 (by omega), e 5 (by omega), e 2 (by omega), msc]
        exact ⟨t1, t2, t3, t4, rfl⟩
      · show pm_ms M 24 14 x (24 + 1) p = _ ∧ pm_ms M 24 14 x (24 + 2) p = _ ∧ pm_ms M 24 14 x (24 + 3) p = _ ∧ pm_ms M 24 14 x (24 + 4) p = _
        rw [c0 1 (by omega), c0 2 (by omega), c0 3 (by omega), c0 4 (by omega), e (10 + 4 * p) (by omega), e (11 + 4 * p) (by omega), e (12 + 4 * p) (by omega), e (13 + 4 * p) (by omega)]
        exact t6 p hp
      · show pm_ms M 24 14 x (24 + 5) p = _
        rw [e 0 (by omega)] at hp ⊢
        rw [c0 5 (by omega), t7 p hp, a_cl_congr (by have := hA.1; omega) (fun k _ _ => e k (by omega)) _ (by have := hA.1; omega)]
      · show pm_ms M 24 14 x (24 + 6) p = _ ∧ pm_ms M 24 14 x (24 + 7) p = _
        rw [c0 6 (by omega), c0 7 (by omega), e (42 + 2 * p) (by omega), e (43 + 2 * p) (by omega)]; exact t8 p hp
      · show pm_ms M 24 14 x (24 + 8) p = _ ∧ pm_ms M 24 14 x (24 + 9) p = _ ∧ pm_ms M 24 14 x (24 + 10) p = _
        rw [c0 8 (by omega), c0 9 (by omega), c0 10 (by omega), e (256 + 3 * p) (by omega), e (257 + 3 * p) (by omega), e (258 + 3 * p) (by omega)]; exact t9 p hp
    refine ok_ite (fun h1 => ok_be rfl (ok_some (key (Or.inl h1)))) (fun h1 => ?_)
    refine ok_pl (x_isTx hC.1.1.2.2.2.1 x) (fun h2 => ok_neg (by omega) (ok_be rfl (ok_some (key (Or.inr h2))))) (fun h2 => ok_pos rfl (ok_some (XP_no (fun z => z.elim h1 h2))))
  refine ok_mono hX (fun y hy => ?_)
  rw [← hAA] at hy hA ⊢
  refine st_comb (fQ := f_Q_by x) ⟨hA, by rw [hAA]; exact hC⟩ hy (SQ := [88]) (fun M1 e1 => ?_) (fun hc => ?_) ⟨by decide, by decide⟩ ⟨by decide, by decide⟩
  · rw [hAA] at e1 ⊢
    unfold f_Q_by
    have key : x = -1 ∨ (0 ≤ x ∧ x < A 2) → QP (x = -1 ∨ (0 ≤ x ∧ x < A 2)) 0 1 (aS A 3 x) [88] M1 (1, pm_ms M1 88 3 x) := fun hx => Or.inr ⟨hx, rfl, by show pm_ms M1 88 3 x 88 = _; rw [msc, e1], fr_ms (by decide)⟩
    refine ok_ite (fun h1 => ok_bd (ok_some (key (Or.inl h1)))) (fun h1 => ?_)
    rw [e1]
    refine ok_pl (q_in_pb x (A 2) M1 (by omega)) (fun h2 => ok_neg (by omega) (ok_bd (ok_some (key (Or.inr h2))))) (fun h2 => ok_pos rfl (ok_some (QP_no (fun z => z.elim h1 h2))))
  · rw [hAA] at hc hA ⊢
    obtain ⟨w0, w1, w2, w3, w4, w5, w6, w7, w8, w9, w10⟩ := id hA
    have e : ∀ k, k ≠ 3 → aS A 3 x k = A k := fun k h => by rw [aSn, if_neg h]
    refine ⟨WF_T hA (fun k hk => e k (by omega)) (by rw [e 0 (by omega)]; omega) (by rw [e 1 (by omega)]; omega) (by rw [e 2 (by omega)]; exact w2) (by rw [e 2 (by omega), aSn, if_pos rfl]; omega) (by rw [e 5 (by omega)]; exact w5) (fun p hp => ?_) (fun p hp => ?_) (fun p hp => ?_), e 2 (by omega)⟩
    · rw [e (10 + 4 * p) (by omega), e (11 + 4 * p) (by omega), e (12 + 4 * p) (by omega), e (13 + 4 * p) (by omega)]; exact w6 p hp
    · rw [e (42 + 2 * p) (by omega), e (43 + 2 * p) (by omega)]; exact w7 p hp
    · rw [e 5 (by omega)] at hp
      rw [e (256 + 3 * p) (by omega), e (257 + 3 * p) (by omega), e (258 + 3 * p) (by omega), e 0 (by omega)]; exact w8 p hp
end
